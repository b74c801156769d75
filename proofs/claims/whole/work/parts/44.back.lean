/-! visits, undo, keep, back -/
theorem q_sub1 {x : Nat} (h : 1 ≤ x) : nI x - (1 : Int32) = nI (x - 1) := pk_sub (a := x) (b := 1) h
theorem p_visits : ok_visits Inv := by
  intro a h hI
  obtain ⟨N, M, D, a1, ⟨P, a2⟩, a3, a4, a5, a6⟩ := id hI
  obtain ⟨t1, t2, t3, t4, t5, t6, -⟩ := id a1
  obtain ⟨c0, c1, c2, c3, c4, c5, c6⟩ := id a2
  rcases q_arg a N (by omega) with ⟨t, ht, rfl⟩ | hb
  · have hb : 0 ≤ (nI t).toInt ∧ (nI t).toInt < N := by rw [q_ti (by omega)]; omega
    have hpl : h.1 21 (19 * P + (7 + t)) = h.1 47 (7 + t) := by have := (c5.2 t ht).2.1; simpa using this
    obtain ⟨x, x1, x2⟩ := (c4.2.1 t ht).1
    have x2 : h.1 47 (1 + t) = nI x := by simpa using x2
    have hht : h.1 21 (19 * P + (1 + t)) = nI x := by have := (c5.2 t ht).1; simp only [Nat.zero_add] at this; rw [this]; exact x2
    by_cases h9 : h.1 47 (7 + t) = -9
    · refine ⟨-2, h, h, ?_, ?_, hI⟩
      · unfold f8_visits_0
        simp only [q_hasT _ t3 t1, Option.bind_some, if_pos hb, q_place c2 c1 (show t < 6 by omega), q_heat c2 c1 (show t < 6 by omega), jv_let, hpl, h9]
        rfl
      · unfold f9_visits_40
        simp only [q_isT _ t5 t1, Option.bind_some, if_pos hb, jv_let]
        simp (disch := omega) only [w7, nI_add, q_ix, q_cl, if_pos, h9]
        rfl
    · by_cases hx0 : x = 0
      · subst hx0
        refine ⟨-2, h, h, ?_, ?_, hI⟩
        · unfold f8_visits_0
          simp only [q_hasT _ t3 t1, Option.bind_some, if_pos hb, q_place c2 c1 (show t < 6 by omega), q_heat c2 c1 (show t < 6 by omega), jv_let, hpl, if_neg h9, hht]
          rfl
        · unfold f9_visits_40
          simp only [q_isT _ t5 t1, Option.bind_some, if_pos hb, jv_let]
          simp (disch := omega) only [w7, nI_add, q_ix, q_cl, if_pos, if_neg h9, q_mheat, Option.bind_some, x2]
          rfl
      · obtain ⟨h1, P', s, f1, f2, f3, f4, f4', f5, f6, f7, f8, f9⟩ := q_remember c2 c1
        have hm : (jv_p h1 21 (19 * P' + (1 + t)) (nI (x - 1))).1 47 19 = nI P := by rw [q_p_k _ (by omega), f6 _ (by omega) (by omega)]; exact c3
        obtain ⟨h3, P'', s', g1, g2, g3, g4, g4', g5, g6, g7, g8, g9⟩ := q_save hm c1
        have hs : s' = s := by rw [g4', f4']
        subst hs
        have hP : P'' = P' := by omega
        subst hP
        have k48 : (jv_p h1 21 (19 * P'' + (1 + t)) (nI (x - 1))).1 47 = h.1 47 := by rw [q_p_k _ (by omega), f6 _ (by omega) (by omega)]
        have hx0' : ¬ nI x = 0 := by rw [q_eq0 (by omega)]; exact hx0
        refine ⟨nI (x - 1), jv_p h1 21 (19 * P'' + (1 + t)) (nI (x - 1)), jv_p h3 47 (1 + t) (nI (x - 1)), ?_, ?_, ?_⟩
        · unfold f8_visits_0
          simp only [q_hasT _ t3 t1, Option.bind_some, if_pos hb, q_place c2 c1 (show t < 6 by omega), q_heat c2 c1 (show t < 6 by omega), jv_let, hpl, if_neg h9, hht, if_neg hx0', f1, q_sub1 (show 1 ≤ x by omega), q_setHeat _ f5 f3 (show t < 6 by omega)]
          rfl
        · have t5' : (jv_p h1 21 (19 * P'' + (1 + t)) (nI (x - 1))).1 40 0 = nI N := by rw [q_p_k _ (by omega), f6 _ (by omega) (by omega)]; exact t5
          have e8 : h3.1 47 (1 + t) = nI x := by rw [g8 _ (by omega), k48]; exact x2
          unfold f9_visits_40
          simp only [q_isT _ t5' t1, Option.bind_some, if_pos hb, jv_let]
          simp (disch := omega) only [w7, w1, nI_add, q_ix, q_cl, if_pos, k48, if_neg h9, q_mheat, Option.bind_some, x2, if_neg hx0', g1, e8]
          rw [← w1, q_sub1 (show 1 ≤ x by omega), q_p_same]
          rw [if_neg (by decide)]
        · refine Inv.put a1 a2 a3 a4 a5 a6 (show 1 + t < 19 by omega) f2 f3 f5 f6 f7 f8 f9 g5 g6 (g7.trans ?_) (fun j hj => ?_) (fun r hr j hj => ?_) ?_
          · rw [q_p_2, f7]
          · rw [g8 j hj, k48]
          · rw [g9 r hr j hj, k48]
          · exact Rw.heat c0 (c4.cg c0 (fun j _ => by rw [Nat.zero_add])) ht (by omega)
  · refine ⟨-1, h, h, ?_, ?_, hI⟩
    · unfold f8_visits_0
      simp only [q_hasT _ t3 t1, Option.bind_some, if_neg hb]
      rfl
    · unfold f9_visits_40
      simp only [q_isT _ t5 t1, Option.bind_some, if_neg hb]
      rfl
theorem q_undo {U : Nat} (hU : U ≤ 9) : ∀ (m k fuel : Nat) (h : jv_H), h.1 47 19 = nI U → k + m = 19 → m < fuel → f9_undo_40_l26 fuel (nI k) h = some (nI U, jv_s h 47 (fun i => if k ≤ i ∧ i < 19 then h.1 47 (20 + 19 * U + i) else h.1 47 i)) := by
  intro m
  induction m with
  | zero =>
    intro k fuel h h19 hk hf
    obtain ⟨n, rfl⟩ : ∃ n, fuel = n + 1 := ⟨fuel - 1, by omega⟩
    show g9_undo_40_b26 (f9_undo_40_l26 n) (nI k) h = _
    unfold g9_undo_40_b26
    simp (disch := omega) only [w19, q_le, q_ix, q_cl, h19]
    rw [if_pos (by omega), if_pos (by omega)]
    congr 2
    have : (fun i => if k ≤ i ∧ i < 19 then h.1 47 (20 + 19 * U + i) else h.1 47 i) = h.1 47 := by
      funext i
      rw [if_neg (by omega)]
    rw [this]
    unfold jv_s
    ext a : 1
    · funext a
      by_cases ha : a = 47 <;> simp [ha]
    · rfl
  | succ m ih =>
    intro k fuel h h19 hk hf
    obtain ⟨n, rfl⟩ : ∃ n, fuel = n + 1 := ⟨fuel - 1, by omega⟩
    show g9_undo_40_b26 (f9_undo_40_l26 n) (nI k) h = _
    unfold g9_undo_40_b26
    simp (disch := omega) only [w19, w20, w1, q_cl, h19, nI_add, pk_mul]
    simp (disch := omega) only [q_le, q_ix, q_cl, jv_let]
    rw [if_neg (by omega), if_pos (by omega), if_pos (by omega), if_pos (by omega), ih (k + 1) n _ (by rw [q_p_j _ (by omega)]; exact h19) (by omega) (by omega), s_p]
    congr 3
    funext i
    by_cases hi : i = k
    · subst hi
      simp (disch := omega) only [if_neg, if_pos, q_p_same]
    · by_cases h2 : k ≤ i ∧ i < 19
      · simp (disch := omega) only [if_pos, q_p_j]
      · simp (disch := omega) only [if_neg, q_p_j]
theorem p_undo : ok_undo Inv := by
  intro h hI
  obtain ⟨N, M, D, a1, ⟨P, a2⟩, a3, a4, a5, a6⟩ := id hI
  obtain ⟨c0, c1, c2, c3, c4, c5, c6⟩ := id a2
  have c3 : h.1 47 19 = nI P := by simpa using c3
  by_cases hP : P = 0
  · subst hP
    refine ⟨-2, h, h, ?_, ?_, hI⟩
    · unfold f8_undo_0 f1_stepBack_20
      rw [c2]
      rfl
    · unfold f9_undo_40
      simp (disch := omega) only [w19, q_ix, q_cl, c3]
      rfl
  · have hp0 : ¬ nI P = 0 := by rw [q_eq0 (by omega)]; exact hP
    have h0p : 0 < nI P := by rw [w0, q_lt (by omega) (by omega)]; omega
    refine ⟨nI (P - 1), jv_p h 20 1 (nI (P - 1)), jv_s (jv_p (jv_p h 20 1 (nI (P - 1))) 47 19 (nI (P - 1))) 47 (fun i => if 0 ≤ i ∧ i < 19 then (jv_p (jv_p h 20 1 (nI (P - 1))) 47 19 (nI (P - 1))).1 47 (20 + 19 * (P - 1) + i) else (jv_p (jv_p h 20 1 (nI (P - 1))) 47 19 (nI (P - 1))).1 47 i), ?_, ?_, ?_⟩
    · unfold f8_undo_0 f1_stepBack_20
      simp only [c2, if_pos h0p, jv_let, q_sub1 (show 1 ≤ P by omega), Option.bind_some, q_p_same]
      rfl
    · unfold f9_undo_40
      have e : (jv_p h 20 1 (nI (P - 1))).1 47 19 = nI P := by rw [q_p_k _ (by omega)]; exact c3
      simp (disch := omega) only [w19, q_ix, q_cl, e, if_pos, if_neg hp0, jv_let, q_sub1 (show 1 ≤ P by omega)]
      exact q_undo (U := P - 1) (by omega) 19 0 jv_fuel _ (q_p_same _ _ _ _) (by omega) (by unfold jv_fuel; omega)
    · generalize hfe : jv_s (jv_p (jv_p h 20 1 (nI (P - 1))) 47 19 (nI (P - 1))) 47 (fun i => if 0 ≤ i ∧ i < 19 then (jv_p (jv_p h 20 1 (nI (P - 1))) 47 19 (nI (P - 1))).1 47 (20 + 19 * (P - 1) + i) else (jv_p (jv_p h 20 1 (nI (P - 1))) 47 19 (nI (P - 1))).1 47 i) = hf
      have g : ∀ k, ¬ k = 20 → ¬ k = 47 → hf.1 k = h.1 k := fun k k1 k2 => by rw [← hfe, s_ne _ _ k2, q_p_k _ k2, q_p_k _ k1]
      have g20 : hf.1 20 1 = nI (P - 1) := by rw [← hfe, s_ne _ _ (by omega), q_p_k _ (by omega), q_p_same]
      have g19 : hf.1 47 19 = nI (P - 1) := by rw [← hfe, s_at, if_neg (by omega), q_p_same]
      have gcur : ∀ j, j < 19 → hf.1 47 j = h.1 47 (20 + 19 * (P - 1) + j) := fun j hj => by rw [← hfe, s_at, if_pos (by omega), q_p_j _ (by omega), q_p_k _ (by omega)]
      have gpast : ∀ j, 20 ≤ j → hf.1 47 j = h.1 47 j := fun j hj => by rw [← hfe, s_at, if_neg (by omega), q_p_j _ (by omega), q_p_k _ (by omega)]
      have g2 : hf.2 = h.2 := by rw [← hfe]; rfl
      refine ⟨N, M, D, a1.eq (fun k _ _ _ => g k (by omega) (by omega)) (by rw [g 40 (by omega) (by omega)]) (by rw [g 40 (by omega) (by omega)]) (fun k _ _ => g k (by omega) (by omega)), ⟨P - 1, ?_⟩, a3.eq (fun k _ _ => g k (by omega) (by omega)) (g _ (by omega) (by omega)) (g _ (by omega) (by omega)), a4.eq (by rw [g _ (by omega) (by omega)]) (by rw [g _ (by omega) (by omega)]) (g _ (by omega) (by omega)) (g _ (by omega) (by omega)), a5.eq (by rw [g _ (by omega) (by omega)]) (by rw [g _ (by omega) (by omega)]) (g _ (by omega) (by omega)) (g _ (by omega) (by omega)) (g _ (by omega) (by omega)) (g _ (by omega) (by omega)), by rw [g2]; exact a6⟩
      have d := c6 (P - 1) (by omega)
      refine ⟨c0, by omega, g20, g19, d.1.cg c0 (fun j hj => ?_), d.2.cg c0 (fun j hj => by rw [g 21 (by omega) (by omega)]) (fun j hj => ?_), fun r hr => ?_⟩
      · rw [Nat.zero_add, gcur j hj, Nat.zero_add]
      · rw [Nat.zero_add, gcur j hj, Nat.zero_add]
      · have d := c6 r (by omega)
        exact ⟨d.1.cg c0 (fun j hj => gpast _ (by omega)), d.2.cg c0 (fun j hj => by rw [g 21 (by omega) (by omega)]) (fun j hj => gpast _ (by omega))⟩
theorem q_keep {i : Nat} (hi : i < 2) : ∀ (m k fuel : Nat) (h : jv_H), k + m = 210 → m < fuel → f9_keep_40_l14 fuel (nI i) (nI k) h = some (h.1 47 0, jv_p (jv_s h 48 (fun j => if 210 * i + k ≤ j ∧ j < 210 * i + 210 then h.1 47 (j - 210 * i) else h.1 48 j)) 49 i 1) := by
  intro m
  induction m with
  | zero =>
    intro k fuel h hk hf
    obtain ⟨n, rfl⟩ : ∃ n, fuel = n + 1 := ⟨fuel - 1, by omega⟩
    show g9_keep_40_b14 (f9_keep_40_l14 n) (nI i) (nI k) h = _
    unfold g9_keep_40_b14
    simp (disch := omega) only [w210, q_le, q_ix, q_cl, jv_let, if_pos]
    rw [if_pos (by decide)]
    have e1 : (fun j => if 210 * i + k ≤ j ∧ j < 210 * i + 210 then h.1 47 (j - 210 * i) else h.1 48 j) = h.1 48 := by
      funext j
      rw [if_neg (by omega)]
    have e2 : jv_s h 48 (h.1 48) = h := by
      unfold jv_s
      ext a : 1
      · funext a
        by_cases ha : a = 48 <;> simp [ha]
      · rfl
    rw [e1, e2, q_p_k _ (by omega)]
    rfl
  | succ m ih =>
    intro k fuel h hk hf
    obtain ⟨n, rfl⟩ : ∃ n, fuel = n + 1 := ⟨fuel - 1, by omega⟩
    show g9_keep_40_b14 (f9_keep_40_l14 n) (nI i) (nI k) h = _
    unfold g9_keep_40_b14
    simp (disch := omega) only [w210, w1, nI_add, pk_mul]
    simp (disch := omega) only [q_le, q_ix, q_cl, jv_let]
    rw [if_neg (by omega), if_pos (by omega), if_pos (by omega), ih (k + 1) n _ (by omega) (by omega), s_p, q_p_k _ (by omega)]
    congr 4
    funext j
    by_cases hj : j = 210 * i + k
    · subst hj
      simp (disch := omega) only [if_neg, if_pos, q_p_same]
      exact congrArg (h.1 47) (by omega)
    · by_cases h2 : 210 * i + k ≤ j ∧ j < 210 * i + 210
      · simp (disch := omega) only [if_pos, q_p_j, q_p_k]
      · simp (disch := omega) only [if_neg, q_p_j, q_p_k]
theorem q_back {i : Nat} (hi : i < 2) : ∀ (m k fuel : Nat) (h : jv_H), k + m = 210 → m < fuel → ∃ hf, f9_back_40_l26 fuel (nI i) (nI k) h = some (hf.1 47 0, hf) ∧ hf = jv_s h 47 (fun j => if k ≤ j ∧ j < 210 then h.1 48 (210 * i + j) else h.1 47 j) := by
  intro m
  induction m with
  | zero =>
    intro k fuel h hk hf
    obtain ⟨n, rfl⟩ : ∃ n, fuel = n + 1 := ⟨fuel - 1, by omega⟩
    refine ⟨h, ?_, ?_⟩
    · show g9_back_40_b26 (f9_back_40_l26 n) (nI i) (nI k) h = _
      unfold g9_back_40_b26
      simp (disch := omega) only [w210, q_le, if_pos]
      rw [if_pos (by decide)]
      rfl
    · have : (fun j => if k ≤ j ∧ j < 210 then h.1 48 (210 * i + j) else h.1 47 j) = h.1 47 := by
        funext j
        rw [if_neg (by omega)]
      rw [this]
      unfold jv_s
      ext a : 1
      · funext a
        by_cases ha : a = 47 <;> simp [ha]
      · rfl
  | succ m ih =>
    intro k fuel h hk hf
    obtain ⟨n, rfl⟩ : ∃ n, fuel = n + 1 := ⟨fuel - 1, by omega⟩
    obtain ⟨hf', e1, e2⟩ := ih (k + 1) n (jv_p h 47 k (h.1 48 (210 * i + k))) (by omega) (by omega)
    refine ⟨hf', ?_, ?_⟩
    · show g9_back_40_b26 (f9_back_40_l26 n) (nI i) (nI k) h = _
      unfold g9_back_40_b26
      simp (disch := omega) only [w210, w1, nI_add, pk_mul]
      simp (disch := omega) only [q_le, q_ix, q_cl, jv_let]
      rw [if_neg (by omega), if_pos (by omega), if_pos (by omega), e1]
    · rw [e2, s_p]
      congr 1
      funext j
      by_cases hj : j = k
      · subst hj
        simp (disch := omega) only [if_neg, if_pos, q_p_same]
      · by_cases h2 : k ≤ j ∧ j < 210
        · simp (disch := omega) only [if_pos, q_p_j, q_p_k]
        · simp (disch := omega) only [if_neg, q_p_j, q_p_k]
theorem q_take (h : jv_H) (a b i : Nat) (hi : i < 209) : (jv_y h a b (0 : Int32) (0 : Int32) (209 : Int32)).1 b i = h.1 a i := by
  rw [q_y_b]
  simp (disch := omega) only [w0, w209, q_cl, if_pos, Nat.zero_add, Nat.sub_zero]
theorem p_keep : ok_keep Inv := by
  intro a h hI
  obtain ⟨N, M, D, a1, ⟨P, a2⟩, a3, a4, a5, a6⟩ := id hI
  obtain ⟨c0, c1, c2, c3, c4, c5, c6⟩ := id a2
  have hcp : jv_cp (0 : Int32) (0 : Int32) (209 : Int32) 209 209 := by decide
  by_cases hb : 0 ≤ a.toInt ∧ a.toInt ≤ 1
  · obtain ⟨i, hi, rfl⟩ : ∃ t, t < 2 ∧ a = nI t := by
      rcases q_arg a 2 (by omega) with q | q
      · exact q
      · exact absurd hb (by omega)
    -- the class: course to image i
    obtain ⟨⟨b, b4, b0⟩, a3⟩ := a3
    obtain ⟨c, s1, s2, s3, s4⟩ : ∃ c, c < 4 ∧ (nI b ||| ((1 : Int32) <<< (nI i &&& 31))) = nI c ∧ (¬ kq (nI c) i = 0) ∧ ∀ j, j < 2 → ¬ j = i → kq (nI c) j = kq (nI b) j := ⟨_, kq_set b b4 i hi⟩
    obtain ⟨h1, e1, g1, g2, g3, g5, g6⟩ : ∃ h1, f8_keep_0 (nI i) h = some (h.1 21 (19 * P + 0), h1) ∧ h1.1 (35 + 2 * i) 1 = nI P ∧ (∀ j, j < 209 → h1.1 (36 + 2 * i) j = h.1 21 j) ∧ h1.1 0 11 = nI c ∧ (∀ k, ¬ k = 35 + 2 * i → ¬ k = 36 + 2 * i → ¬ k = 0 → h1.1 k = h.1 k) ∧ h1.2 = h.2 := by
      rcases (show i = 0 ∨ i = 1 by omega) with rfl | rfl
      · refine ⟨jv_p (jv_y (jv_p h 35 1 (nI P)) 21 36 (0 : Int32) (0 : Int32) (209 : Int32)) 0 11 (nI c), ?_, ?_, fun j hj => ?_, ?_, fun k k1 k2 k3 => ?_, rfl⟩
        · have hy : (jv_p (jv_y (jv_p h 35 1 (nI P)) 21 36 (0 : Int32) (0 : Int32) (209 : Int32)) 0 11 (nI c)).1 20 1 = nI P := by rw [q_p_k _ (by omega), q_y_k _ (by omega), q_p_k _ (by omega)]; exact c2
          have hyr := q_year hy c1
          have hz : (jv_p (jv_y (jv_p h 35 1 (nI P)) 21 36 (0 : Int32) (0 : Int32) (209 : Int32)) 0 11 (nI c)).1 21 = h.1 21 := by rw [q_p_k _ (by omega), q_y_k _ (by omega), q_p_k _ (by omega)]
          have hw : (jv_y (jv_p h 35 1 (nI P)) 21 36 (0 : Int32) (0 : Int32) (209 : Int32)).1 0 11 = nI b := by rw [q_y_k _ (by omega), q_p_k _ (by omega)]; exact b0
          unfold f8_keep_0 f8_imageOf_0 f1_take_35_20 f8_bit
          simp only [q_within, Option.bind_some, show (0 : Int32).toInt = 0 from rfl, show (1 : Int32).toInt = 1 from rfl, if_pos hb, jv_let, c2, if_pos hcp, if_pos (show nI 0 = 0 from rfl)]
          rw [if_neg (by decide)]
          simp only [if_true, hw, s2, hyr, Option.bind_some, hz]
        · rw [q_p_k _ (by omega), q_y_k _ (by omega), q_p_same]
        · rw [q_p_k _ (by omega), q_take _ _ _ _ hj, q_p_k _ (by omega)]
        · rw [q_p_same]
        · rw [q_p_k _ k3, q_y_k _ k2, q_p_k _ k1]
      · refine ⟨jv_p (jv_y (jv_p h 37 1 (nI P)) 21 38 (0 : Int32) (0 : Int32) (209 : Int32)) 0 11 (nI c), ?_, ?_, fun j hj => ?_, ?_, fun k k1 k2 k3 => ?_, rfl⟩
        · have hy : (jv_p (jv_y (jv_p h 37 1 (nI P)) 21 38 (0 : Int32) (0 : Int32) (209 : Int32)) 0 11 (nI c)).1 20 1 = nI P := by rw [q_p_k _ (by omega), q_y_k _ (by omega), q_p_k _ (by omega)]; exact c2
          have hyr := q_year hy c1
          have hz : (jv_p (jv_y (jv_p h 37 1 (nI P)) 21 38 (0 : Int32) (0 : Int32) (209 : Int32)) 0 11 (nI c)).1 21 = h.1 21 := by rw [q_p_k _ (by omega), q_y_k _ (by omega), q_p_k _ (by omega)]
          have hne : ¬ nI 1 = 0 := by decide
          have hw : (jv_y (jv_p h 37 1 (nI P)) 21 38 (0 : Int32) (0 : Int32) (209 : Int32)).1 0 11 = nI b := by rw [q_y_k _ (by omega), q_p_k _ (by omega)]; exact b0
          unfold f8_keep_0 f8_imageOf_0 f1_take_37_20 f8_bit
          simp only [q_within, Option.bind_some, show (0 : Int32).toInt = 0 from rfl, show (1 : Int32).toInt = 1 from rfl, if_pos hb, jv_let, c2, if_pos hcp, if_neg hne]
          rw [if_neg (by decide), if_neg (by decide)]
          simp only [if_true, hw, s2, hyr, Option.bind_some, hz]
        · rw [q_p_k _ (by omega), q_y_k _ (by omega), q_p_same]
        · rw [q_p_k _ (by omega), q_take _ _ _ _ hj, q_p_k _ (by omega)]
        · rw [q_p_same]
        · rw [q_p_k _ k3, q_y_k _ k2, q_p_k _ k1]
    have hy0 : h.1 21 (19 * P + 0) = h.1 47 0 := by have := c5.1; simpa using this
    have m48 : h1.1 47 = h.1 47 := g5 _ (by omega) (by omega) (by omega)
    refine ⟨h.1 21 (19 * P + 0), h1, jv_p (jv_s h1 48 (fun j => if 210 * i + 0 ≤ j ∧ j < 210 * i + 210 then h1.1 47 (j - 210 * i) else h1.1 48 j)) 49 i 1, e1, ?_, ?_⟩
    · unfold f9_keep_40
      simp only [q_in, Option.bind_some, show (0 : Int64).toInt = 0 from rfl, show (1 : Int64).toInt = 1 from rfl, if_pos hb, jv_let]
      rw [if_neg (by decide), w0, q_keep hi 210 0 jv_fuel h1 (by omega) (by unfold jv_fuel; omega), m48, ← hy0]
    · generalize hfe : jv_p (jv_s h1 48 (fun j => if 210 * i + 0 ≤ j ∧ j < 210 * i + 210 then h1.1 47 (j - 210 * i) else h1.1 48 j)) 49 i 1 = hf
      have k0 : ∀ k, ¬ k = 48 → ¬ k = 49 → hf.1 k = h1.1 k := fun k k1 k2 => by rw [← hfe, q_p_k _ k2, s_ne _ _ k1]
      have g : ∀ k, ¬ k = 48 → ¬ k = 49 → ¬ k = 35 + 2 * i → ¬ k = 36 + 2 * i → ¬ k = 0 → hf.1 k = h.1 k := fun k k1 k2 k3 k4 k5 => by rw [k0 k k1 k2, g5 k k3 k4 k5]
      have g50 : hf.1 49 i = 1 := by rw [← hfe, q_p_same]
      have g50' : ∀ j, ¬ j = i → hf.1 49 j = h.1 49 j := fun j hj => by rw [← hfe, q_p_j _ hj, s_ne _ _ (by omega), g5 _ (by omega) (by omega) (by omega)]
      have g49 : ∀ j, hf.1 48 j = if 210 * i + 0 ≤ j ∧ j < 210 * i + 210 then h.1 47 (j - 210 * i) else h.1 48 j := fun j => by rw [← hfe, q_p_k _ (by omega), s_at, m48, g5 48 (by omega) (by omega) (by omega)]
      have gt : hf.2 = h.2 := by rw [← hfe]; exact g6
      refine ⟨N, M, D, a1.eq (fun k _ _ _ => g k (by omega) (by omega) (by omega) (by omega) (by omega)) (by rw [g 40 (by omega) (by omega) (by omega) (by omega) (by omega)]) (by rw [g 40 (by omega) (by omega) (by omega) (by omega) (by omega)]) (fun k _ _ => g k (by omega) (by omega) (by omega) (by omega) (by omega)), ⟨P, a2.eq (by rw [g 20 (by omega) (by omega) (by omega) (by omega) (by omega)]) (fun j _ => by rw [g 21 (by omega) (by omega) (by omega) (by omega) (by omega)]) (fun j _ _ => by rw [g 47 (by omega) (by omega) (by omega) (by omega) (by omega)])⟩, ?_, a4.eq (by rw [g _ (by omega) (by omega) (by omega) (by omega) (by omega)]) (by rw [g _ (by omega) (by omega) (by omega) (by omega) (by omega)]) (g _ (by omega) (by omega) (by omega) (by omega) (by omega)) (g _ (by omega) (by omega) (by omega) (by omega) (by omega)), a5.eq (by rw [g _ (by omega) (by omega) (by omega) (by omega) (by omega)]) (by rw [g _ (by omega) (by omega) (by omega) (by omega) (by omega)]) (g _ (by omega) (by omega) (by omega) (by omega) (by omega)) (g _ (by omega) (by omega) (by omega) (by omega) (by omega)) (g _ (by omega) (by omega) (by omega) (by omega) (by omega)) (g _ (by omega) (by omega) (by omega) (by omega) (by omega)), by rw [gt]; exact a6⟩
      have gw : hf.1 0 11 = nI c := by rw [k0 0 (by omega) (by omega)]; exact g3
      refine ⟨⟨c, s1, gw⟩, fun j hj => ?_⟩
      by_cases hji : j = i
      · subst hji
        refine Or.inr ⟨by rw [gw]; exact s3, g50, P, c0, c1, by rw [k0 _ (by omega) (by omega)]; exact g1, ?_, c4.cg c0 (fun q hq => ?_), c5.cg c0 (fun q hq => ?_) (fun q hq => ?_), fun r hr => ⟨(c6 r hr).1.cg c0 (fun q hq => ?_), (c6 r hr).2.cg c0 (fun q hq => ?_) (fun q hq => ?_)⟩⟩
        · rw [g49, if_pos (by omega)]; rw [← c3]; exact congrArg (h.1 47) (by omega)
        · rw [g49, if_pos (by omega)]; exact congrArg (h.1 47) (by omega)
        · rw [k0 _ (by omega) (by omega), g2 _ (by omega)]
        · rw [g49, if_pos (by omega)]; exact congrArg (h.1 47) (by omega)
        · rw [g49, if_pos (by omega)]; exact congrArg (h.1 47) (by omega)
        · rw [k0 _ (by omega) (by omega), g2 _ (by omega)]
        · rw [g49, if_pos (by omega)]; exact congrArg (h.1 47) (by omega)
      · rw [gw, s4 j hj hji, ← b0, g50' j hji]
        rcases a3 j hj with q | ⟨q1, q2, Q, q3⟩
        · exact Or.inl q
        · refine Or.inr ⟨q1, q2, Q, q3.eq ?_ (fun z _ => ?_) (fun z z1 z2 => ?_)⟩
          · rw [g _ (by omega) (by omega) (by omega) (by omega) (by omega)]
          · rw [g _ (by omega) (by omega) (by omega) (by omega) (by omega)]
          · rw [g49, if_neg (by omega)]
  · refine ⟨-1, h, h, ?_, ?_, hI⟩
    · unfold f8_keep_0
      simp only [q_within, Option.bind_some, show (0 : Int32).toInt = 0 from rfl, show (1 : Int32).toInt = 1 from rfl, if_neg hb]
      rfl
    · unfold f9_keep_40
      simp only [q_in, Option.bind_some, show (0 : Int64).toInt = 0 from rfl, show (1 : Int64).toInt = 1 from rfl, if_neg hb]
      rfl
theorem p_back : ok_back Inv := by
  intro a h hI
  obtain ⟨N, M, D, a1, ⟨P, a2⟩, a3, a4, a5, a6⟩ := id hI
  have hcp : jv_cp (0 : Int32) (0 : Int32) (209 : Int32) 209 209 := by decide
  by_cases hb : 0 ≤ a.toInt ∧ a.toInt ≤ 1
  · obtain ⟨i, hi, rfl⟩ : ∃ t, t < 2 ∧ a = nI t := by
      rcases q_arg a 2 (by omega) with q | q
      · exact q
      · exact absurd hb (by omega)
    have hix : jv_ix (nI i) 2 := by rw [q_ix (by omega)]; exact hi
    rcases a3.2 i hi with ⟨q1, q2⟩ | ⟨q1, q2, Q, q3⟩
    · refine ⟨-2, h, h, ?_, ?_, hI⟩
      · have q1' : (h.1 0 11 &&& ((1 : Int32) <<< (nI i &&& 31))) = 0 := q1
        unfold f8_back_0 f8_bit
        simp only [q_within, Option.bind_some, show (0 : Int32).toInt = 0 from rfl, show (1 : Int32).toInt = 1 from rfl, if_pos hb, q1']
        rfl
      · unfold f9_back_40
        simp only [q_in, Option.bind_some, show (0 : Int64).toInt = 0 from rfl, show (1 : Int64).toInt = 1 from rfl, if_pos hb, if_pos hix, q_cl (show i < 2147483648 by omega), q2]
        rfl
    · obtain ⟨c0, c1, c2, c3, c4, c5, c6⟩ := id q3
      obtain ⟨h1, e1, g1, g2, g5, g6⟩ : ∃ h1, f8_back_0 (nI i) h = some (h.1 (36 + 2 * i) (19 * Q + 0), h1) ∧ h1.1 20 1 = nI Q ∧ (∀ j, j < 209 → h1.1 21 j = h.1 (36 + 2 * i) j) ∧ (∀ k, ¬ k = 20 → ¬ k = 21 → h1.1 k = h.1 k) ∧ h1.2 = h.2 := by
        rcases (show i = 0 ∨ i = 1 by omega) with rfl | rfl
        · have c2 : h.1 35 1 = nI Q := c2
          refine ⟨jv_y (jv_p h 20 1 (nI Q)) 36 21 (0 : Int32) (0 : Int32) (209 : Int32), ?_, ?_, fun j hj => ?_, fun k k1 k2 => ?_, rfl⟩
          · have hy : (jv_y (jv_p h 20 1 (nI Q)) 36 21 (0 : Int32) (0 : Int32) (209 : Int32)).1 20 1 = nI Q := by rw [q_y_k _ (by omega), q_p_same]
            have hyr := q_year hy c1
            have hz : (jv_y (jv_p h 20 1 (nI Q)) 36 21 (0 : Int32) (0 : Int32) (209 : Int32)).1 21 (19 * Q + 0) = h.1 36 (19 * Q + 0) := by rw [q_take _ _ _ _ (by omega), q_p_k _ (by omega)]
            have hne : ¬ (h.1 0 11 &&& ((1 : Int32) <<< (nI 0 &&& 31))) = 0 := q1
            unfold f8_back_0 f8_imageOf_0 f1_take_20_35 f8_bit
            simp only [q_within, Option.bind_some, show (0 : Int32).toInt = 0 from rfl, show (1 : Int32).toInt = 1 from rfl, if_pos hb, if_neg hne, jv_let, c2, if_pos hcp, if_pos (show nI 0 = 0 from rfl), if_true, hyr, hz]
            rfl
          · rw [q_y_k _ (by omega), q_p_same]
          · rw [q_take _ _ _ _ hj, q_p_k _ (by omega)]
          · rw [q_y_k _ k2, q_p_k _ k1]
        · have c2 : h.1 37 1 = nI Q := c2
          refine ⟨jv_y (jv_p h 20 1 (nI Q)) 38 21 (0 : Int32) (0 : Int32) (209 : Int32), ?_, ?_, fun j hj => ?_, fun k k1 k2 => ?_, rfl⟩
          · have hy : (jv_y (jv_p h 20 1 (nI Q)) 38 21 (0 : Int32) (0 : Int32) (209 : Int32)).1 20 1 = nI Q := by rw [q_y_k _ (by omega), q_p_same]
            have hyr := q_year hy c1
            have hz : (jv_y (jv_p h 20 1 (nI Q)) 38 21 (0 : Int32) (0 : Int32) (209 : Int32)).1 21 (19 * Q + 0) = h.1 38 (19 * Q + 0) := by rw [q_take _ _ _ _ (by omega), q_p_k _ (by omega)]
            have hne : ¬ (h.1 0 11 &&& ((1 : Int32) <<< (nI 1 &&& 31))) = 0 := q1
            have hne1 : ¬ nI 1 = 0 := by decide
            unfold f8_back_0 f8_imageOf_0 f1_take_20_37 f8_bit
            simp only [q_within, Option.bind_some, show (0 : Int32).toInt = 0 from rfl, show (1 : Int32).toInt = 1 from rfl, if_pos hb, if_neg hne, if_neg hne1, jv_let, c2, if_pos hcp, hyr, hz]
            rfl
          · rw [q_y_k _ (by omega), q_p_same]
          · rw [q_take _ _ _ _ hj, q_p_k _ (by omega)]
          · rw [q_y_k _ k2, q_p_k _ k1]
      obtain ⟨hf, e2, e3⟩ := q_back hi 210 0 jv_fuel h1 (by omega) (by unfold jv_fuel; omega)
      have m49 : h1.1 48 = h.1 48 := g5 _ (by omega) (by omega)
      have k48 : ∀ j, j < 210 → hf.1 47 j = h.1 48 (210 * i + j) := fun j hj => by rw [e3, s_at, if_pos (by omega), m49]
      have k0 : ∀ k, ¬ k = 47 → hf.1 k = h1.1 k := fun k hk => by rw [e3, s_ne _ _ hk]
      have g : ∀ k, ¬ k = 20 → ¬ k = 21 → ¬ k = 47 → hf.1 k = h.1 k := fun k k1 k2 k3 => by rw [k0 k k3, g5 k k1 k2]
      refine ⟨h.1 (36 + 2 * i) (19 * Q + 0), h1, hf, e1, ?_, ?_⟩
      · have hne : ¬ (1 : Int32) = 0 := by decide
        have q2' : h1.1 49 i = 1 := by rw [g5 _ (by omega) (by omega)]; exact q2
        have hy0 : h.1 (36 + 2 * i) (19 * Q + 0) = hf.1 47 0 := by rw [k48 0 (by omega)]; exact c5.1
        unfold f9_back_40
        simp only [q_in, Option.bind_some, show (0 : Int64).toInt = 0 from rfl, show (1 : Int64).toInt = 1 from rfl, if_pos hb, if_pos hix, q_cl (show i < 2147483648 by omega), q2', if_neg hne, jv_let]
        rw [w0, e2, hy0]
      · refine ⟨N, M, D, a1.eq (fun k _ _ _ => g k (by omega) (by omega) (by omega)) (by rw [g 40 (by omega) (by omega) (by omega)]) (by rw [g 40 (by omega) (by omega) (by omega)]) (fun k _ _ => g k (by omega) (by omega) (by omega)), ⟨Q, c0, c1, by rw [k0 _ (by omega)]; exact g1, by rw [k48 _ (by omega)]; exact c3, c4.cg c0 (fun j hj => by rw [k48 _ (by omega), Nat.zero_add]), c5.cg c0 (fun j hj => by rw [k0 _ (by omega), g2 _ (by omega)]) (fun j hj => by rw [k48 _ (by omega), Nat.zero_add]), fun r hr => ⟨(c6 r hr).1.cg c0 (fun j hj => ?_), (c6 r hr).2.cg c0 (fun j hj => by rw [k0 _ (by omega), g2 _ (by omega)]) (fun j hj => ?_)⟩⟩, a3.eq (fun k _ _ => g k (by omega) (by omega) (by omega)) (g _ (by omega) (by omega) (by omega)) (g _ (by omega) (by omega) (by omega)), a4.eq (by rw [g _ (by omega) (by omega) (by omega)]) (by rw [g _ (by omega) (by omega) (by omega)]) (g _ (by omega) (by omega) (by omega)) (g _ (by omega) (by omega) (by omega)), a5.eq (by rw [g _ (by omega) (by omega) (by omega)]) (by rw [g _ (by omega) (by omega) (by omega)]) (g _ (by omega) (by omega) (by omega)) (g _ (by omega) (by omega) (by omega)) (g _ (by omega) (by omega) (by omega)) (g _ (by omega) (by omega) (by omega)), ?_⟩
        · rw [k48 _ (by omega)]; exact congrArg (h.1 48) (by omega)
        · rw [k48 _ (by omega)]; exact congrArg (h.1 48) (by omega)
        · rw [e3, s_2, g6]; exact a6
  · refine ⟨-1, h, h, ?_, ?_, hI⟩
    · unfold f8_back_0
      simp only [q_within, Option.bind_some, show (0 : Int32).toInt = 0 from rfl, show (1 : Int32).toInt = 1 from rfl, if_neg hb]
      rfl
    · unfold f9_back_40
      simp only [q_in, Option.bind_some, show (0 : Int64).toInt = 0 from rfl, show (1 : Int64).toInt = 1 from rfl, if_neg hb]
      rfl
