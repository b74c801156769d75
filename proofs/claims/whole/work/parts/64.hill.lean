/-! hill: what was read is taken -/
theorem q_yb0 (h : jv_H) (a b n i : Nat) (hn : n < 1000) (hi : i < n) : (jv_y h a b (0 : Int32) (0 : Int32) (nI n)).1 b i = h.1 a i := by
  rw [q_y_b, show Int32.toNatClampNeg (0 : Int32) = 0 from rfl, q_cl (by omega), if_pos (by omega)]
  exact congrArg (h.1 a) (by omega)
theorem b_take (h : jv_H) : ∃ h', f2_take_1_10 h = some ((), h') ∧ h'.1 1 0 = h.1 10 0 ∧ h'.1 1 1 = h.1 10 1 ∧ (∀ j, j < 6 → h'.1 2 j = h.1 11 j ∧ h'.1 3 j = h.1 12 j ∧ h'.1 4 j = h.1 13 j ∧ h'.1 5 j = h.1 14 j) ∧ (∀ j, j < 4 → h'.1 6 j = h.1 15 j ∧ h'.1 7 j = h.1 16 j ∧ h'.1 8 j = h.1 17 j) ∧ (∀ k, k < 1 ∨ 8 < k → h'.1 k = h.1 k) ∧ h'.2 = h.2 := by
  unfold f2_take_1_10
  simp only [jl, if_pos (show jv_cp (0 : Int32) (0 : Int32) (6 : Int32) 6 6 by decide), if_pos (show jv_cp (0 : Int32) (0 : Int32) (4 : Int32) 4 4 by decide)]
  rw [w6, w4, q_p_k (a := 10) _ (by omega)]
  refine ⟨_, rfl, ?_, ?_, fun j hj => ⟨?_, ?_, ?_, ?_⟩, fun j hj => ⟨?_, ?_, ?_⟩, fun k hk => ?_, rfl⟩
  · simp (disch := omega) only [q_y_k, q_p_j, q_p_same]
  · simp (disch := omega) only [q_y_k, q_p_same]
  · simp (disch := omega) only [q_y_k, q_yb0, q_p_k]
  · simp (disch := omega) only [q_y_k, q_yb0, q_p_k]
  · simp (disch := omega) only [q_y_k, q_yb0, q_p_k]
  · simp (disch := omega) only [q_y_k, q_yb0, q_p_k]
  · simp (disch := omega) only [q_y_k, q_yb0, q_p_k]
  · simp (disch := omega) only [q_y_k, q_yb0, q_p_k]
  · simp (disch := omega) only [q_y_k, q_yb0, q_p_k]
  · rw [q_y_k _ (by omega), q_y_k _ (by omega), q_y_k _ (by omega), q_y_k _ (by omega), q_y_k _ (by omega), q_y_k _ (by omega), q_y_k _ (by omega), q_p_k _ (by omega), q_p_k _ (by omega)]
theorem q_begin : ∀ (m t fuel : Nat) (h : jv_H), h.1 20 1 = nI 0 → t + m = 6 → m < fuel → ∃ h', f1_begin_20_1_l12 fuel (nI t) h = some ((), h') ∧ (∀ s, t ≤ s → s < 6 → h'.1 21 (1 + s) = h.1 2 s ∧ h'.1 21 (7 + s) = -9 ∧ h'.1 21 (13 + s) = nI s) ∧ (∀ j, (j < 1 + t ∨ (7 ≤ j ∧ j < 7 + t) ∨ (13 ≤ j ∧ j < 13 + t)) → h'.1 21 j = h.1 21 j) ∧ (∀ k, ¬ k = 21 → h'.1 k = h.1 k) ∧ h'.2 = h.2 := by
  intro m
  induction m with
  | zero =>
    intro t fuel h h20 ht hf
    obtain ⟨u, rfl⟩ : ∃ n, fuel = n + 1 := ⟨fuel - 1, by omega⟩
    refine ⟨h, ?_, fun s h1 h2 => by omega, fun _ _ => rfl, fun _ _ => rfl, rfl⟩
    show g1_begin_20_1_b12 (f1_begin_20_1_l12 u) _ h = _
    unfold g1_begin_20_1_b12
    rw [if_pos (by rw [w6, q_le (by omega) (by omega)]; omega)]
  | succ m ih =>
    intro t fuel h h20 ht hf
    obtain ⟨u, rfl⟩ : ∃ n, fuel = n + 1 := ⟨fuel - 1, by omega⟩
    have e1 : (jv_p h 21 (19 * 0 + (1 + t)) (h.1 2 t)).1 20 1 = nI 0 := by rw [q_p_k _ (by omega)]; exact h20
    have e2 : (jv_p (jv_p h 21 (19 * 0 + (1 + t)) (h.1 2 t)) 21 (19 * 0 + (7 + t)) (-9)).1 20 1 = nI 0 := by rw [q_p_k _ (by omega)]; exact e1
    have e3 : (jv_p (jv_p (jv_p h 21 (19 * 0 + (1 + t)) (h.1 2 t)) 21 (19 * 0 + (7 + t)) (-9)) 21 (19 * 0 + (13 + t)) (nI t)).1 20 1 = nI 0 := by rw [q_p_k _ (by omega)]; exact e2
    obtain ⟨h', i1, i2, i3, i4, i5⟩ := ih (t + 1) u _ e3 (by omega) (by omega)
    refine ⟨h', ?_, fun s h1 h2 => ?_, fun j hj => ?_, fun k hk => by rw [i4 k hk, q_p_k _ hk, q_p_k _ hk, q_p_k _ hk], by rw [i5]; rfl⟩
    · show g1_begin_20_1_b12 (f1_begin_20_1_l12 u) _ h = _
      unfold g1_begin_20_1_b12
      rw [if_neg (by rw [w6, q_le (by omega) (by omega)]; omega), if_pos (by rw [q_ix (by omega)]; omega), q_cl (by omega), q_setHeat _ h20 (by omega) (by omega), ob, q_setPlace _ e1 (by omega) (by omega), ob, q_setOwner _ e2 (by omega) (by omega), ob, jl, w1, nI_add]
      exact i1
    · by_cases q : s = t
      · subst q
        rw [i3 (1 + s) (by omega), i3 (7 + s) (by omega), i3 (13 + s) (by omega)]
        refine ⟨?_, ?_, ?_⟩
        · rw [q_p_j _ (by omega), q_p_j _ (by omega), q_p_if, if_pos (by omega)]
        · rw [q_p_j _ (by omega), q_p_if, if_pos (by omega)]
        · rw [q_p_if, if_pos (by omega)]
      · have := i2 s (by omega) h2
        rw [q_p_k (a := 2) _ (by omega), q_p_k (a := 2) _ (by omega), q_p_k (a := 2) _ (by omega)] at this
        exact this
    · rw [i3 j (by omega), q_p_j _ (by omega), q_p_j _ (by omega), q_p_j _ (by omega)]
theorem b_begin (h : jv_H) : ∃ h', f1_begin_20_1 h = some ((), h') ∧ h'.1 20 1 = nI 0 ∧ h'.1 21 0 = nI 0 ∧ (∀ s, s < 6 → h'.1 21 (1 + s) = h.1 2 s ∧ h'.1 21 (7 + s) = -9 ∧ h'.1 21 (13 + s) = nI s) ∧ (∀ k, ¬ k = 20 → ¬ k = 21 → h'.1 k = h.1 k) ∧ h'.2 = h.2 := by
  have e0 : (jv_p h 20 1 0).1 20 1 = nI 0 := q_p_same _ _ _ _
  have e1 : (jv_p (jv_p h 20 1 0) 21 (19 * 0 + 0) 0).1 20 1 = nI 0 := by rw [q_p_k _ (by omega)]; exact e0
  obtain ⟨h', i1, i2, i3, i4, i5⟩ := q_begin 6 0 jv_fuel _ e1 (by omega) (by unfold jv_fuel; omega)
  have i1 : f1_begin_20_1_l12 jv_fuel 0 (jv_p (jv_p h 20 1 0) 21 (19 * 0 + 0) 0) = some ((), h') := i1
  refine ⟨h', ?_, ?_, ?_, fun s hs => ?_, fun k k1 k2 => by rw [i4 k k2, q_p_k _ k2, q_p_k _ k1], by rw [i5]; rfl⟩
  · unfold f1_begin_20_1
    rw [jl, q_setYear _ e0 (by omega), ob, jl, i1]
  · rw [i4 20 (by omega)]; exact e1
  · rw [i3 0 (by omega), q_p_same]; rfl
  · have := i2 s (by omega) hs
    rw [q_p_k (a := 2) _ (by omega), q_p_k (a := 2) _ (by omega)] at this
    exact this
/-- the class, when a text was read -/
theorem b_ctail (h : jv_H) : ∃ h', ((f2_take_1_10 h).bind fun q3 => (f1_begin_20_1 q3.2).bind fun q4 => (f5_empty_31 q4.2).bind fun q5 => jv_let (jv_p q5.2 0 11 (0 : Int32)) fun h6 => (f7_empty_9 h6).bind fun q7 => some ((), q7.2)) = some ((), h') ∧ h'.1 1 0 = h.1 10 0 ∧ h'.1 1 1 = h.1 10 1 ∧ (∀ j, j < 6 → h'.1 3 j = h.1 12 j ∧ h'.1 4 j = h.1 13 j ∧ h'.1 5 j = h.1 14 j) ∧ (∀ j, j < 4 → h'.1 6 j = h.1 15 j ∧ h'.1 7 j = h.1 16 j ∧ h'.1 8 j = h.1 17 j) ∧ h'.1 20 1 = nI 0 ∧ h'.1 21 0 = nI 0 ∧ (∀ s, s < 6 → h'.1 21 (1 + s) = h.1 11 s ∧ h'.1 21 (7 + s) = -9 ∧ h'.1 21 (13 + s) = nI s) ∧ h'.1 31 3 = 0 ∧ h'.1 0 11 = 0 ∧ h'.1 9 1 = 0 ∧ (∀ k, 39 ≤ k → h'.1 k = h.1 k) ∧ h'.2 = h.2 := by
  obtain ⟨h1, a1, a2, a3, a4, a5, a6, a7⟩ := b_take h
  obtain ⟨h2, c1, c2, c3, c4, c5, c6⟩ := b_begin h1
  rw [a1, ob, c1, ob]
  unfold f5_empty_31 f7_empty_9
  simp only [jl, ob]
  generalize hG : jv_p (jv_p h2 31 3 0) 0 11 0 = h4
  have k4 : ∀ k, ¬ k = 31 → ¬ k = 0 → h4.1 k = h2.1 k := fun k k1 k2 => by rw [← hG, q_p_k _ k2, q_p_k _ k1]
  have g : ∀ k, ¬ k = 9 → ¬ k = 31 → ¬ k = 0 → ¬ k = 20 → ¬ k = 21 → (jv_p h4 9 1 0).1 k = h1.1 k := fun k k0 k1 k2 k3 k5 => by rw [q_p_k _ k0, k4 k k1 k2, c5 k k3 k5]
  have g2 : ∀ k, ¬ k = 9 → ¬ k = 31 → ¬ k = 0 → (jv_p h4 9 1 0).1 k = h2.1 k := fun k k0 k1 k2 => by rw [q_p_k _ k0, k4 k k1 k2]
  refine ⟨_, rfl, ?_, ?_, fun j hj => ?_, fun j hj => ?_, ?_, ?_, fun s hs => ?_, ?_, ?_, q_p_same _ _ _ _, fun k hk => ?_, ?_⟩
  · rw [g _ (by omega) (by omega) (by omega) (by omega) (by omega)]; exact a2
  · rw [g _ (by omega) (by omega) (by omega) (by omega) (by omega)]; exact a3
  · rw [g 3 (by omega) (by omega) (by omega) (by omega) (by omega), g 4 (by omega) (by omega) (by omega) (by omega) (by omega), g 5 (by omega) (by omega) (by omega) (by omega) (by omega)]
    exact (a4 j hj).2
  · rw [g 6 (by omega) (by omega) (by omega) (by omega) (by omega), g 7 (by omega) (by omega) (by omega) (by omega) (by omega), g 8 (by omega) (by omega) (by omega) (by omega) (by omega)]
    exact a5 j hj
  · rw [g2 _ (by omega) (by omega) (by omega)]; exact c2
  · rw [g2 _ (by omega) (by omega) (by omega)]; exact c3
  · rw [g2 _ (by omega) (by omega) (by omega)]
    have := c4 s hs
    rw [(a4 s hs).1] at this
    exact this
  · rw [q_p_k _ (by omega), ← hG, q_p_k _ (by omega), q_p_same]
  · rw [q_p_k _ (by omega), ← hG, q_p_same]
  · rw [g k (by omega) (by omega) (by omega) (by omega) (by omega), a6 k (by omega)]
  · show h4.2 = h.2
    rw [← hG]
    show h2.2 = h.2
    rw [c6, a7]
theorem q_ta1 : ∀ (m k fuel : Nat) (h : jv_H), k + m = 210 → m < fuel → f9_takeAll_40_l18 fuel (nI k) h = f9_takeAll_40_l40 jv_fuel 0 (jv_s h 47 (fun i => if k ≤ i ∧ i < 210 then 0 else h.1 47 i)) := by
  intro m
  induction m with
  | zero =>
    intro k fuel h hk hf
    obtain ⟨u, rfl⟩ : ∃ n, fuel = n + 1 := ⟨fuel - 1, by omega⟩
    show g9_takeAll_40_b18 (f9_takeAll_40_l18 u) _ h = _
    unfold g9_takeAll_40_b18
    rw [if_pos (by rw [w210, q_le (by omega) (by omega)]; omega), jl]
    have : (fun i => if k ≤ i ∧ i < 210 then 0 else h.1 47 i) = h.1 47 := by
      funext i
      rw [if_neg (by omega)]
    rw [this]
    congr 1
    unfold jv_s
    ext a : 1
    · funext a
      by_cases ha : a = 47 <;> simp [ha]
    · rfl
  | succ m ih =>
    intro k fuel h hk hf
    obtain ⟨u, rfl⟩ : ∃ n, fuel = n + 1 := ⟨fuel - 1, by omega⟩
    show g9_takeAll_40_b18 (f9_takeAll_40_l18 u) _ h = _
    unfold g9_takeAll_40_b18
    rw [if_neg (by rw [w210, q_le (by omega) (by omega)]; omega), if_pos (by rw [q_ix (by omega)]; omega), q_cl (by omega), jl, jl, w1, nI_add, ih (k + 1) u _ (by omega) (by omega), s_p]
    congr 2
    funext i
    by_cases hi : i = k
    · subst hi
      simp (disch := omega) only [if_neg, if_pos, q_p_same]
    · by_cases h2 : k ≤ i ∧ i < 210
      · simp (disch := omega) only [if_pos]
      · simp (disch := omega) only [if_neg, q_p_j]
section TA
variable {n m : Nat} {E : Nat → Nat → Nat}
theorem q_ta2 (hn : n ≤ 6) : ∀ (d t fuel : Nat) (h : jv_H), h.1 40 0 = nI n → (∀ t, t < n → h.1 53 (4 * t) = nI (E 6 t) ∧ h.1 53 (4 * t + 1) = nI (E 0 t) ∧ h.1 53 (4 * t + 2) = nI (E 1 t) ∧ h.1 53 (4 * t + 3) = nI (E 2 t)) → t + d = n → d < fuel → ∃ h', f9_takeAll_40_l40 fuel (nI t) h = f9_takeAll_40_l141 jv_fuel 0 h' ∧ (∀ s, t ≤ s → s < n → (h'.1 47 (1 + s) = nI (E 6 s) ∧ h'.1 47 (7 + s) = -9 ∧ h'.1 47 (13 + s) = nI s) ∧ h'.1 41 s = nI (E 0 s) ∧ h'.1 42 s = nI (E 1 s) ∧ h'.1 43 s = nI (E 2 s)) ∧ (∀ j, (j < 1 + t ∨ (7 ≤ j ∧ j < 7 + t) ∨ (13 ≤ j ∧ j < 13 + t) ∨ 19 ≤ j) → h'.1 47 j = h.1 47 j) ∧ (∀ k j, 41 ≤ k → k ≤ 43 → j < t → h'.1 k j = h.1 k j) ∧ (∀ k, ¬ k = 47 → ¬ k = 41 → ¬ k = 42 → ¬ k = 43 → h'.1 k = h.1 k) ∧ h'.2 = h.2 := by
  intro d
  induction d with
  | zero =>
    intro t fuel h h0 h54 ht hf
    obtain ⟨u, rfl⟩ : ∃ n, fuel = n + 1 := ⟨fuel - 1, by omega⟩
    refine ⟨h, ?_, fun s h1 h2 => by omega, fun _ _ => rfl, fun _ _ _ _ _ => rfl, fun _ _ _ _ _ => rfl, rfl⟩
    show g9_takeAll_40_b40 (f9_takeAll_40_l40 u) _ h = _
    unfold g9_takeAll_40_b40
    rw [h0, if_pos (by rw [q_le (by omega) (by omega)]; omega), jl]
  | succ d ih =>
    intro t fuel h h0 h54 ht hf
    obtain ⟨u, rfl⟩ : ∃ n, fuel = n + 1 := ⟨fuel - 1, by omega⟩
    obtain ⟨v1, v2, v3, v4⟩ := h54 t (by omega)
    generalize hG : jv_p (jv_p (jv_p (jv_p (jv_p (jv_p h 47 (1 + t) (nI (E 6 t))) 47 (7 + t) (-9)) 47 (13 + t) (nI t)) 41 t (nI (E 0 t))) 42 t (nI (E 1 t))) 43 t (nI (E 2 t)) = h1
    have k1 : ∀ k, ¬ k = 47 → ¬ k = 41 → ¬ k = 42 → ¬ k = 43 → h1.1 k = h.1 k := fun k u1 u2 u3 u4 => by rw [← hG, q_p_k _ u4, q_p_k _ u3, q_p_k _ u2, q_p_k _ u1, q_p_k _ u1, q_p_k _ u1]
    have k48 : ∀ j, h1.1 47 j = if j = 13 + t then nI t else if j = 7 + t then -9 else if j = 1 + t then nI (E 6 t) else h.1 47 j := fun j => by rw [← hG, q_p_k _ (by omega), q_p_k _ (by omega), q_p_k _ (by omega), q_p_if, q_p_if, q_p_if]
    have k42 : ∀ j, h1.1 41 j = if j = t then nI (E 0 t) else h.1 41 j := fun j => by rw [← hG, q_p_k _ (by omega), q_p_k _ (by omega), q_p_if, q_p_k _ (by omega), q_p_k _ (by omega), q_p_k _ (by omega)]
    have k43 : ∀ j, h1.1 42 j = if j = t then nI (E 1 t) else h.1 42 j := fun j => by rw [← hG, q_p_k _ (by omega), q_p_if, q_p_k _ (by omega), q_p_k _ (by omega), q_p_k _ (by omega), q_p_k _ (by omega)]
    have k44 : ∀ j, h1.1 43 j = if j = t then nI (E 2 t) else h.1 43 j := fun j => by rw [← hG, q_p_if, q_p_k _ (by omega), q_p_k _ (by omega), q_p_k _ (by omega), q_p_k _ (by omega), q_p_k _ (by omega)]
    obtain ⟨h', i1, i2, i3, i4, i5, i6⟩ := ih (t + 1) u h1 (by rw [k1 40 (by omega) (by omega) (by omega) (by omega)]; exact h0) (by rw [k1 53 (by omega) (by omega) (by omega) (by omega)]; exact h54) (by omega) (by omega)
    refine ⟨h', ?_, fun s u1 u2 => ?_, fun j hj => ?_, fun k j u1 u2 u3 => ?_, fun k u1 u2 u3 u4 => by rw [i5 k u1 u2 u3 u4, k1 k u1 u2 u3 u4], by rw [i6, ← hG]; rfl⟩
    · show g9_takeAll_40_b40 (f9_takeAll_40_l40 u) _ h = _
      unfold g9_takeAll_40_b40
      rw [h0, if_neg (by rw [q_le (by omega) (by omega)]; omega)]
      rw [show (4 : Int32) * nI t = nI (4 * t) from by rw [w4, pk_mul], show (1 : Int32) + nI t = nI (1 + t) from by rw [w1, nI_add], show (7 : Int32) + nI t = nI (7 + t) from by rw [w7, nI_add], show (13 : Int32) + nI t = nI (13 + t) from by rw [w13, nI_add], show nI (4 * t) + (1 : Int32) = nI (4 * t + 1) from by rw [w1, nI_add], show nI (4 * t) + (2 : Int32) = nI (4 * t + 2) from by rw [w2, nI_add], show nI (4 * t) + (3 : Int32) = nI (4 * t + 3) from by rw [w3, nI_add]]
      simp only [if_pos (show jv_ix (nI (4 * t)) 42 by rw [q_ix (by omega)]; omega), if_pos (show jv_ix (nI (1 + t)) 210 by rw [q_ix (by omega)]; omega), if_pos (show jv_ix (nI (7 + t)) 210 by rw [q_ix (by omega)]; omega), if_pos (show jv_ix (nI (13 + t)) 210 by rw [q_ix (by omega)]; omega), if_pos (show jv_ix (nI (4 * t + 1)) 42 by rw [q_ix (by omega)]; omega), if_pos (show jv_ix (nI (4 * t + 2)) 42 by rw [q_ix (by omega)]; omega), if_pos (show jv_ix (nI (4 * t + 3)) 42 by rw [q_ix (by omega)]; omega), if_pos (show jv_ix (nI t) 6 by rw [q_ix (by omega)]; omega), jl, q_cl (show 4 * t < 2147483648 by omega), q_cl (show 1 + t < 2147483648 by omega), q_cl (show 7 + t < 2147483648 by omega), q_cl (show 13 + t < 2147483648 by omega), q_cl (show 4 * t + 1 < 2147483648 by omega), q_cl (show 4 * t + 2 < 2147483648 by omega), q_cl (show 4 * t + 3 < 2147483648 by omega), q_cl (show t < 2147483648 by omega), q_p_k (k := 47) _ (show ¬ 53 = 47 by omega), q_p_k (k := 41) _ (show ¬ 53 = 41 by omega), q_p_k (k := 42) _ (show ¬ 53 = 42 by omega), v1, v2, v3, v4]
      rw [hG, show nI t + (1 : Int32) = nI (t + 1) from by rw [w1, nI_add]]
      exact i1
    · by_cases q : s = t
      · subst q
        rw [i3 (1 + s) (by omega), i3 (7 + s) (by omega), i3 (13 + s) (by omega), i4 41 s (by omega) (by omega) (by omega), i4 42 s (by omega) (by omega) (by omega), i4 43 s (by omega) (by omega) (by omega), k48, k48, k48, k42, k43, k44]
        simp (disch := omega) only [if_neg, if_pos, if_true, and_self]
      · exact i2 s (by omega) u2
    · rw [i3 j (by omega), k48]
      simp (disch := omega) only [if_neg]
    · rw [i4 k j u1 u2 (by omega)]
      rcases (show k = 41 ∨ k = 42 ∨ k = 43 by omega) with rfl | rfl | rfl
      · rw [k42, if_neg (by omega)]
      · rw [k43, if_neg (by omega)]
      · rw [k44, if_neg (by omega)]
theorem q_ta3 (hm : m ≤ 4) : ∀ (d t fuel : Nat) (h : jv_H), h.1 40 1 = nI m → (∀ k, k < m → h.1 53 (24 + 3 * k) = nI (E 3 k) ∧ h.1 53 (25 + 3 * k) = nI (E 4 k) ∧ h.1 53 (26 + 3 * k) = nI (E 5 k)) → t + d = m → d < fuel → ∃ h', f9_takeAll_40_l141 fuel (nI t) h = some ((), h') ∧ (∀ s, t ≤ s → s < m → h'.1 44 s = nI (E 3 s) ∧ h'.1 45 s = nI (E 4 s) ∧ h'.1 46 s = nI (E 5 s)) ∧ (∀ k j, 44 ≤ k → k ≤ 46 → j < t → h'.1 k j = h.1 k j) ∧ h'.1 40 13 = 0 ∧ h'.1 40 16 = 0 ∧ h'.1 49 0 = 0 ∧ h'.1 49 1 = 0 ∧ (∀ j, ¬ j = 13 → ¬ j = 16 → h'.1 40 j = h.1 40 j) ∧ (∀ k, ¬ k = 40 → ¬ k = 49 → ¬ k = 44 → ¬ k = 45 → ¬ k = 46 → h'.1 k = h.1 k) ∧ h'.2 = h.2 := by
  have bz : vp_nar .boolean (0 : Int32) = 0 := rfl
  intro d
  induction d with
  | zero =>
    intro t fuel h h1 h54 ht hf
    obtain ⟨u, rfl⟩ : ∃ n, fuel = n + 1 := ⟨fuel - 1, by omega⟩
    refine ⟨jv_p (jv_p (jv_p (jv_p h 40 13 0) 49 0 0) 49 1 0) 40 16 0, ?_, fun s u1 u2 => by omega, fun k j u1 u2 u3 => by rw [q_p_k _ (by omega), q_p_k _ (by omega), q_p_k _ (by omega), q_p_k _ (by omega)], ?_, q_p_same _ _ _ _, ?_, ?_, fun j j1 j2 => ?_, fun k k1 k2 _ _ _ => by rw [q_p_k _ k1, q_p_k _ k2, q_p_k _ k2, q_p_k _ k1], rfl⟩
    · show g9_takeAll_40_b141 (f9_takeAll_40_l141 u) _ h = _
      unfold g9_takeAll_40_b141
      rw [h1, if_pos (by rw [q_le (by omega) (by omega)]; omega)]
      simp only [jl, if_pos (show jv_ix (0 : Int32) 2 by decide), if_pos (show jv_ix (1 : Int32) 2 by decide), bz, show Int32.toNatClampNeg (0 : Int32) = 0 from rfl, show Int32.toNatClampNeg (1 : Int32) = 1 from rfl]
    · rw [q_p_j _ (by omega), q_p_k _ (by omega), q_p_k _ (by omega), q_p_same]
    · rw [q_p_k _ (by omega), q_p_j _ (by omega), q_p_same]
    · rw [q_p_k _ (by omega), q_p_same]
    · rw [q_p_j _ j2, q_p_k _ (by omega), q_p_k _ (by omega), q_p_j _ j1]
  | succ d ih =>
    intro t fuel h h1 h54 ht hf
    obtain ⟨u, rfl⟩ : ∃ n, fuel = n + 1 := ⟨fuel - 1, by omega⟩
    obtain ⟨v1, v2, v3⟩ := h54 t (by omega)
    generalize hG : jv_p (jv_p (jv_p h 44 t (nI (E 3 t))) 45 t (nI (E 4 t))) 46 t (nI (E 5 t)) = h2
    have k1 : ∀ k, ¬ k = 44 → ¬ k = 45 → ¬ k = 46 → h2.1 k = h.1 k := fun k u1 u2 u3 => by rw [← hG, q_p_k _ u3, q_p_k _ u2, q_p_k _ u1]
    have k45 : ∀ j, h2.1 44 j = if j = t then nI (E 3 t) else h.1 44 j := fun j => by rw [← hG, q_p_k _ (by omega), q_p_k _ (by omega), q_p_if]
    have k46 : ∀ j, h2.1 45 j = if j = t then nI (E 4 t) else h.1 45 j := fun j => by rw [← hG, q_p_k _ (by omega), q_p_if, q_p_k _ (by omega)]
    have k47 : ∀ j, h2.1 46 j = if j = t then nI (E 5 t) else h.1 46 j := fun j => by rw [← hG, q_p_if, q_p_k _ (by omega), q_p_k _ (by omega)]
    obtain ⟨h', i1, i2, i3, i4, i5, i6, i7, i8, i9, i10⟩ := ih (t + 1) u h2 (by rw [k1 40 (by omega) (by omega) (by omega)]; exact h1) (by rw [k1 53 (by omega) (by omega) (by omega)]; exact h54) (by omega) (by omega)
    refine ⟨h', ?_, fun s u1 u2 => ?_, fun k j u1 u2 u3 => ?_, i4, i5, i6, i7, fun j j1 j2 => by rw [i8 j j1 j2, k1 40 (by omega) (by omega) (by omega)], fun k u1 u2 u3 u4 u5 => by rw [i9 k u1 u2 u3 u4 u5, k1 k u3 u4 u5], by rw [i10, ← hG]; rfl⟩
    · show g9_takeAll_40_b141 (f9_takeAll_40_l141 u) _ h = _
      unfold g9_takeAll_40_b141
      rw [h1, if_neg (by rw [q_le (by omega) (by omega)]; omega)]
      rw [show (24 : Int32) + (3 : Int32) * nI t = nI (24 + 3 * t) from by rw [w24, w3, pk_mul, nI_add], show (25 : Int32) + (3 : Int32) * nI t = nI (25 + 3 * t) from by rw [w25, w3, pk_mul, nI_add], show (26 : Int32) + (3 : Int32) * nI t = nI (26 + 3 * t) from by rw [w26, w3, pk_mul, nI_add]]
      simp only [if_pos (show jv_ix (nI (24 + 3 * t)) 42 by rw [q_ix (by omega)]; omega), if_pos (show jv_ix (nI (25 + 3 * t)) 42 by rw [q_ix (by omega)]; omega), if_pos (show jv_ix (nI (26 + 3 * t)) 42 by rw [q_ix (by omega)]; omega), if_pos (show jv_ix (nI t) 4 by rw [q_ix (by omega)]; omega), jl, q_cl (show 24 + 3 * t < 2147483648 by omega), q_cl (show 25 + 3 * t < 2147483648 by omega), q_cl (show 26 + 3 * t < 2147483648 by omega), q_cl (show t < 2147483648 by omega), q_p_k (k := 44) _ (show ¬ 53 = 44 by omega), q_p_k (k := 45) _ (show ¬ 53 = 45 by omega), v1, v2, v3]
      rw [hG, show nI t + (1 : Int32) = nI (t + 1) from by rw [w1, nI_add]]
      exact i1
    · by_cases q : s = t
      · subst q
        rw [i3 44 s (by omega) (by omega) (by omega), i3 45 s (by omega) (by omega) (by omega), i3 46 s (by omega) (by omega) (by omega), k45, k46, k47]
        simp (disch := omega) only [if_pos, if_true, and_self]
      · exact i2 s (by omega) u2
    · rw [i3 k j u1 u2 (by omega)]
      rcases (show k = 44 ∨ k = 45 ∨ k = 46 by omega) with rfl | rfl | rfl
      · rw [k45, if_neg (by omega)]
      · rw [k46, if_neg (by omega)]
      · rw [k47, if_neg (by omega)]
theorem b_takeAll {h : jv_H} (d : Dm h n m E) (hn : n ≤ 6) (hm : m ≤ 4) : ∃ h', f9_takeAll_40 h = some ((), h') ∧ h'.1 40 0 = nI n ∧ h'.1 40 1 = nI m ∧ h'.1 47 0 = nI 0 ∧ h'.1 47 19 = nI 0 ∧ (∀ s, s < n → (h'.1 47 (1 + s) = nI (E 6 s) ∧ h'.1 47 (7 + s) = -9 ∧ h'.1 47 (13 + s) = nI s) ∧ h'.1 41 s = nI (E 0 s) ∧ h'.1 42 s = nI (E 1 s) ∧ h'.1 43 s = nI (E 2 s)) ∧ (∀ s, s < m → h'.1 44 s = nI (E 3 s) ∧ h'.1 45 s = nI (E 4 s) ∧ h'.1 46 s = nI (E 5 s)) ∧ h'.1 40 13 = 0 ∧ h'.1 40 16 = 0 ∧ h'.1 49 0 = 0 ∧ h'.1 49 1 = 0 ∧ (∀ k, k < 40 → h'.1 k = h.1 k) ∧ h'.2 = h.2 := by
  obtain ⟨d1, d2, d3, d4⟩ := d
  unfold f9_takeAll_40
  rw [jl, jl, jl, q_p_j _ (by omega), d1, d2, w0, q_ta1 210 0 jv_fuel _ (by omega) (by unfold jv_fuel; omega)]
  generalize hG : jv_s (jv_p (jv_p h 40 0 (nI n)) 40 1 (nI m)) 47 (fun i => if 0 ≤ i ∧ i < 210 then (0 : Int32) else (jv_p (jv_p h 40 0 (nI n)) 40 1 (nI m)).1 47 i) = h1
  have k1 : ∀ k, ¬ k = 40 → ¬ k = 47 → h1.1 k = h.1 k := fun k u1 u2 => by rw [← hG, s_ne _ _ u2, q_p_k _ u1, q_p_k _ u1]
  have k41 : h1.1 40 0 = nI n ∧ h1.1 40 1 = nI m := ⟨by rw [← hG, s_ne _ _ (by omega), q_p_j _ (by omega), q_p_same], by rw [← hG, s_ne _ _ (by omega), q_p_same]⟩
  have k48 : ∀ j, j < 210 → h1.1 47 j = nI 0 := fun j hj => by rw [← hG, s_at, if_pos (by omega)]; rfl
  obtain ⟨h2, a1, a2, a3, a4, a5, a6⟩ := q_ta2 (E := E) hn n 0 jv_fuel h1 k41.1 (by rw [k1 53 (by omega) (by omega)]; exact d3) (by omega) (by unfold jv_fuel; omega)
  obtain ⟨h3, b1, b2, b3, b4, b5, b6, b7, b8, b9, b10⟩ := q_ta3 (E := E) hm m 0 jv_fuel h2 (by rw [a5 40 (by omega) (by omega) (by omega) (by omega)]; exact k41.2) (by rw [a5 53 (by omega) (by omega) (by omega) (by omega), k1 53 (by omega) (by omega)]; exact d4) (by omega) (by unfold jv_fuel; omega)
  refine ⟨h3, ?_, ?_, ?_, ?_, ?_, fun s hs => ?_, fun s hs => b2 s (by omega) hs, b4, b5, b6, b7, fun k hk => ?_, ?_⟩
  · exact a1.trans b1
  · rw [b8 0 (by omega) (by omega), a5 40 (by omega) (by omega) (by omega) (by omega)]; exact k41.1
  · rw [b8 1 (by omega) (by omega), a5 40 (by omega) (by omega) (by omega) (by omega)]; exact k41.2
  · rw [b9 47 (by omega) (by omega) (by omega) (by omega) (by omega), a3 0 (by omega)]; exact k48 0 (by omega)
  · rw [b9 47 (by omega) (by omega) (by omega) (by omega) (by omega), a3 19 (by omega)]; exact k48 19 (by omega)
  · rw [b9 47 (by omega) (by omega) (by omega) (by omega) (by omega), b9 41 (by omega) (by omega) (by omega) (by omega) (by omega), b9 42 (by omega) (by omega) (by omega) (by omega) (by omega), b9 43 (by omega) (by omega) (by omega) (by omega) (by omega)]
    exact a2 s (by omega) hs
  · rw [b9 k (by omega) (by omega) (by omega) (by omega) (by omega), a5 k (by omega) (by omega) (by omega) (by omega), k1 k (by omega) (by omega)]
  · rw [b10, a6, ← hG]; rfl
end TA
theorem p_hill : ok_hill Inv := by
  intro h hI
  obtain ⟨N, M, D, a1, ⟨P, a2⟩, a3, a4, a5, a6⟩ := id hI
  obtain ⟨L, L1, L2, L3, L4⟩ := id a4
  have hT : ∀ j, (if j < L then (h.1 52 j).toNatClampNeg else 0) ≤ 255 := by
    intro j
    by_cases q : j < L
    · rw [if_pos q]
      obtain ⟨-, c, c1, c2⟩ := L4 j q
      rw [c2, q_cl (by omega)]
      exact c1
    · rw [if_neg q]; omega
  have hT2 : ∀ j, j < L → h.1 52 j = nI (if j < L then (h.1 52 j).toNatClampNeg else 0) := by
    intro j q
    obtain ⟨-, c, c1, c2⟩ := L4 j q
    rw [if_pos q, c2, q_cl (by omega)]
  generalize hTT : (fun j => if j < L then (h.1 52 j).toNatClampNeg else 0) = T
  have hT : ∀ j, T j ≤ 255 := fun j => by rw [← hTT]; exact hT j
  have hT2 : ∀ j, j < L → h.1 52 j = nI (T j) := fun j q => by rw [← hTT]; exact hT2 j q
  have tc : Tc h T L := ⟨L1, L2, fun j hj => by rw [(L4 j hj).1]; exact hT2 j hj, hT⟩
  have tm : Tm h T L := ⟨L1, L3, hT2, hT⟩
  have q1 := b_readAll tc
  cases hR : hpz T L 121 0 0 0 (fun _ _ => 0) 0 with
  | inl f =>
    rw [hR] at q1
    obtain ⟨h1, s1, f1, e1⟩ := q1
    have q2 := b_mhill (tm.sm s1)
    rw [hR] at q2
    obtain ⟨h2, s2, e2⟩ := q2
    refine ⟨(-10 : Int32) - nI f, h1, h2, ?_, e2, (hI.sm s1).sm s2⟩
    unfold f8_hill_0
    rw [e1, ob, jl, if_neg]
    rw [Int32.le_iff_toInt_le]
    have : ∀ f : Nat, f ≤ 120 → ((-10 : Int32) - nI f).toInt < 0 := by decide +kernel
    have := this f f1
    rw [show (0 : Int32).toInt = 0 from rfl]
    show ¬ 0 ≤ ((-10 : Int32) - nI f).toInt
    omega
  | inr r =>
    obtain ⟨a, n, m, E⟩ := r
    rw [hR] at q1
    obtain ⟨h1, s1, f1, e1, d1, ed⟩ := q1
    obtain ⟨hA, c0, c1, c2, c3, c4, c5, c6, c7, c8, c9, c10, c11, c12⟩ := b_ctail h1
    have tmA : Tm hA T L := by
      have := tm.sm s1
      exact ⟨this.1, by rw [c11 40 (by omega)]; exact this.2.1, fun j hj => by rw [c11 52 (by omega)]; exact this.2.2.1 j hj, this.2.2.2⟩
    have q2 := b_mhill tmA
    rw [hR] at q2
    obtain ⟨h3, s3, e3, d3⟩ := q2
    obtain ⟨hB, b0, b1, b2, b3, b4, b5, b6, b7, b8, b9, b10, b11, b12⟩ := b_takeAll d3 ed.1 ed.2.1
    obtain ⟨n6, m4, g1, g2, g3, g4⟩ := ed
    obtain ⟨dc1, dc2, dc3, dc4, dc5⟩ := d1
    have kB : ∀ k j, k < 40 → ¬ jq_s k j → hB.1 k j = hA.1 k j := fun k j hk hq => by rw [b11 k hk, s3.1 k j hq]
    refine ⟨nI a, hA, hB, ?_, ?_, n, m, E, ⟨n6, m4, ?_, ?_, b1, b2, fun t ht => ?_, fun k hk => ?_, g3, g4⟩, ⟨0, n6, by omega, ?_, b4, ⟨⟨0, by omega, b3⟩, fun t ht => ⟨⟨E 6 t, ?_, ?_⟩, Or.inl ?_, ⟨t, ht, ?_⟩⟩, fun s t hs ht he => ?_⟩, ⟨?_, fun t ht => ⟨?_, ?_, ?_⟩⟩, fun r hr => by omega⟩, ⟨⟨0, by omega, ?_⟩, fun i hi => Or.inl ⟨?_, ?_⟩⟩, ⟨0, by omega, ?_, b8, fun j hj => by omega⟩, ⟨0, by omega, ?_, b7, fun j hj => by omega⟩, ?_⟩
    · unfold f8_hill_0
      rw [e1, ob, jl, if_pos (show (0 : Int32) ≤ nI a by rw [q_0le (by omega)]; trivial)]
      have : ∀ (X : Option (Unit × jv_H)), ((f2_take_1_10 h1).bind fun q3 => (f1_begin_20_1 q3.2).bind fun q4 => (f5_empty_31 q4.2).bind fun q5 => jv_let (jv_p q5.2 0 11 (0 : Int32)) fun h6 => (f7_empty_9 h6).bind fun q7 => some ((), q7.2)) = X → ((f2_take_1_10 h1).bind fun q3 => (f1_begin_20_1 q3.2).bind fun q4 => (f5_empty_31 q4.2).bind fun q5 => jv_let (jv_p q5.2 0 11 (0 : Int32)) fun h6 => (f7_empty_9 h6).bind fun q7 => some (nI a, q7.2)) = X.bind fun q => some (nI a, q.2) := by
        intro X hX
        rw [← hX]
        simp only [Option.bind_assoc, ob, jl]
      rw [this _ c0, ob]
    · rw [e3, b0, ob]
    · rw [kB 1 0 (by omega) (by unfold jq_s; omega), c1, dc1]
    · rw [kB 1 1 (by omega) (by unfold jq_s; omega), c2, dc2]
    · have v := b5 t ht
      have w := c3 t (by omega)
      have x := dc3 t ht
      have y := g1 t ht
      rw [kB 3 t (by omega) (by unfold jq_s; omega), kB 4 t (by omega) (by unfold jq_s; omega), kB 5 t (by omega) (by unfold jq_s; omega), w.1, w.2.1, w.2.2, x.2.1, x.2.2.1, x.2.2.2]
      have y64 : E 2 t < 64 := Nat.lt_of_lt_of_le y.2.2.2 (pw6 n6)
      exact ⟨rfl, v.2.1, y.2.1, rfl, v.2.2.1, y.2.2.1, rfl, v.2.2.2, y64⟩
    · have v := b6 k hk
      have w := c4 k (by omega)
      have x := dc5 k hk
      have y := g2 k hk
      rw [kB 6 k (by omega) (by unfold jq_s; omega), kB 7 k (by omega) (by unfold jq_s; omega), kB 8 k (by omega) (by unfold jq_s; omega), w.1, w.2.1, w.2.2, x.1, x.2.1, x.2.2]
      exact ⟨rfl, v.1, y.1.1, y.1.2, rfl, v.2.1, y.2.1.1, y.2.1.2, rfl, v.2.2, y.2.2.1, y.2.2.2⟩
    · rw [kB 20 1 (by omega) (by unfold jq_s; omega)]; exact c5
    · have := (g1 t ht).1; omega
    · show hB.1 47 (0 + (1 + t)) = nI (E 6 t)
      rw [Nat.zero_add]; exact (b5 t ht).1.1
    · show hB.1 47 (0 + (7 + t)) = -9
      rw [Nat.zero_add]; exact (b5 t ht).1.2.1
    · show hB.1 47 (0 + (13 + t)) = nI t
      rw [Nat.zero_add]; exact (b5 t ht).1.2.2
    · have he : hB.1 47 (0 + (13 + s)) = hB.1 47 (0 + (13 + t)) := he
      rw [Nat.zero_add, Nat.zero_add, (b5 s hs).1.2.2, (b5 t ht).1.2.2, q_eq (by omega) (by omega)] at he
      exact he
    · show hB.1 21 (19 * 0 + 0) = hB.1 47 (0 + 0)
      rw [kB 21 _ (by omega) (by unfold jq_s; omega), b3]
      exact c6
    · show hB.1 21 (19 * 0 + (1 + t)) = hB.1 47 (0 + (1 + t))
      rw [kB 21 _ (by omega) (by unfold jq_s; omega), Nat.mul_zero, Nat.zero_add, (b5 t ht).1.1, (c7 t (by omega)).1, (dc3 t ht).1]
    · show hB.1 21 (19 * 0 + (7 + t)) = hB.1 47 (0 + (7 + t))
      rw [kB 21 _ (by omega) (by unfold jq_s; omega), Nat.mul_zero, Nat.zero_add, (b5 t ht).1.2.1, (c7 t (by omega)).2.1]
    · show hB.1 21 (19 * 0 + (13 + t)) = hB.1 47 (0 + (13 + t))
      rw [kB 21 _ (by omega) (by unfold jq_s; omega), Nat.mul_zero, Nat.zero_add, (b5 t ht).1.2.2, (c7 t (by omega)).2.2]
    · rw [kB 0 11 (by omega) (by unfold jq_s; omega)]; exact c9
    · rw [kB 0 11 (by omega) (by unfold jq_s; omega), c9]; exact kq_0 i hi
    · rcases (show i = 0 ∨ i = 1 by omega) with rfl | rfl
      · exact b9
      · exact b10
    · rw [kB 9 1 (by omega) (by unfold jq_s; omega)]; exact c10
    · rw [kB 31 3 (by omega) (by unfold jq_s; omega)]; exact c8
    · rw [b12, s3.2, c12, s1.2]; exact a6
