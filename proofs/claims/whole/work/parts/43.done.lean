/-! what is done to a row: both sides together -/
/-- both remember, then the new row is written: class cell 21, reference cell 47 -/
theorem Cr.push {h hf : jv_H} {N M P P' s : Nat} (a : Cr h N M 20 21 47 0 P) (e1 : P' + s = P + 1) (e2 : P' ≤ 10) (e3 : hf.1 20 1 = nI P') (e4 : hf.1 47 19 = nI P')
    (e5 : ∀ r, r < P' → ∀ j, j < 19 → hf.1 21 (19 * r + j) = h.1 21 (19 * (r + s) + j)) (e6 : ∀ r, r < P' → ∀ j, j < 19 → hf.1 47 (20 + 19 * r + j) = if r + 1 = P' then h.1 47 j else h.1 47 (20 + 19 * (r + s) + j))
    (e7 : Rw N M (fun j => hf.1 47 j)) (e8 : Re N (fun j => hf.1 21 (19 * P' + j)) (fun j => hf.1 47 j)) : Cr hf N M 20 21 47 0 P' := by
  obtain ⟨a0, a1, a2, a3, a4, a5, a6⟩ := a
  refine ⟨a0, e2, e3, e4, e7.cg a0 (fun j _ => by rw [Nat.zero_add]), e8.cg a0 (fun j _ => rfl) (fun j _ => by rw [Nat.zero_add]), fun r hr => ?_⟩
  by_cases hrp : r + 1 = P'
  · have hrs : r + s = P := by omega
    have f1 : ∀ j, j < 19 → hf.1 47 (0 + 20 + 19 * r + j) = h.1 47 (0 + j) := fun j hj => by rw [show 0 + 20 + 19 * r + j = 20 + 19 * r + j by omega, e6 r hr j hj, if_pos hrp, Nat.zero_add]
    exact ⟨a4.cg a0 f1, a5.cg a0 (fun j hj => by rw [e5 r hr j hj, hrs]) f1⟩
  · have f1 : ∀ j, j < 19 → hf.1 47 (0 + 20 + 19 * r + j) = h.1 47 (0 + 20 + 19 * (r + s) + j) := fun j hj => by rw [show 0 + 20 + 19 * r + j = 20 + 19 * r + j by omega, e6 r hr j hj, if_neg hrp, show 0 + 20 + 19 * (r + s) + j = 20 + 19 * (r + s) + j by omega]
    have := a6 (r + s) (by omega)
    exact ⟨this.1.cg a0 f1, this.2.cg a0 (fun j hj => e5 r hr j hj) f1⟩
/-- a row with one place changed -/
theorem Rw.place {N M t : Nat} {ρ : Nat → Int32} (hN : N ≤ 6) (a : Rw N M ρ) (ht : t < N) {v : Int32} (hv : v = -9 ∨ ∃ n, n < M ∧ v = nI n) : Rw N M (fun j => if j = 7 + t then v else ρ j) := by
  obtain ⟨⟨y, w1, w2⟩, w3, w4⟩ := a
  refine ⟨⟨y, w1, by simp (disch := omega) only [if_neg]; exact w2⟩, fun s hs => ?_, fun s r hs hr he => ?_⟩
  · by_cases e : s = t
    · subst e
      simp (disch := omega) only [if_neg, if_pos]
      exact ⟨(w3 s hs).1, hv, (w3 s hs).2.2⟩
    · simp (disch := omega) only [if_neg]
      exact w3 s hs
  · simp (disch := omega) only [if_neg] at he
    exact w4 s r hs hr he
theorem Rw.heat {N M t x : Nat} {ρ : Nat → Int32} (hN : N ≤ 6) (a : Rw N M ρ) (ht : t < N) (hx : x ≤ 99) : Rw N M (fun j => if j = 1 + t then nI x else ρ j) := by
  obtain ⟨⟨y, w1, w2⟩, w3, w4⟩ := a
  refine ⟨⟨y, w1, by simp (disch := omega) only [if_neg]; exact w2⟩, fun s hs => ?_, fun s r hs hr he => ?_⟩
  · by_cases e : s = t
    · subst e
      simp (disch := omega) only [if_neg, if_pos]
      exact ⟨⟨x, hx, by simp⟩, (w3 s hs).2⟩
    · simp (disch := omega) only [if_neg]
      exact w3 s hs
  · simp (disch := omega) only [if_neg] at he
    exact w4 s r hs hr he
theorem Re.both {N i : Nat} {ρ σ : Nat → Int32} (v : Int32) (a : Re N ρ σ) : Re N (fun j => if j = i then v else ρ j) (fun j => if j = i then v else σ j) := by
  refine ⟨?_, fun t ht => ⟨?_, ?_, ?_⟩⟩
  · by_cases e : 0 = i
    · simp only [if_pos e]
    · simp only [if_neg e]; exact a.1
  · by_cases e : 1 + t = i
    · simp only [if_pos e]
    · simp only [if_neg e]; exact (a.2 t ht).1
  · by_cases e : 7 + t = i
    · simp only [if_pos e]
    · simp only [if_neg e]; exact (a.2 t ht).2.1
  · by_cases e : 13 + t = i
    · simp only [if_pos e]
    · simp only [if_neg e]; exact (a.2 t ht).2.2
/-- both remember, then both write v to place i of the row -/
theorem Inv.put {h h1 h3 : jv_H} {N M P P' s i : Nat} {D : Nat → Nat → Nat} {v : Int32} (hT : Tl h N M D) (a : Cr h N M 20 21 47 0 P) (hIm : Im h N M) (hTx : Tx h) (hHd : Hd h) (hTr : h.2 34 1 = h.2 40 14) (hi : i < 19)
    (e1 : P' + s = P + 1) (e2 : P' ≤ 10) (r1 : h1.1 20 1 = nI P') (r2 : ∀ k, ¬ k = 20 → ¬ k = 21 → h1.1 k = h.1 k) (r3 : h1.2 = h.2) (r4 : ∀ j, j < 19 → h1.1 21 (19 * P' + j) = h.1 21 (19 * P + j)) (r5 : ∀ r, r < P' → ∀ j, j < 19 → h1.1 21 (19 * r + j) = h.1 21 (19 * (r + s) + j))
    (m1 : h3.1 47 19 = nI P') (m2 : ∀ k, ¬ k = 47 → h3.1 k = (jv_p h1 21 (19 * P' + i) v).1 k) (m3 : h3.2 = h.2) (m4 : ∀ j, j < 19 → h3.1 47 j = h.1 47 j) (m5 : ∀ r, r < P' → ∀ j, j < 19 → h3.1 47 (20 + 19 * r + j) = if r + 1 = P' then h.1 47 j else h.1 47 (20 + 19 * (r + s) + j))
    (hv : Rw N M (fun j => if j = i then v else h.1 47 j)) : Inv (jv_p h3 47 i v) := by
  have g : ∀ k, ¬ k = 20 → ¬ k = 21 → ¬ k = 47 → (jv_p h3 47 i v).1 k = h.1 k := fun k k1 k2 k3 => by rw [q_p_k _ k3, m2 k k3, q_p_k _ k2, r2 k k1 k2]
  refine ⟨N, M, D, hT.eq (fun k _ _ _ => g k (by omega) (by omega) (by omega)) (by rw [g 40 (by omega) (by omega) (by omega)]) (by rw [g 40 (by omega) (by omega) (by omega)]) (fun k _ _ => g k (by omega) (by omega) (by omega)), ⟨P', ?_⟩, hIm.eq (fun k _ _ => g k (by omega) (by omega) (by omega)) (g _ (by omega) (by omega) (by omega)) (g _ (by omega) (by omega) (by omega)), hTx.eq (by rw [g _ (by omega) (by omega) (by omega)]) (by rw [g _ (by omega) (by omega) (by omega)]) (g _ (by omega) (by omega) (by omega)) (g _ (by omega) (by omega) (by omega)), hHd.eq (by rw [g _ (by omega) (by omega) (by omega)]) (by rw [g _ (by omega) (by omega) (by omega)]) (g _ (by omega) (by omega) (by omega)) (g _ (by omega) (by omega) (by omega)) (g _ (by omega) (by omega) (by omega)) (g _ (by omega) (by omega) (by omega)), by rw [q_p_2, m3]; exact hTr⟩
  have a0 := a.1
  refine a.push e1 e2 ?_ ?_ (fun r hr j hj => ?_) (fun r hr j hj => ?_) ?_ ?_
  · rw [q_p_k _ (by omega), m2 _ (by omega), q_p_k _ (by omega)]; exact r1
  · rw [q_p_j _ (by omega)]; exact m1
  · rw [q_p_k _ (by omega), m2 _ (by omega), q_p_j _ (by omega), r5 r hr j hj]
  · rw [q_p_j _ (by omega), m5 r hr j hj]
  · refine hv.cg a0 (fun j hj => ?_)
    rw [q_p_if]
    by_cases e : j = i
    · simp only [if_pos e]
    · simp only [if_neg e]; exact m4 j hj
  · refine (Re.both (i := i) v a.2.2.2.2.2.1).cg a0 (fun j hj => ?_) (fun j hj => ?_)
    · show (jv_p h3 47 i v).1 21 (19 * P' + j) = if j = i then v else h.1 21 (19 * P + j)
      rw [q_p_k _ (by omega), m2 _ (by omega), q_p_if]
      by_cases e : j = i
      · simp (disch := omega) only [if_pos]
      · simp (disch := omega) only [if_neg]; exact r4 j hj
    · show (jv_p h3 47 i v).1 47 j = if j = i then v else h.1 47 (0 + j)
      rw [q_p_if, Nat.zero_add]
      by_cases e : j = i
      · simp only [if_pos e]
      · simp only [if_neg e]; exact m4 j hj
theorem p_fetches : ok_fetches Inv := by
  intro a h hI
  obtain ⟨N, M, D, a1, ⟨P, a2⟩, a3, a4, a5, a6⟩ := id hI
  obtain ⟨t1, t2, t3, t4, t5, t6, -⟩ := id a1
  obtain ⟨c0, c1, c2, c3, c4, c5, c6⟩ := id a2
  rcases q_arg a N (by omega) with ⟨t, ht, rfl⟩ | hb
  · have hb : 0 ≤ (nI t).toInt ∧ (nI t).toInt < N := by rw [q_ti (by omega)]; omega
    have hpl : h.1 21 (19 * P + (7 + t)) = h.1 47 (7 + t) := by have := (c5.2 t ht).2.1; simpa using this
    by_cases h9 : h.1 47 (7 + t) = -9
    · refine ⟨-2, h, h, ?_, ?_, hI⟩
      · unfold f8_fetches_0
        simp only [q_hasT _ t3 t1, Option.bind_some, if_pos hb, q_place c2 c1 (show t < 6 by omega), jv_let, hpl, h9]
        rfl
      · unfold f9_fetches_40
        simp only [q_isT _ t5 t1, Option.bind_some, if_pos hb, jv_let]
        simp (disch := omega) only [w7, nI_add, q_ix, q_cl, if_pos, h9]
        rfl
    · obtain ⟨h1, P', s, f1, f2, f3, f4, f4', f5, f6, f7, f8, f9⟩ := q_remember c2 c1
      have hm : (jv_p h1 21 (19 * P' + (7 + t)) (-9)).1 47 19 = nI P := by rw [q_p_k _ (by omega), f6 _ (by omega) (by omega)]; exact c3
      obtain ⟨h3, P'', s', g1, g2, g3, g4, g4', g5, g6, g7, g8, g9⟩ := q_save hm c1
      have hs : s' = s := by rw [g4', f4']
      subst hs
      have hP : P'' = P' := by omega
      subst hP
      have k48 : (jv_p h1 21 (19 * P'' + (7 + t)) (-9)).1 47 = h.1 47 := by rw [q_p_k _ (by omega), f6 _ (by omega) (by omega)]
      refine ⟨h.1 47 (7 + t), jv_p h1 21 (19 * P'' + (7 + t)) (-9), jv_p h3 47 (7 + t) (-9), ?_, ?_, ?_⟩
      · unfold f8_fetches_0
        simp only [q_hasT _ t3 t1, Option.bind_some, if_pos hb, q_place c2 c1 (show t < 6 by omega), jv_let, hpl, if_neg h9, f1, q_setPlace _ f5 f3 (show t < 6 by omega)]
        rfl
      · have t5' : (jv_p h1 21 (19 * P'' + (7 + t)) (-9)).1 40 0 = nI N := by rw [q_p_k _ (by omega), f6 _ (by omega) (by omega)]; exact t5
        unfold f9_fetches_40
        simp only [q_isT _ t5' t1, Option.bind_some, if_pos hb, jv_let]
        simp (disch := omega) only [w7, nI_add, q_ix, q_cl, if_pos, k48, if_neg h9, g1, Option.bind_some]
        rfl
      · refine Inv.put a1 a2 a3 a4 a5 a6 (show 7 + t < 19 by omega) f2 f3 f5 f6 f7 f8 f9 g5 g6 (g7.trans ?_) (fun j hj => ?_) (fun r hr j hj => ?_) ?_
        · rw [q_p_2, f7]
        · rw [g8 j hj, k48]
        · rw [g9 r hr j hj, k48]
        · exact Rw.place c0 (c4.cg c0 (fun j _ => by rw [Nat.zero_add])) ht (Or.inl rfl)
  · refine ⟨-1, h, h, ?_, ?_, hI⟩
    · unfold f8_fetches_0
      simp only [q_hasT _ t3 t1, Option.bind_some, if_neg hb]
      rfl
    · unfold f9_fetches_40
      simp only [q_isT _ t5 t1, Option.bind_some, if_neg hb]
      rfl
