/-! mixes, years -/
theorem Vz.mk {h h' : jv_H} {a b rc base base' N M y y' : Nat} {D : Nat → Nat → Nat} {ht ht' : Nat → Nat} {pl pl' : Nat → Int32} {ow ow' : Nat → Nat} (V : Vz h a b rc base N M y D ht pl ow) (h0 : h'.1 a 0 = h.1 a 0) (h1 : h'.1 a 1 = h.1 a 1) (h2 : ∀ i, i < 6 → h'.1 (b + i) = h.1 (b + i)) (hy : y' ≤ 99 ∧ h'.1 rc (base' + 0) = nI y') (hh : ∀ t, t < N → ht' t ≤ 99 ∧ h'.1 rc (base' + (1 + t)) = nI (ht' t)) (hp : ∀ t, t < N → h'.1 rc (base' + (7 + t)) = pl' t ∧ (pl' t = -9 ∨ ∃ n, n < M ∧ pl' t = nI n)) (ho : ∀ t, t < N → ow' t < N ∧ h'.1 rc (base' + (13 + t)) = nI (ow' t)) (hi : ∀ s t, s < N → t < N → ow' s = ow' t → s = t) : Vz h' a b rc base' N M y' D ht' pl' ow' := by
  obtain ⟨v1, v2, v3, v4, v5, v6, v7, v8, v9, v10, v11, v12⟩ := V
  refine ⟨v1, v2, h0.trans v3, h1.trans v4, fun t q => ?_, fun n q => ?_, hy.1, hy.2, hh, hp, ho, hi⟩
  · have := h2 0 (by omega); simp only [Nat.add_zero] at this; rw [this, h2 1 (by omega), h2 2 (by omega)]; exact v5 t q
  · rw [h2 3 (by omega), h2 4 (by omega), h2 5 (by omega)]; exact v6 n q
theorem Inv.step {h hf : jv_H} {N M P P' s y' : Nat} {D : Nat → Nat → Nat} {ht' : Nat → Nat} {pl' : Nat → Int32} {ow' : Nat → Nat} (hT : Tl h N M D) (a : Cr h N M 20 21 47 0 P) (hIm : Im h N M) (hTx : Tx h) (hHd : Hd h) (hTr : h.2 34 1 = h.2 40 14) (e1 : P' + s = P + 1) (k1 : ∀ k, ¬ k = 20 → ¬ k = 21 → ¬ k = 47 → hf.1 k = h.1 k) (k2 : hf.2 = h.2) (m1 : hf.1 47 19 = nI P')
    (e5 : ∀ r, r < P' → ∀ j, j < 19 → hf.1 21 (19 * r + j) = h.1 21 (19 * (r + s) + j)) (e6 : ∀ r, r < P' → ∀ j, j < 19 → hf.1 47 (20 + 19 * r + j) = if r + 1 = P' then h.1 47 j else h.1 47 (20 + 19 * (r + s) + j))
    (V : Vc hf N M P' y' D ht' pl' ow') (W : Vm hf N M y' D ht' pl' ow') : Inv hf := by
  refine ⟨N, M, D, hT.eq (fun k _ _ _ => k1 k (by omega) (by omega) (by omega)) (by rw [k1 40 (by omega) (by omega) (by omega)]) (by rw [k1 40 (by omega) (by omega) (by omega)]) (fun k _ _ => k1 k (by omega) (by omega) (by omega)), ⟨P', a.push e1 V.p10 V.p m1 e5 e6 ?_ ?_⟩, hIm.eq (fun k _ _ => k1 k (by omega) (by omega) (by omega)) (k1 _ (by omega) (by omega) (by omega)) (k1 _ (by omega) (by omega) (by omega)), hTx.eq (by rw [k1 _ (by omega) (by omega) (by omega)]) (by rw [k1 _ (by omega) (by omega) (by omega)]) (k1 _ (by omega) (by omega) (by omega)) (k1 _ (by omega) (by omega) (by omega)), hHd.eq (by rw [k1 _ (by omega) (by omega) (by omega)]) (by rw [k1 _ (by omega) (by omega) (by omega)]) (k1 _ (by omega) (by omega) (by omega)) (k1 _ (by omega) (by omega) (by omega)) (k1 _ (by omega) (by omega) (by omega)) (k1 _ (by omega) (by omega) (by omega)), by rw [k2]; exact hTr⟩
  · refine ⟨⟨y', W.yr.1, W.yr.2⟩, fun t q => ⟨⟨_, (W.hea q).1, (W.hea q).2⟩, ?_, ⟨_, (W.own q).1, (W.own q).2⟩⟩, fun s t q r e => ?_⟩
    · show hf.1 47 (7 + t) = -9 ∨ ∃ n, n < M ∧ hf.1 47 (7 + t) = nI n
      rw [(W.pla q).1]; exact (W.pla q).2
    · have e : hf.1 47 (13 + s) = hf.1 47 (13 + t) := e
      have n6 := W.n6
      have o1 := (W.own q).1
      have o2 := (W.own r).1
      rw [(W.own q).2, (W.own r).2, q_eq (by omega) (by omega)] at e
      exact W.inj s t q r e
  · refine ⟨?_, fun t q => ⟨?_, ?_, ?_⟩⟩
    · exact V.yr.2.trans W.yr.2.symm
    · exact (V.hea q).2.trans (W.hea q).2.symm
    · exact (V.pla q).1.trans (W.pla q).1.symm
    · exact (V.own q).2.trans (W.own q).2.symm
/-- both remembered: the class's view of the new row -/
theorem Vc.rem {h h1 : jv_H} {N M P P' y : Nat} {D : Nat → Nat → Nat} {ht : Nat → Nat} {pl : Nat → Int32} {ow : Nat → Nat} (V : Vc h N M P y D ht pl ow) (f3 : P' ≤ 10) (f5 : h1.1 20 1 = nI P') (f6 : ∀ k, ¬ k = 20 → ¬ k = 21 → h1.1 k = h.1 k) (f8 : ∀ j, j < 19 → h1.1 21 (19 * P' + j) = h.1 21 (19 * P + j)) : Vc h1 N M P' y D ht pl ow := by
  have n6 := V.n6
  refine ⟨⟨f3, f5⟩, V.2.mk (by rw [f6 1 (by omega) (by omega)]) (by rw [f6 1 (by omega) (by omega)]) (fun i hi => f6 _ (by omega) (by omega)) ⟨V.yr.1, by rw [f8 0 (by omega)]; exact V.yr.2⟩ (fun t q => ?_) (fun t q => ?_) (fun t q => ?_) V.inj⟩
  · rw [f8 _ (by omega)]; exact V.hea q
  · rw [f8 _ (by omega)]; exact V.pla q
  · rw [f8 _ (by omega)]; exact V.own q
def sw (ow : Nat → Nat) (a b : Nat) : Nat → Nat := fun s => if s = b then ow a else if s = a then ow b else ow s
theorem sw_inj {ow : Nat → Nat} {a b N : Nat} (ha : a < N) (hb : b < N) (hab : ¬ a = b) (inj : ∀ s t, s < N → t < N → ow s = ow t → s = t) : ∀ s t, s < N → t < N → sw ow a b s = sw ow a b t → s = t := by
  intro s t hs ht e
  unfold sw at e
  by_cases s1 : s = b
  · subst s1
    by_cases q1 : t = s
    · exact q1.symm
    · rw [if_pos rfl, if_neg q1] at e
      by_cases q2 : t = a
      · rw [if_pos q2] at e
        have := inj _ _ ha hs e
        exact absurd this hab
      · rw [if_neg q2] at e
        exact absurd (inj _ _ ha ht e).symm q2
  · rw [if_neg s1] at e
    by_cases s2 : s = a
    · subst s2
      rw [if_pos rfl] at e
      by_cases q1 : t = b
      · rw [if_pos q1] at e
        have := inj _ _ hb ha e
        exact absurd this.symm hab
      · rw [if_neg q1] at e
        by_cases q2 : t = s
        · exact q2.symm
        · rw [if_neg q2] at e
          exact absurd (inj _ _ hb ht e).symm q1
    · rw [if_neg s2] at e
      by_cases q1 : t = b
      · rw [if_pos q1] at e
        exact absurd (inj _ _ hs ha e) s2
      · rw [if_neg q1] at e
        by_cases q2 : t = a
        · rw [if_pos q2] at e
          exact absurd (inj _ _ hs hb e) s1
        · rw [if_neg q2] at e
          exact inj _ _ hs ht e
theorem p_mixes : ok_mixes Inv := by
  intro a1' a2' h hI
  obtain ⟨N, M, D, a1, ⟨P, a2⟩, a3, a4, a5, a6⟩ := id hI
  obtain ⟨y, ht, pl, ow, V, W, CS⟩ := Vw.of a1 a2
  have t1 := V.n6
  have h10 : ¬ (1 : Int32) = 0 := by decide
  rcases q_arg a1' N (by omega) with ⟨a, haN, rfl⟩ | hb
  · have hb : 0 ≤ (nI a).toInt ∧ (nI a).toInt < N := by rw [q_ti (by omega)]; omega
    rcases q_arg a2' N (by omega) with ⟨b, hbN, rfl⟩ | hb2
    · have hb2 : 0 ≤ (nI b).toInt ∧ (nI b).toInt < N := by rw [q_ti (by omega)]; omega
      by_cases hab : a = b
      · subst hab
        refine ⟨-1, h, h, ?_, ?_, hI⟩
        · unfold f8_mixes_0
          simp only [q_hasT _ V.nt t1, Option.bind_some, if_pos hb, if_neg h10, if_true]
        · unfold f9_mixes_40
          simp only [q_isT _ W.nt t1, Option.bind_some, if_pos hb, if_neg h10, if_true]
      · have hab' : ¬ nI a = nI b := by rw [q_eq (by omega) (by omega)]; exact hab
        obtain ⟨h1, P', s, f1, f2, f3, f4, f4', f5, f6, f7, f8, f9⟩ := q_remember V.p V.p10
        have V1 := V.rem f3 f5 f6 f8
        generalize hAe : jv_p (jv_p h1 21 (19 * P' + (13 + a)) (nI (ow b))) 21 (19 * P' + (13 + b)) (nI (ow a)) = hA
        have hAk : ∀ k, ¬ k = 21 → hA.1 k = h1.1 k := fun k hk => by rw [← hAe, q_p_k _ hk, q_p_k _ hk]
        have hA21 : ∀ j, hA.1 21 j = if j = 19 * P' + (13 + b) then nI (ow a) else if j = 19 * P' + (13 + a) then nI (ow b) else h1.1 21 j := fun j => by rw [← hAe, q_p_if, q_p_if]
        have hA2 : hA.2 = h.2 := by rw [← hAe]; exact f7
        have V' : Vc hA N M P' y D ht pl (sw ow a b) := ⟨⟨f3, by rw [hAk _ (by omega)]; exact f5⟩, V1.2.mk (by rw [hAk _ (by omega)]) (by rw [hAk _ (by omega)]) (fun i hi => hAk _ (by omega)) ⟨V1.yr.1, by rw [hA21, if_neg (by omega), if_neg (by omega)]; exact V1.yr.2⟩ (fun t q => by rw [hA21, if_neg (by omega), if_neg (by omega)]; exact V1.hea q) (fun t q => by rw [hA21, if_neg (by omega), if_neg (by omega)]; exact V1.pla q) (fun t q => by
          rw [hA21]
          unfold sw
          by_cases e1 : t = b
          · rw [if_pos (show 19 * P' + (13 + t) = 19 * P' + (13 + b) by omega), if_pos e1]; exact ⟨(V.own haN).1, rfl⟩
          · rw [if_neg (show ¬ 19 * P' + (13 + t) = 19 * P' + (13 + b) by omega), if_neg e1]
            by_cases e2 : t = a
            · rw [if_pos (show 19 * P' + (13 + t) = 19 * P' + (13 + a) by omega), if_pos e2]; exact ⟨(V.own hbN).1, rfl⟩
            · rw [if_neg (show ¬ 19 * P' + (13 + t) = 19 * P' + (13 + a) by omega), if_neg e2]; exact V1.own q) (sw_inj haN hbN hab V.inj)⟩
        have k48 : hA.1 47 = h.1 47 := by rw [hAk _ (by omega), f6 _ (by omega) (by omega)]
        have W1 : Vm hA N M y D ht pl ow := Vz.eq W (by rw [hAk _ (by omega), f6 _ (by omega) (by omega)]) (by rw [hAk _ (by omega), f6 _ (by omega) (by omega)]) (fun i hi => by rw [hAk _ (by omega), f6 _ (by omega) (by omega)]) (fun j hj => by rw [k48])
        have hm : hA.1 47 19 = nI P := by rw [k48]; exact a2.2.2.2.1
        obtain ⟨h3, P'', s', g1, g2, g3, g4, g4', g5, g6, g7, g8, g9⟩ := q_save hm V.p10
        have hs : s' = s := by rw [g4', f4']
        subst hs
        have hP : P'' = P' := by omega
        subst hP
        have W3 : Vm h3 N M y D ht pl ow := Vz.eq W1 (by rw [g6 _ (by omega)]) (by rw [g6 _ (by omega)]) (fun i hi => g6 _ (by omega)) (fun j hj => by rw [Nat.zero_add, g8 j hj])
        generalize hBe : jv_p (jv_p h3 47 (13 + a) (nI (ow b))) 47 (13 + b) (nI (ow a)) = hB
        have hBk : ∀ k, ¬ k = 47 → hB.1 k = hA.1 k := fun k hk => by rw [← hBe, q_p_k _ hk, q_p_k _ hk, g6 k hk]
        have hB48 : ∀ j, hB.1 47 j = if j = 13 + b then nI (ow a) else if j = 13 + a then nI (ow b) else h3.1 47 j := fun j => by rw [← hBe, q_p_if, q_p_if]
        have W' : Vm hB N M y D ht pl (sw ow a b) := Vz.mk W3 (by rw [hBk _ (by omega), g6 _ (by omega)]) (by rw [hBk _ (by omega), g6 _ (by omega)]) (fun i hi => by rw [hBk _ (by omega), g6 _ (by omega)]) ⟨W3.yr.1, by rw [Nat.zero_add, hB48, if_neg (by omega), if_neg (by omega)]; exact W3.yr.2⟩ (fun t q => by rw [Nat.zero_add, hB48, if_neg (by omega), if_neg (by omega)]; exact W3.hea q) (fun t q => by rw [Nat.zero_add, hB48, if_neg (by omega), if_neg (by omega)]; exact W3.pla q) (fun t q => by
          rw [Nat.zero_add, hB48]
          unfold sw
          by_cases e1 : t = b
          · rw [if_pos (show (13 + t) = (13 + b) by omega), if_pos e1]; exact ⟨(V.own haN).1, rfl⟩
          · rw [if_neg (show ¬ (13 + t) = (13 + b) by omega), if_neg e1]
            by_cases e2 : t = a
            · rw [if_pos (show (13 + t) = (13 + a) by omega), if_pos e2]; exact ⟨(V.own hbN).1, rfl⟩
            · rw [if_neg (show ¬ (13 + t) = (13 + a) by omega), if_neg e2]; exact W3.own q) (sw_inj haN hbN hab V.inj)
        have V'' : Vc hB N M P'' y D ht pl (sw ow a b) := ⟨⟨f3, by rw [hBk _ (by omega)]; exact V'.p⟩, V'.2.eq (by rw [hBk _ (by omega)]) (by rw [hBk _ (by omega)]) (fun i hi => hBk _ (by omega)) (fun j hj => by rw [hBk _ (by omega)])⟩
        refine ⟨nI (cn (fun t => !low (sw ow a b) t) N), hA, hB, ?_, ?_, ?_⟩
        · have e20 : (jv_p h1 21 (19 * P'' + (13 + a)) (nI (ow b))).1 20 1 = nI P'' := by rw [q_p_k _ (by omega)]; exact f5
          unfold f8_mixes_0
          simp only [q_hasT _ V.nt t1, Option.bind_some, if_pos hb, if_pos hb2, if_neg h10, if_neg hab', f1, q_owner f5 f3 (show a < 6 by omega), q_owner f5 f3 (show b < 6 by omega), jv_let, (V1.own haN).2, (V1.own hbN).2, q_setOwner _ f5 f3 (show a < 6 by omega), q_setOwner _ e20 f3 (show b < 6 by omega), hAe, V'.nt, b_mixes V']
        · unfold f9_mixes_40
          simp only [q_isT _ W1.nt t1, Option.bind_some, if_pos hb, if_pos hb2, if_neg h10, if_neg hab', g1, jv_let]
          rw [show (13 : Int32) + nI a = nI (13 + a) from by rw [w13, nI_add], show (13 : Int32) + nI b = nI (13 + b) from by rw [w13, nI_add]]
          simp only [if_pos (show jv_ix (nI (13 + a)) 210 by rw [q_ix (by omega)]; omega), if_pos (show jv_ix (nI (13 + b)) 210 by rw [q_ix (by omega)]; omega), q_cl (show 13 + a < 2147483648 by omega), q_cl (show 13 + b < 2147483648 by omega), (W3.own haN).2, (W3.own hbN).2, hBe, b_right W', Option.bind_some]
        · refine Inv.step a1 a2 a3 a4 a5 a6 f2 (fun k q1 q2 q3 => by rw [hBk k q3, hAk k q2, f6 k q1 q2]) ?_ ?_ (fun r hr j hj => ?_) (fun r hr j hj => ?_) V'' W'
          · rw [← hBe, q_p_2, q_p_2, g7, hA2]
          · rw [hB48, if_neg (by omega), if_neg (by omega)]; exact g5
          · rw [hBk _ (by omega), hA21, if_neg (by omega), if_neg (by omega), f9 r hr j hj]
          · rw [hB48, if_neg (by omega), if_neg (by omega), g9 r hr j hj, k48]
    · refine ⟨-1, h, h, ?_, ?_, hI⟩
      · unfold f8_mixes_0
        simp only [q_hasT _ V.nt t1, Option.bind_some, if_pos hb, if_neg hb2]
        rfl
      · unfold f9_mixes_40
        simp only [q_isT _ W.nt t1, Option.bind_some, if_pos hb, if_neg hb2]
        rfl
  · refine ⟨-1, h, h, ?_, ?_, hI⟩
    · unfold f8_mixes_0
      simp only [q_hasT _ V.nt t1, Option.bind_some, if_neg hb]
      rfl
    · unfold f9_mixes_40
      simp only [q_isT _ W.nt t1, Option.bind_some, if_neg hb]
      rfl
