/-! nurse, sends -/
theorem q_clr : ∀ t, t < 6 → ∀ w, w < 64 → w.testBit t = false → nI w &&& (((1 : Int32) <<< (nI t &&& 31)) ^^^ (-1 : Int32)) = nI w := by decide +kernel
section SE
variable {h : jv_H} {N M P y : Nat} {D : Nat → Nat → Nat} {ht : Nat → Nat} {pl : Nat → Int32} {ow : Nat → Nat}
/-- those with nurse n -/
def wh (pl : Nat → Int32) (N n : Nat) : Nat := bs (fun t => decide (pl t = nI n)) N
theorem b_mayBeSent (V : Vc h N M P y D ht pl ow) {t n : Nat} (htN : t < N) (hnM : n < M) : f3_mayBeSent_22 (nI t) (nI n) h = some (if (!decide (pl t = nI n)) && mj D ht t n (wh pl N n) then 1 else 0, h) := by
  have t1 := V.n6
  unfold f3_mayBeSent_22
  simp only [q_place V.p V.p10 (show t < 6 by omega), Option.bind_some, (V.pla htN).1]
  by_cases hp : pl t = nI n
  · simp [hp]
  · rw [if_neg hp, b_thoseWith V, Option.bind_some, b_mayJoin V htN hnM (bs_64 _ t1), Option.bind_some]
    unfold wh
    by_cases c : mj D ht t n (bs (fun t => decide (pl t = nI n)) N) = true
    · simp [hp, c]
    · simp [hp, c]
theorem b_maySend (V : Vm h N M y D ht pl ow) {t n : Nat} (htN : t < N) (hnM : n < M) (hp : ¬ pl t = nI n) : f9_maySend_40 (nI t) (nI n) h = some (if mj D ht t n (wh pl N n) then 1 else 0, h) := by
  have t1 := V.n6
  have t2 := V.m4
  have hx := V.hea htN
  have hr := V.ro hnM
  have hh := V.ho hnM
  have hc := V.cl htN
  have hw : wh pl N n < 64 := bs_64 _ t1
  have hb : (wh pl N n).testBit t = false := by
    unfold wh
    rw [bs_bit]
    simp [hp]
  have hpc := pc_le (wh pl N n)
  unfold f9_maySend_40
  simp only [b_whom V, Option.bind_some, jv_let]
  rw [show bs (fun t => decide (pl t = nI n)) N = wh pl N n from rfl, q_clr t (by omega) _ hw hb]
  simp (disch := omega) only [q_mheat, Option.bind_some, hx.2, q_ix, q_cl, if_pos, hh.1, q_lt, q_bits hw, hr.1, q_le, hc.1, q_and0]
  unfold mj
  by_cases c1 : ht t ≤ D 5 n
  · rw [if_neg (by omega)]
    by_cases c2 : pc (wh pl N n) < D 4 n
    · rw [if_neg (by omega)]
      by_cases c3 : wh pl N n &&& D 2 t = 0
      · simp [c1, c2, c3]
      · simp [c1, c2, c3]
    · rw [if_pos (by omega)]
      simp [c2]
  · rw [if_pos (by omega)]
    simp [c1]
theorem b_those (V : Vc h N M P y D ht pl ow) {n : Nat} (hnM : n < M) : f3_thoseThatMayBeSentTo_22 (nI n) h = some (nI (bs (fun t => (!decide (pl t = nI n)) && mj D ht t n (wh pl N n)) N), h) := by
  have t1 := V.n6
  unfold f3_thoseThatMayBeSentTo_22
  simp only [jv_let]
  rw [w0]
  refine bs_loop (fun m a t => f3_thoseThatMayBeSentTo_22_l4 m (nI n) a t h) _ t1 (fun r => some (r, h)) (fun m t a htN ha h64 => ?_) (fun m a => ?_) jv_fuel (by unfold jv_fuel; omega)
  · show g3_thoseThatMayBeSentTo_22_b4 (f3_thoseThatMayBeSentTo_22_l4 m) (nI n) (nI a) (nI t) h = _
    unfold g3_thoseThatMayBeSentTo_22_b4 g3_thoseThatMayBeSentTo_22_b31
    rw [V.nt]
    simp (disch := omega) only [q_le, if_neg, b_mayBeSent V htN hnM, Option.bind_some, q_bit, jv_let, w1, nI_add]
    by_cases c : ((!decide (pl t = nI n)) && mj D ht t n (wh pl N n)) = true
    · simp only [c, if_true]
      rw [if_neg (by decide), ← w1, q_or t (by omega) a h64 ha]
    · simp only [c, if_false, Nat.add_zero]
      rw [if_pos (by decide)]
      simp
  · show g3_thoseThatMayBeSentTo_22_b4 (f3_thoseThatMayBeSentTo_22_l4 m) (nI n) (nI a) (nI N) h = _
    unfold g3_thoseThatMayBeSentTo_22_b4
    rw [V.nt]
    simp (disch := omega) only [q_le, if_pos]
/-- the reference's nurse(): its loop, then the answer -/
theorem b_nursel (V : Vm h N M y D ht pl ow) {n : Nat} (hnM : n < M) (w : Int32) : f9_nurse_40_l27 jv_fuel (nI n) w (nI 0) (nI 0) h = (if w = 0 then some (nI (D 3 n), h) else if w = 1 then some (nI (D 4 n), h) else if w = 2 then some (nI (D 5 n), h) else if w = 3 then some (nI (wh pl N n), h) else some (nI (bs (fun t => (!decide (pl t = nI n)) && mj D ht t n (wh pl N n)) N), h)) := by
  have t1 := V.n6
  have t2 := V.m4
  refine bs_loop (fun m a t => f9_nurse_40_l27 m (nI n) w a t h) _ t1 (fun r => if w = 0 then some (nI (D 3 n), h) else if w = 1 then some (nI (D 4 n), h) else if w = 2 then some (nI (D 5 n), h) else if w = 3 then some (nI (wh pl N n), h) else some (r, h)) (fun m t a htN ha h64 => ?_) (fun m a => ?_) jv_fuel (by unfold jv_fuel; omega)
  · show g9_nurse_40_b27 (f9_nurse_40_l27 m) (nI n) w (nI a) (nI t) h = _
    unfold g9_nurse_40_b27 g9_nurse_40_b68 g9_nurse_40_b69
    rw [V.nt]
    simp (disch := omega) only [q_le, if_neg, w7, nI_add, q_ix, q_cl, if_pos, (V.pla htN).1, jv_let]
    simp only [w1, nI_add]
    by_cases hp : pl t = nI n
    · rw [if_pos hp, q_or0 a h64]
      simp [hp]
    · rw [if_neg hp, b_maySend V htN hnM hp, Option.bind_some]
      by_cases c : mj D ht t n (wh pl N n) = true
      · simp only [c, if_true]
        rw [if_neg (by decide), ← w1, q_or t (by omega) a h64 ha]
        simp [hp]
      · simp only [c, if_false]
        rw [if_pos (by decide), q_or0 a h64]
        simp
  · show g9_nurse_40_b27 (f9_nurse_40_l27 m) (nI n) w (nI a) (nI N) h = _
    unfold g9_nurse_40_b27
    rw [V.nt]
    simp (disch := omega) only [q_le, if_pos, q_ix, q_cl, (V.ta hnM).1, (V.ro hnM).1, (V.ho hnM).1, b_whom V, Option.bind_some]
    rfl
end SE
theorem p_nurse : ok_nurse Inv := by
  intro a w h hI
  obtain ⟨N, M, P, y, D, ht, pl, ow, V, W, -⟩ := hI.vw
  have t2 := V.m4
  rcases q_arg a M (by omega) with ⟨n, hnM, rfl⟩ | hb
  · have hb : 0 ≤ (nI n).toInt ∧ (nI n).toInt < M := by rw [q_ti (by omega)]; omega
    by_cases hw : 0 ≤ w.toInt ∧ w.toInt ≤ 4
    · have key : ∃ r, f8_nurse_0 (nI n) w h = some (r, h) ∧ f9_nurse_40 (nI n) w h = some (r, h) := by
        unfold f8_nurse_0 f9_nurse_40
        simp only [q_hasN _ V.nn (show M ≤ 6 by omega), q_isN _ W.nn (show M ≤ 6 by omega), Option.bind_some, if_pos hb, q_in, show (0 : Int64).toInt = 0 from rfl, show (4 : Int64).toInt = 4 from rfl, if_pos hw, jv_let, if_neg (show ¬ (1 : Int32) = 0 by decide)]
        rw [show f9_nurse_40_l27 jv_fuel (nI n) w 0 0 h = _ from b_nursel W hnM w]
        simp (disch := omega) only [q_ix, q_cl, if_pos, (V.ta hnM).1, (V.ro hnM).1, (V.ho hnM).1, b_thoseWith V, b_those V hnM, Option.bind_some]
        obtain ⟨z, hz, rfl⟩ : ∃ t, t < 5 ∧ w = nI t := by
          rcases q_arg w 5 (by omega) with q | q
          · exact q
          · exact absurd hw (by omega)
        rcases (show z = 0 ∨ z = 1 ∨ z = 2 ∨ z = 3 ∨ z = 4 by omega) with rfl | rfl | rfl | rfl | rfl
        · exact ⟨_, rfl, rfl⟩
        · exact ⟨_, rfl, rfl⟩
        · exact ⟨_, rfl, rfl⟩
        · exact ⟨_, rfl, rfl⟩
        · exact ⟨_, rfl, rfl⟩
      obtain ⟨r, k1, k2⟩ := key
      exact ⟨r, h, h, k1, k2, hI⟩
    · refine ⟨-1, h, h, ?_, ?_, hI⟩
      · have ne : ∀ k : Nat, k ≤ 4 → ¬ w = nI k := by
          rintro k hk rfl
          rw [q_ti (by omega)] at hw
          omega
        unfold f8_nurse_0
        simp only [q_hasN _ V.nn (show M ≤ 6 by omega), Option.bind_some, if_pos hb]
        rw [if_neg (by decide), if_neg (show ¬ w = 0 from ne 0 (by omega)), if_neg (show ¬ w = 1 from ne 1 (by omega)), if_neg (show ¬ w = 2 from ne 2 (by omega)), if_neg (show ¬ w = 3 from ne 3 (by omega)), if_neg (show ¬ w = 4 from ne 4 (by omega))]
      · unfold f9_nurse_40
        simp only [q_isN _ W.nn (show M ≤ 6 by omega), Option.bind_some, if_pos hb, q_in, show (0 : Int64).toInt = 0 from rfl, show (4 : Int64).toInt = 4 from rfl, if_neg hw]
        rfl
  · refine ⟨-1, h, h, ?_, ?_, hI⟩
    · unfold f8_nurse_0
      simp only [q_hasN _ V.nn (show M ≤ 6 by omega), Option.bind_some, if_neg hb]
      rfl
    · unfold f9_nurse_40
      simp only [q_isN _ W.nn (show M ≤ 6 by omega), Option.bind_some, if_neg hb]
      rfl
theorem Vz.place {h h' : jv_H} {a b rc base base' N M y t : Nat} {D : Nat → Nat → Nat} {ht : Nat → Nat} {pl : Nat → Int32} {ow : Nat → Nat} {v : Int32} (V : Vz h a b rc base N M y D ht pl ow) (htN : t < N) (hv : v = -9 ∨ ∃ n, n < M ∧ v = nI n) (h0 : h'.1 a 0 = h.1 a 0) (h1 : h'.1 a 1 = h.1 a 1) (h2 : ∀ i, i < 6 → h'.1 (b + i) = h.1 (b + i)) (h3 : ∀ j, j < 19 → h'.1 rc (base' + j) = if j = 7 + t then v else h.1 rc (base + j)) : Vz h' a b rc base' N M y D ht (fun s => if s = t then v else pl s) ow := by
  obtain ⟨v1, v2, v3, v4, v5, v6, v7, v8, v9, v10, v11, v12⟩ := V
  refine ⟨v1, v2, h0.trans v3, h1.trans v4, fun t q => ?_, fun n q => ?_, v7, ?_, fun s q => ?_, fun s q => ?_, fun s q => ?_, v12⟩
  · have := h2 0 (by omega); simp only [Nat.add_zero] at this; rw [this, h2 1 (by omega), h2 2 (by omega)]; exact v5 t q
  · rw [h2 3 (by omega), h2 4 (by omega), h2 5 (by omega)]; exact v6 n q
  · rw [h3 0 (by omega), if_neg (by omega)]; exact v8
  · rw [h3 _ (by omega), if_neg (by omega)]; exact v9 s q
  · rw [h3 _ (by omega)]
    by_cases e : s = t
    · simp (disch := omega) only [if_pos e, if_pos]
      exact ⟨trivial, hv⟩
    · rw [if_neg (by omega)]; simp only [if_neg e]; exact v10 s q
  · rw [h3 _ (by omega), if_neg (by omega)]; exact v11 s q
theorem p_sends : ok_sends Inv := by
  intro a1' a2' h hI
  obtain ⟨N, M, D, a1, ⟨P, a2⟩, a3, a4, a5, a6⟩ := id hI
  obtain ⟨y, ht, pl, ow, V, W, CS⟩ := Vw.of a1 a2
  have t1 := V.n6
  have t2 := V.m4
  rcases q_arg a1' N (by omega) with ⟨t, htN, rfl⟩ | hb
  · have hb : 0 ≤ (nI t).toInt ∧ (nI t).toInt < N := by rw [q_ti (by omega)]; omega
    rcases q_arg a2' M (by omega) with ⟨n, hnM, rfl⟩ | hb2
    · have hb2 : 0 ≤ (nI n).toInt ∧ (nI n).toInt < M := by rw [q_ti (by omega)]; omega
      have h10 : ¬ (1 : Int32) = 0 := by decide
      by_cases hp : pl t = nI n
      · refine ⟨-2, h, h, ?_, ?_, hI⟩
        · unfold f8_sends_0
          simp only [q_hasT _ V.nt t1, q_hasN _ V.nn (show M ≤ 6 by omega), Option.bind_some, if_pos hb, if_pos hb2, if_neg h10, b_mayBeSent V htN hnM]
          simp [hp]
        · unfold f9_sends_40
          simp only [q_isT _ W.nt t1, q_isN _ W.nn (show M ≤ 6 by omega), Option.bind_some, if_pos hb, if_pos hb2, if_neg h10]
          simp (disch := omega) only [w7, nI_add, q_ix, q_cl, if_pos, (W.pla htN).1, if_pos hp]
      · by_cases c : mj D ht t n (wh pl N n) = true
        · obtain ⟨h1, P', s, f1, f2, f3, f4, f4', f5, f6, f7, f8, f9⟩ := q_remember V.p V.p10
          have hm : (jv_p h1 21 (19 * P' + (7 + t)) (nI n)).1 47 19 = nI P := by rw [q_p_k _ (by omega), f6 _ (by omega) (by omega)]; exact a2.2.2.2.1
          obtain ⟨h3, P'', s', g1, g2, g3, g4, g4', g5, g6, g7, g8, g9⟩ := q_save hm V.p10
          have hs : s' = s := by rw [g4', f4']
          subst hs
          have hP : P'' = P' := by omega
          subst hP
          have k48 : (jv_p h1 21 (19 * P'' + (7 + t)) (nI n)).1 47 = h.1 47 := by rw [q_p_k _ (by omega), f6 _ (by omega) (by omega)]
          have hA : ∀ k, ¬ k = 20 → ¬ k = 21 → (jv_p h1 21 (19 * P'' + (7 + t)) (nI n)).1 k = h.1 k := fun k k1 k2 => by rw [q_p_k _ k2, f6 k k1 k2]
          have V' : Vc (jv_p h1 21 (19 * P'' + (7 + t)) (nI n)) N M P'' y D ht (fun s => if s = t then nI n else pl s) ow := ⟨⟨f3, by rw [q_p_k _ (by omega)]; exact f5⟩, V.2.place htN (Or.inr ⟨n, hnM, rfl⟩) (by rw [hA 1 (by omega) (by omega)]) (by rw [hA 1 (by omega) (by omega)]) (fun i hi => hA _ (by omega) (by omega)) (fun j hj => by
            rw [q_p_if]
            by_cases e : j = 7 + t
            · rw [if_pos (by omega), if_pos e]
            · rw [if_neg (by omega), if_neg e, f8 j hj])⟩
          have W1 : Vm (jv_p h1 21 (19 * P'' + (7 + t)) (nI n)) N M y D ht pl ow := Vz.eq W (by rw [hA 40 (by omega) (by omega)]) (by rw [hA 40 (by omega) (by omega)]) (fun i hi => hA _ (by omega) (by omega)) (fun j hj => by rw [k48])
          have W' : Vm (jv_p h3 47 (7 + t) (nI n)) N M y D ht (fun s => if s = t then nI n else pl s) ow := Vz.place W1 htN (Or.inr ⟨n, hnM, rfl⟩) (by rw [q_p_k _ (by omega), g6 _ (by omega)]) (by rw [q_p_k _ (by omega), g6 _ (by omega)]) (fun i hi => by rw [q_p_k _ (by omega), g6 _ (by omega)]) (fun j hj => by
            rw [Nat.zero_add, q_p_if]
            by_cases e : j = 7 + t
            · rw [if_pos e, if_pos e]
            · rw [if_neg e, if_neg e, g8 j hj])
          refine ⟨nI (pc (bs (fun s => decide ((if s = t then nI n else pl s) = nI n)) N)), jv_p h1 21 (19 * P'' + (7 + t)) (nI n), jv_p h3 47 (7 + t) (nI n), ?_, ?_, ?_⟩
          · unfold f8_sends_0
            simp only [q_hasT _ V.nt t1, q_hasN _ V.nn (show M ≤ 6 by omega), Option.bind_some, if_pos hb, if_pos hb2, if_neg h10, b_mayBeSent V htN hnM, hp, c, decide_false, Bool.not_false, Bool.and_self, if_true, f1, q_setPlace _ f5 f3 (show t < 6 by omega), b_thoseWith V', q_bitCount (bs_64 _ t1)]
          · unfold f9_sends_40
            simp only [q_isT _ W1.nt t1, q_isN _ W1.nn (show M ≤ 6 by omega), Option.bind_some, if_pos hb, if_pos hb2, if_neg h10]
            simp (disch := omega) only [w7, nI_add, q_ix, q_cl, if_pos, (W1.pla htN).1, if_neg hp, b_maySend W1 htN hnM hp, c, if_true, Option.bind_some, if_neg h10, g1, jv_let, b_whom W', q_bits (bs_64 _ t1)]
          · refine Inv.put a1 a2 a3 a4 a5 a6 (show 7 + t < 19 by omega) f2 f3 f5 f6 f7 f8 f9 g5 g6 (g7.trans ?_) (fun j hj => ?_) (fun r hr j hj => ?_) ?_
            · rw [q_p_2, f7]
            · rw [g8 j hj, k48]
            · rw [g9 r hr j hj, k48]
            · exact Rw.place t1 (a2.2.2.2.2.1.cg t1 (fun j _ => by rw [Nat.zero_add])) htN (Or.inr ⟨n, hnM, rfl⟩)
        · refine ⟨-2, h, h, ?_, ?_, hI⟩
          · unfold f8_sends_0
            simp only [q_hasT _ V.nt t1, q_hasN _ V.nn (show M ≤ 6 by omega), Option.bind_some, if_pos hb, if_pos hb2, if_neg h10, b_mayBeSent V htN hnM]
            simp [c]
          · unfold f9_sends_40
            simp only [q_isT _ W.nt t1, q_isN _ W.nn (show M ≤ 6 by omega), Option.bind_some, if_pos hb, if_pos hb2, if_neg h10]
            simp (disch := omega) only [w7, nI_add, q_ix, q_cl, if_pos, (W.pla htN).1, if_neg hp, b_maySend W htN hnM hp, Option.bind_some]
            simp [c]
    · refine ⟨-1, h, h, ?_, ?_, hI⟩
      · unfold f8_sends_0
        simp only [q_hasT _ V.nt t1, q_hasN _ V.nn (show M ≤ 6 by omega), Option.bind_some, if_pos hb, if_neg hb2]
        rfl
      · unfold f9_sends_40
        simp only [q_isT _ W.nt t1, q_isN _ W.nn (show M ≤ 6 by omega), Option.bind_some, if_pos hb, if_neg hb2]
        rfl
  · refine ⟨-1, h, h, ?_, ?_, hI⟩
    · unfold f8_sends_0
      simp only [q_hasT _ V.nt t1, Option.bind_some, if_neg hb]
      rfl
    · unfold f9_sends_40
      simp only [q_isT _ W.nt t1, Option.bind_some, if_neg hb]
      rfl
