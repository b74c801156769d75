/-! hill: the class's reader -/
section CR
variable {T : Nat → Nat} {L : Nat}
theorem Ed.tT {n m a b c : Nat} {E : Nat → Nat → Nat} (e : Ed n m E) (hn : n < 6) (ha : a ≤ 60) (hb : b ≤ 5) (hc : c ≤ 40) : Ed (n + 1) m (addT E n a b c) := by
  obtain ⟨e1, e2, e3, e4, e5, e6⟩ := e
  have p2 : 2 ^ (n + 1) = 2 ^ n * 2 := Nat.pow_succ 2 n
  have pp : 0 < 2 ^ n := Nat.pow_pos (by omega)
  have z : ∀ t, addT E n a b c 2 t = if t = n then 0 else E 2 t := fun t => by simp [addT]
  have hi : ∀ t, t < n → (E 2 t).testBit n = false := fun t ht => Nat.testBit_lt_two_pow (e3 t ht).2.2.2
  refine ⟨by omega, e2, fun t ht => ?_, fun k hk => ?_, fun s t hs ht => ?_, fun t ht => ?_⟩
  · by_cases q : t = n
    · simp only [addT, q, and_self, if_true, true_and, and_true, false_and]
      simp only [and_true, false_and, show ¬ (0 : Nat) = 6 by omega, show ¬ (1 : Nat) = 6 by omega, show ¬ (1 : Nat) = 0 by omega, show ¬ (2 : Nat) = 6 by omega, show ¬ (2 : Nat) = 0 by omega, show ¬ (2 : Nat) = 1 by omega, if_false, if_true]
      omega
    · have := e3 t (by omega)
      simp only [addT, q, and_false, if_false]
      omega
  · have := e4 k hk
    simp only [addT, show ¬ (3 : Nat) = 6 by omega, show ¬ (3 : Nat) = 0 by omega, show ¬ (3 : Nat) = 1 by omega, show ¬ (3 : Nat) = 2 by omega, show ¬ (4 : Nat) = 6 by omega, show ¬ (4 : Nat) = 0 by omega, show ¬ (4 : Nat) = 1 by omega, show ¬ (4 : Nat) = 2 by omega, show ¬ (5 : Nat) = 6 by omega, show ¬ (5 : Nat) = 0 by omega, show ¬ (5 : Nat) = 1 by omega, show ¬ (5 : Nat) = 2 by omega, false_and, if_false]
    exact this
  · rw [z, z]
    by_cases q1 : s = n
    · rw [if_pos q1]
      by_cases q2 : t = n
      · rw [if_pos q2, q1, q2]
      · rw [if_neg q2, q1, hi t (by omega), Nat.zero_testBit]
    · rw [if_neg q1]
      by_cases q2 : t = n
      · rw [if_pos q2, q2, hi s (by omega), Nat.zero_testBit]
      · rw [if_neg q2]; exact e5 s t (by omega) (by omega)
  · rw [z]
    by_cases q : t = n
    · rw [if_pos q, Nat.zero_testBit]
    · rw [if_neg q]; exact e6 t (by omega)
theorem Ed.tN {n m a b c : Nat} {E : Nat → Nat → Nat} (e : Ed n m E) (hm : m < 4) (ha : 1 ≤ a ∧ a ≤ 9) (hb : 1 ≤ b ∧ b ≤ 3) (hc : 1 ≤ c ∧ c ≤ 99) : Ed n (m + 1) (addN E m a b c) := by
  obtain ⟨e1, e2, e3, e4, e5, e6⟩ := e
  have z : ∀ i t, ¬ i = 3 → ¬ i = 4 → ¬ i = 5 → addN E m a b c i t = E i t := fun i t h1 h2 h3 => by simp [addN, h1, h2, h3]
  refine ⟨e1, by omega, fun t ht => ?_, fun k hk => ?_, fun s t hs ht => ?_, fun t ht => ?_⟩
  · rw [z 6 t (by omega) (by omega) (by omega), z 0 t (by omega) (by omega) (by omega), z 1 t (by omega) (by omega) (by omega), z 2 t (by omega) (by omega) (by omega)]
    exact e3 t ht
  · by_cases q : k = m
    · simp only [addN, q, and_self, if_true, true_and, and_true, show ¬ (4 : Nat) = 3 by omega, show ¬ (5 : Nat) = 3 by omega, show ¬ (5 : Nat) = 4 by omega, if_false]
      exact ⟨ha, hb, hc⟩
    · simp only [addN, q, and_false, if_false]
      exact e4 k (by omega)
  · rw [z 2 s (by omega) (by omega) (by omega), z 2 t (by omega) (by omega) (by omega)]; exact e5 s t hs ht
  · rw [z 2 t (by omega) (by omega) (by omega)]; exact e6 t ht
theorem Ed.tX {n m a b : Nat} {E : Nat → Nat → Nat} (e : Ed n m E) (ha : a < n) (hb : b < n) (hab : ¬ b = a) : Ed n m (addX E a b) := by
  obtain ⟨e1, e2, e3, e4, e5, e6⟩ := e
  have z : ∀ i t, ¬ i = 2 → addX E a b i t = E i t := fun i t h1 => by simp [addX, h1]
  have y : ∀ t, addX E a b 2 t = if t = a then E 2 a ||| 2 ^ b else if t = b then E 2 b ||| 2 ^ a else E 2 t := fun t => by simp [addX]
  have bit : ∀ s t, (addX E a b 2 s).testBit t = ((E 2 s).testBit t || (decide (s = a ∧ t = b) || decide (s = b ∧ t = a))) := fun s t => by
    rw [y]
    by_cases q1 : s = a
    · subst q1
      rw [if_pos rfl, Nat.testBit_or, Nat.testBit_two_pow]
      by_cases q2 : b = t
      · simp [q2]
      · simp [q2, show ¬ t = b from fun x => q2 x.symm, show ¬ s = b from fun x => hab x.symm]
    · rw [if_neg q1]
      by_cases q3 : s = b
      · subst q3
        rw [if_pos rfl, Nat.testBit_or, Nat.testBit_two_pow]
        by_cases q2 : a = t
        · simp [q2]
        · simp [q2, show ¬ t = a from fun x => q2 x.symm, q1]
      · rw [if_neg q3]
        simp [q1, q3]
  refine ⟨e1, e2, fun t ht => ?_, fun k hk => ?_, fun s t hs ht => ?_, fun t ht => ?_⟩
  · rw [z 6 t (by omega), z 0 t (by omega), z 1 t (by omega)]
    have := e3 t ht
    refine ⟨this.1, this.2.1, this.2.2.1, ?_⟩
    rw [y]
    have pa : 2 ^ a < 2 ^ n := Nat.pow_lt_pow_right (by omega) ha
    have pb : 2 ^ b < 2 ^ n := Nat.pow_lt_pow_right (by omega) hb
    split
    · exact Nat.or_lt_two_pow (e3 a ha).2.2.2 pb
    · split
      · exact Nat.or_lt_two_pow (e3 b hb).2.2.2 pa
      · exact this.2.2.2
  · rw [z 3 k (by omega), z 4 k (by omega), z 5 k (by omega)]; exact e4 k hk
  · rw [bit, bit, e5 s t hs ht]
    congr 1
    rw [Bool.or_comm]
    congr 1
    · exact decide_eq_decide.mpr ⟨fun x => ⟨x.2, x.1⟩, fun x => ⟨x.2, x.1⟩⟩
    · exact decide_eq_decide.mpr ⟨fun x => ⟨x.2, x.1⟩, fun x => ⟨x.2, x.1⟩⟩
  · rw [bit, e6 t ht]
    simp only [Bool.false_or, Bool.or_eq_false_iff, decide_eq_false_iff_not]
    omega
theorem E64 {n m : Nat} {E : Nat → Nat → Nat} (e : Ed n m E) {t : Nat} (ht : t < n) : E 2 t < 64 := Nat.lt_of_lt_of_le (e.2.2.1 t ht).2.2.2 (pw6 e.1)
theorem c_sem {h0 h : jv_H} {p0 p n m c so i f a n' m' : Nat} {E E' : Nat → Nat → Nat} {x : Nat → Nat} (sm : Sm h0 h) (s : St T L h p n m E c so x) (hc : c = 116 ∨ c = 110 ∨ c = 120) (hso : so = if c = 120 then 2 else 3) (hp0 : p0 ≤ p) (hp : p ≤ L) (hi : i ≤ p) (hf : L < f + 1 + p) (hE : Ed n' m' E') (hti : ∀ h1 : jv_H, Dc h1 n m E → h1.1 9 7 = nI c → (∀ j, j < so → h1.1 19 j = nI (x j)) → ∃ h2, f7_takeItem_9 h1 = some ((), h2) ∧ (∀ k, k < 10 ∨ 17 < k → h2.1 k = h1.1 k) ∧ h2.2 = h1.2 ∧ Dc h2 n' m' E') : Qc T L p0 h0 a (sem T L p (n', m', E')) (f7_readAll_9_l21 (f + 1) (nI a) (nI i) h) := by
  have hL := s.1.1
  obtain ⟨h1, r1, e1⟩ := c_step (i := i) (f := f) (a := nI a) s hp hi
  have hq := tq_in (T := T) hp
  have hk4 := tk_lt (T := T) (L := L) (tq T L p)
  rw [e1]
  unfold sem
  generalize tq T L p = q at *
  have c0 : ¬ c = 0 := by omega
  have s1 := s.r r1
  rw [if_neg (show ¬ nI c = 0 by rw [q_eq0 (by omega)]; exact c0)]
  have e2 : (if nI (tk T L q) = 0 then g7_readAll_9_b47 (f7_readAll_9_l21 f) (nI a) (nI i) h1 else g7_readAll_9_b47 (f7_readAll_9_l21 f) (nI a) (nI i) h1) = g7_readAll_9_b47 (f7_readAll_9_l21 f) (nI a) (nI i) h1 := by split <;> rfl
  rw [e2]
  have so3 : so ≤ 3 := by rw [hso]; split <;> omega
  unfold g7_readAll_9_b47 f7_canStand_9 f7_numbersOfItem_9
  rw [s1.2.2.2.1, if_neg (show ¬ nI c = 0 by rw [q_eq0 (by omega)]; exact c0)]
  have e3 : (if nI c = (120 : Int32) then some ((2 : Int32), h1) else some ((3 : Int32), h1)) = some (nI so, h1) := by
    by_cases z : c = 120
    · rw [if_pos (show nI c = 120 by rw [z]; rfl), hso, if_pos z]; rfl
    · rw [if_neg (show ¬ nI c = 120 by rw [w120, nI_k (by omega) (by omega)]; exact z), hso, if_neg z]; rfl
  rw [e3, ob, s1.2.2.2.2.1 c0, if_pos (show nI so ≤ nI so by rw [q_le (by omega) (by omega)]; omega)]
  show Qc T L p0 h0 a _ (((if h1.1 9 3 = 3 then some ((1 : Int32), h1) else some ((0 : Int32), h1))).bind fun q1 => if q1.1 = 0 then some (((-10 : Int32) - (q1.2.1 9 4)), q1.2) else if (q1.2.1 9 3) = (3 : Int32) then jv_let (nI a + (1 : Int32)) fun x2 => g7_readAll_9_b73 (f7_readAll_9_l21 f) x2 (nI i) q1.2 else g7_readAll_9_b73 (f7_readAll_9_l21 f) (nI a) (nI i) q1.2)
  by_cases k3 : tk T L q = 3
  · have q3 : q ≠ L := fun z => by
      have := tk_0 (T := T).mpr z
      omega
    have hte := te_in (T := T) (show q < L by omega)
    have h3 : h1.1 9 3 = 3 := by rw [r1.2.2.2.1, k3]; rfl
    rw [if_pos h3, if_pos k3, ob, if_neg (show ¬ (1 : Int32) = 0 by decide)]
    show Qc T L p0 h0 a _ (if h1.1 9 3 = 3 then jv_let (nI a + 1) fun x2 => g7_readAll_9_b73 (f7_readAll_9_l21 f) x2 (nI i) h1 else g7_readAll_9_b73 (f7_readAll_9_l21 f) (nI a) (nI i) h1)
    rw [if_pos h3, jl]
    unfold g7_readAll_9_b73 f7_takeToken_9 g7_takeToken_9_b66
    obtain ⟨h2, t1, t2, t3, t4⟩ := hti h1 s1.2.1 s1.2.2.2.1 s1.2.2.2.2.2
    rw [h3, if_neg (by decide), if_neg (by decide), t1, ob, jl, ob, jl, show nI i + (1 : Int32) = nI (i + 1) from by rw [w1, nI_add], show nI a + (1 : Int32) = nI (a + 1) from by rw [w1, nI_add]]
    have s12 : Sm h1 h2 := ⟨fun k j z => by
      by_cases w : k < 10 ∨ 17 < k
      · rw [t2 k w]
      · exact absurd (by unfold jq_s; omega) z, t3⟩
    refine ⟨_, f, i + 1, ((sm.tr r1.sm).tr s12).p _ _ _ (by unfold jq_s; omega), rfl, ⟨⟨s1.1.1, ?_, fun j hj => ?_, s1.1.2.2.2⟩, t4.eq (fun k h1 h2 => by rw [q_p_k _ (by omega)]), ?_, q_p_same _ _ _ _, fun z => absurd rfl z, fun j hj => by omega⟩, hE, hte.2, by omega, by omega, by omega⟩
    · rw [q_p_j _ (by omega), t2 9 (by omega)]; exact s1.1.2.1
    · rw [q_p_k _ (by omega), t2 18 (by omega)]; exact s1.1.2.2.1 j hj
    · rw [q_p_j _ (by omega), t2 9 (by omega)]; exact s1.2.2.1
  · rw [r1.2.2.2.1, if_neg (show ¬ nI (tk T L q) = 3 by rw [w3, nI_k (by omega) (by omega)]; exact k3), if_neg k3, ob, if_pos rfl]
    exact ⟨h1, sm.tr r1.sm, by omega, by rw [r1.2.2.2.2.1]⟩
theorem ti_T {h1 : jv_H} {n m a b c : Nat} {E : Nat → Nat → Nat} {x : Nat → Nat} (e : Ed n m E) (hn : n < 6) (d : Dc h1 n m E) (h7 : h1.1 9 7 = nI 116) (h19 : ∀ j, j < 3 → h1.1 19 j = nI (x j)) (x0 : x 0 = a) (x1 : x 1 = b) (x2 : x 2 = c) : ∃ h2, f7_takeItem_9 h1 = some ((), h2) ∧ (∀ k, k < 10 ∨ 17 < k → h2.1 k = h1.1 k) ∧ h2.2 = h1.2 ∧ Dc h2 (n + 1) m (addT E n a b c) := by
  obtain ⟨d1, d2, d3, d4, d5⟩ := d
  have hix : jv_ix (nI n) 6 := by rw [q_ix (by omega)]; omega
  refine ⟨jv_p (jv_p (jv_p (jv_p h1 11 n (nI a)) 12 n (nI b)) 13 n (nI c)) 10 0 (nI (n + 1)), ?_, fun k hk => by rw [q_p_k _ (by omega), q_p_k _ (by omega), q_p_k _ (by omega), q_p_k _ (by omega)], rfl, q_p_same _ _ _ _, ?_, fun t ht => ?_, fun t h1' h2' => ?_, fun k hk => ?_⟩
  · unfold f7_takeItem_9 f2_addTemper_10
    rw [h7, if_neg (show ¬ nI 116 = 110 by decide), if_pos (show nI 116 = 116 by decide), if_pos (show jv_ix (0 : Int32) 3 by decide), if_pos (show jv_ix (1 : Int32) 3 by decide), if_pos (show jv_ix (2 : Int32) 3 by decide)]
    rw [show Int32.toNatClampNeg (0 : Int32) = 0 from rfl, show Int32.toNatClampNeg (1 : Int32) = 1 from rfl, show Int32.toNatClampNeg (2 : Int32) = 2 from rfl, h19 0 (by omega), h19 1 (by omega), h19 2 (by omega), x0, x1, x2]
    simp only [jl]
    rw [q_p_k (k := 11) _ (show ¬ 10 = 11 by omega), d1, if_pos (by rw [w6, q_lt (by omega) (by omega)]; exact hn)]
    simp only [if_pos hix, q_cl (show n < 2147483648 by omega)]
    simp only [q_p_k (k := 12) _ (show ¬ 10 = 12 by omega), q_p_k (k := 11) _ (show ¬ 10 = 11 by omega), q_p_k (k := 13) _ (show ¬ 10 = 13 by omega), d1, if_pos hix, q_cl (show n < 2147483648 by omega), ob]
    rw [w1, nI_add]
  · rw [q_p_j _ (by omega), q_p_k _ (by omega), q_p_k _ (by omega), q_p_k _ (by omega)]; exact d2
  · rw [q_p_k (k := 10) _ (by omega), q_p_k (k := 10) _ (by omega), q_p_k (k := 10) _ (by omega), q_p_k (k := 10) _ (by omega), q_p_k (a := 11) _ (by omega), q_p_k (a := 11) _ (by omega), q_p_k (a := 12) _ (by omega), q_p_k (a := 14) _ (by omega), q_p_k (a := 14) _ (by omega), q_p_k (a := 14) _ (by omega), q_p_if, q_p_if, q_p_if, q_p_k (a := 12) _ (by omega), q_p_k (a := 13) _ (by omega), q_p_k (a := 13) _ (by omega)]
    by_cases q : t = n
    · subst q
      have := d4 t (Nat.le_refl _) (by omega)
      simp only [addT, if_true, and_self, true_and, and_true, show ¬ (0 : Nat) = 6 by omega, show ¬ (1 : Nat) = 6 by omega, show ¬ (1 : Nat) = 0 by omega, show ¬ (2 : Nat) = 6 by omega, show ¬ (2 : Nat) = 0 by omega, show ¬ (2 : Nat) = 1 by omega, if_false]
      exact this
    · simp only [addT, q, and_false, if_false]
      exact d3 t (by omega)
  · rw [q_p_k (a := 14) _ (by omega), q_p_k (a := 14) _ (by omega), q_p_k (a := 14) _ (by omega), q_p_k (a := 14) _ (by omega)]
    exact d4 t (by omega) h2'
  · rw [q_p_k (k := 10) _ (by omega), q_p_k (k := 10) _ (by omega), q_p_k (k := 10) _ (by omega), q_p_k (k := 13) _ (by omega), q_p_k (k := 13) _ (by omega), q_p_k (k := 13) _ (by omega), q_p_k (k := 12) _ (by omega), q_p_k (k := 12) _ (by omega), q_p_k (k := 12) _ (by omega), q_p_k (k := 11) _ (by omega), q_p_k (k := 11) _ (by omega), q_p_k (k := 11) _ (by omega)]
    simp only [addT, show ¬ (3 : Nat) = 6 by omega, show ¬ (3 : Nat) = 0 by omega, show ¬ (3 : Nat) = 1 by omega, show ¬ (3 : Nat) = 2 by omega, show ¬ (4 : Nat) = 6 by omega, show ¬ (4 : Nat) = 0 by omega, show ¬ (4 : Nat) = 1 by omega, show ¬ (4 : Nat) = 2 by omega, show ¬ (5 : Nat) = 6 by omega, show ¬ (5 : Nat) = 0 by omega, show ¬ (5 : Nat) = 1 by omega, show ¬ (5 : Nat) = 2 by omega, false_and, if_false]
    exact d5 k hk
theorem ti_N {h1 : jv_H} {n m a b c : Nat} {E : Nat → Nat → Nat} {x : Nat → Nat} (e : Ed n m E) (hm : m < 4) (d : Dc h1 n m E) (h7 : h1.1 9 7 = nI 110) (h19 : ∀ j, j < 3 → h1.1 19 j = nI (x j)) (x0 : x 0 = a) (x1 : x 1 = b) (x2 : x 2 = c) : ∃ h2, f7_takeItem_9 h1 = some ((), h2) ∧ (∀ k, k < 10 ∨ 17 < k → h2.1 k = h1.1 k) ∧ h2.2 = h1.2 ∧ Dc h2 n (m + 1) (addN E m a b c) := by
  obtain ⟨d1, d2, d3, d4, d5⟩ := d
  have hix : jv_ix (nI m) 4 := by rw [q_ix (by omega)]; omega
  refine ⟨jv_p (jv_p (jv_p (jv_p h1 15 m (nI a)) 16 m (nI b)) 17 m (nI c)) 10 1 (nI (m + 1)), ?_, fun k hk => by rw [q_p_k _ (by omega), q_p_k _ (by omega), q_p_k _ (by omega), q_p_k _ (by omega)], rfl, ?_, q_p_same _ _ _ _, fun t ht => ?_, fun t h1' h2' => ?_, fun k hk => ?_⟩
  · unfold f7_takeItem_9 f2_addNurse_10
    rw [h7, if_pos (show nI 110 = 110 by decide), if_pos (show jv_ix (0 : Int32) 3 by decide), if_pos (show jv_ix (1 : Int32) 3 by decide), if_pos (show jv_ix (2 : Int32) 3 by decide)]
    rw [show Int32.toNatClampNeg (0 : Int32) = 0 from rfl, show Int32.toNatClampNeg (1 : Int32) = 1 from rfl, show Int32.toNatClampNeg (2 : Int32) = 2 from rfl, h19 0 (by omega), h19 1 (by omega), h19 2 (by omega), x0, x1, x2]
    simp only [jl]
    rw [q_p_k (k := 15) _ (show ¬ 10 = 15 by omega), d2, if_pos (by rw [w4, q_lt (by omega) (by omega)]; exact hm)]
    simp only [if_pos hix, q_cl (show m < 2147483648 by omega)]
    simp only [q_p_k (k := 16) _ (show ¬ 10 = 16 by omega), q_p_k (k := 15) _ (show ¬ 10 = 15 by omega), q_p_k (k := 17) _ (show ¬ 10 = 17 by omega), d2, if_pos hix, q_cl (show m < 2147483648 by omega), ob]
    rw [w1, nI_add]
  · rw [q_p_j _ (by omega), q_p_k _ (by omega), q_p_k _ (by omega), q_p_k _ (by omega)]; exact d1
  · have z : ∀ i t, ¬ i = 3 → ¬ i = 4 → ¬ i = 5 → addN E m a b c i t = E i t := fun i t h1 h2 h3 => by simp [addN, h1, h2, h3]
    have w : ∀ k, 11 ≤ k → k ≤ 14 → (jv_p (jv_p (jv_p (jv_p h1 15 m (nI a)) 16 m (nI b)) 17 m (nI c)) 10 1 (nI (m + 1))).1 k = h1.1 k := fun k u1 u2 => by rw [q_p_k _ (by omega), q_p_k _ (by omega), q_p_k _ (by omega), q_p_k _ (by omega)]
    rw [z 6 t (by omega) (by omega) (by omega), z 0 t (by omega) (by omega) (by omega), z 1 t (by omega) (by omega) (by omega), z 2 t (by omega) (by omega) (by omega), w 11 (by omega) (by omega), w 12 (by omega) (by omega), w 13 (by omega) (by omega), w 14 (by omega) (by omega)]
    exact d3 t ht
  · rw [q_p_k (a := 14) _ (by omega), q_p_k (a := 14) _ (by omega), q_p_k (a := 14) _ (by omega), q_p_k (a := 14) _ (by omega)]
    exact d4 t h1' h2'
  · have w1' : (jv_p (jv_p (jv_p (jv_p h1 15 m (nI a)) 16 m (nI b)) 17 m (nI c)) 10 1 (nI (m + 1))).1 15 k = if k = m then nI a else h1.1 15 k := by rw [q_p_k _ (by omega), q_p_k _ (by omega), q_p_k _ (by omega), q_p_if]
    have w2' : (jv_p (jv_p (jv_p (jv_p h1 15 m (nI a)) 16 m (nI b)) 17 m (nI c)) 10 1 (nI (m + 1))).1 16 k = if k = m then nI b else h1.1 16 k := by rw [q_p_k _ (by omega), q_p_k _ (by omega), q_p_if, q_p_k _ (by omega)]
    have w3' : (jv_p (jv_p (jv_p (jv_p h1 15 m (nI a)) 16 m (nI b)) 17 m (nI c)) 10 1 (nI (m + 1))).1 17 k = if k = m then nI c else h1.1 17 k := by rw [q_p_k _ (by omega), q_p_if, q_p_k _ (by omega), q_p_k _ (by omega)]
    rw [w1', w2', w3']
    by_cases q : k = m
    · subst q
      simp only [addN, if_true, and_self, true_and, and_true, show ¬ (4 : Nat) = 3 by omega, show ¬ (5 : Nat) = 3 by omega, show ¬ (5 : Nat) = 4 by omega, if_false]
    · simp only [addN, q, and_false, if_false]
      exact d5 k (by omega)
theorem ti_X {h1 : jv_H} {n m a b : Nat} {E : Nat → Nat → Nat} {x : Nat → Nat} (e : Ed n m E) (ha : a < n) (hb : b < n) (hab : ¬ b = a) (d : Dc h1 n m E) (h7 : h1.1 9 7 = nI 120) (h19 : ∀ j, j < 2 → h1.1 19 j = nI (x j)) (x0 : x 0 = a) (x1 : x 1 = b) : ∃ h2, f7_takeItem_9 h1 = some ((), h2) ∧ (∀ k, k < 10 ∨ 17 < k → h2.1 k = h1.1 k) ∧ h2.2 = h1.2 ∧ Dc h2 n m (addX E a b) := by
  obtain ⟨d1, d2, d3, d4, d5⟩ := d
  have n6 := e.1
  have hia : jv_ix (nI a) 6 := by rw [q_ix (by omega)]; omega
  have hib : jv_ix (nI b) 6 := by rw [q_ix (by omega)]; omega
  have ht : ∀ (h : jv_H) t, h.1 10 0 = nI n → t < n → f2_hasTemper_10 (nI t) h = some (1, h) := fun h t h0 htn => by
    unfold f2_hasTemper_10
    rw [h0, if_neg (show ¬ nI t < 0 by rw [q_lt0 (by omega)]; exact fun h => h), if_neg (show ¬ nI n ≤ nI t by rw [q_le (by omega) (by omega)]; omega)]
  have h10 : ¬ (1 : Int32) = 0 := by decide
  have y : ∀ t, addX E a b 2 t = if t = a then E 2 a ||| 2 ^ b else if t = b then E 2 b ||| 2 ^ a else E 2 t := fun t => by simp [addX]
  have z : ∀ i t, ¬ i = 2 → addX E a b i t = E i t := fun i t h1 => by simp [addX, h1]
  refine ⟨jv_p (jv_p h1 14 a (nI (E 2 a ||| 2 ^ b))) 14 b (nI (E 2 b ||| 2 ^ a)), ?_, fun k hk => by rw [q_p_k _ (by omega), q_p_k _ (by omega)], rfl, ?_, ?_, fun t htn => ?_, fun t u1 u2 => ?_, fun k hk => ?_⟩
  · unfold f7_takeItem_9 f2_addClash_10
    rw [h7, if_neg (show ¬ nI 120 = 110 by decide), if_neg (show ¬ nI 120 = 116 by decide), if_pos (show jv_ix (0 : Int32) 3 by decide), if_pos (show jv_ix (1 : Int32) 3 by decide), show Int32.toNatClampNeg (0 : Int32) = 0 from rfl, show Int32.toNatClampNeg (1 : Int32) = 1 from rfl, h19 0 (by omega), h19 1 (by omega), x0, x1]
    simp only [ht h1 a d1 ha, ht h1 b d1 hb, ob, if_neg h10, if_pos hia, if_pos hib, q_bit, jl, q_cl (show a < 2147483648 by omega), q_cl (show b < 2147483648 by omega)]
    rw [(d3 a ha).2.2.2, q_or2 b (by omega) _ (E64 e ha), q_p_j _ hab, (d3 b hb).2.2.2, q_or2 a (by omega) _ (E64 e hb)]
  · rw [q_p_k _ (by omega), q_p_k _ (by omega)]; exact d1
  · rw [q_p_k _ (by omega), q_p_k _ (by omega)]; exact d2
  · have := d3 t htn
    rw [q_p_k (a := 11) _ (by omega), q_p_k (a := 11) _ (by omega), q_p_k (a := 12) _ (by omega), q_p_k (a := 12) _ (by omega), q_p_k (a := 13) _ (by omega), q_p_k (a := 13) _ (by omega), q_p_if, q_p_if, z 6 t (by omega), z 0 t (by omega), z 1 t (by omega), y]
    refine ⟨this.1, this.2.1, this.2.2.1, ?_⟩
    by_cases q1 : t = b
    · rw [if_pos q1, if_neg (by omega), if_pos q1]
    · rw [if_neg q1, if_neg q1]
      by_cases q2 : t = a
      · rw [if_pos q2, if_pos q2]
      · rw [if_neg q2, if_neg q2]; exact this.2.2.2
  · rw [q_p_j _ (by omega), q_p_j _ (by omega)]; exact d4 t u1 u2
  · rw [q_p_k (a := 15) _ (by omega), q_p_k (a := 15) _ (by omega), q_p_k (a := 16) _ (by omega), q_p_k (a := 16) _ (by omega), q_p_k (a := 17) _ (by omega), q_p_k (a := 17) _ (by omega), z 3 k (by omega), z 4 k (by omega), z 5 k (by omega)]
    exact d5 k hk
theorem c_let {h0 h : jv_H} {p n m i f a : Nat} {E : Nat → Nat → Nat} (sm : Sm h0 h) (s : St T L h p n m E 0 0 (fun _ => 0)) (e : Ed n m E) (hp : p ≤ L) (hi : i ≤ p) (hf : L < f + 1 + p) (hz : ¬ tk T L (tq T L p) = 0) : Qc T L p h0 a (itm T L p n m E) (f7_readAll_9_l21 (f + 1) (nI a) (nI i) h) := by
  have hL := s.1.1
  obtain ⟨h1, r1, e1⟩ := c_step (i := i) (f := f) (a := nI a) s hp hi
  have hq := tq_in (T := T) hp
  have hk4 := tk_lt (T := T) (L := L) (tq T L p)
  rw [e1]
  unfold itm
  generalize tq T L p = q at *
  have s1 := s.r r1
  have n6 := e.1
  have m4 := e.2.1
  have T255 := s.1.2.2.2 q
  have h10 : ¬ (1 : Int32) = 0 := by decide
  rw [if_neg (show ¬ nI (tk T L q) = 0 by rw [q_eq0 (by omega)]; exact hz)]
  unfold g7_readAll_9_b47 f7_canStand_9
  rw [s1.2.2.2.1, if_pos (show nI 0 = 0 from rfl)]
  have fault : Qc T L p h0 a (.inl q) (some ((-10 : Int32) - h1.1 9 4, h1)) := ⟨h1, sm.tr r1.sm, by omega, by rw [r1.2.2.2.2.1]⟩
  rw [r1.2.2.2.1]
  by_cases k1 : tk T L q = 1
  · obtain ⟨v1, v2⟩ := tw_l k1
    have hte := te_in (T := T) (show q < L by omega)
    rw [if_pos (show nI (tk T L q) = 1 by rw [k1]; rfl)]
    unfold f7_canBeginItem_9
    rw [r1.2.2.2.2.2.2, v1, s1.2.1.1, s1.2.1.2.1]
    by_cases k2 : te T L q - q = 1
    · rw [if_pos k2, if_pos ⟨k1, k2⟩]
      -- the letter stands
      have go : ∀ (r : Nat ⊕ (Nat × Nat × Nat × (Nat → Nat → Nat))), (∀ h2, Sm h0 h2 → St T L h2 (te T L q) n m E (T q) 0 (fun _ => 0) → Qc T L p h0 a r (f7_readAll_9_l21 f (nI a) (nI (i + 1)) h2)) → Qc T L p h0 a r (if h1.1 9 3 = 3 then jv_let (nI a + 1) fun x2 => g7_readAll_9_b73 (f7_readAll_9_l21 f) x2 (nI i) h1 else g7_readAll_9_b73 (f7_readAll_9_l21 f) (nI a) (nI i) h1) := by
        intro r hr
        have h3 : h1.1 9 3 = 1 := by rw [r1.2.2.2.1, k1]; rfl
        unfold g7_readAll_9_b73 f7_takeToken_9
        rw [h3, if_neg (by decide), if_pos rfl, jl, jl, ob, jl, r1.2.2.2.2.2.2, v1, if_pos k2, show nI i + (1 : Int32) = nI (i + 1) from by rw [w1, nI_add]]
        obtain ⟨s11, s12, s13, s14, s15, s16⟩ := s1
        refine hr _ (((sm.tr r1.sm).p _ _ _ (by unfold jq_s; omega)).p _ _ _ (by unfold jq_s; omega)) ⟨⟨s11.1, by rw [q_p_j _ (by omega), q_p_j _ (by omega)]; exact s11.2.1, fun j hj => by rw [q_p_k _ (by omega), q_p_k _ (by omega)]; exact s11.2.2.1 j hj, s11.2.2.2⟩, s12.eq (fun k h1 h2 => by rw [q_p_k _ (by omega), q_p_k _ (by omega)]), by rw [q_p_j _ (by omega), q_p_j _ (by omega)]; exact s13, by rw [q_p_j _ (by omega), q_p_same], fun _ => q_p_same _ _ _ _, fun j hj => by omega⟩
      by_cases cT : T q = 116
      · rw [if_neg (show ¬ nI (T q) = 110 by rw [cT]; decide), if_pos (show nI (T q) = 116 by rw [cT]; rfl), if_pos cT]
        by_cases hn : n < 6
        · rw [if_neg (show ¬ (6 : Int32) ≤ nI n by rw [w6, q_le (by omega) (by omega)]; omega), if_pos hn]
          simp only [ob, if_neg h10]
          refine go _ (fun h2 sm2 s2 => ?_)
          rw [cT] at s2
          obtain ⟨f1, rfl⟩ : ∃ k, f = k + 1 := ⟨f - 1, by omega⟩
          refine c_num _ sm2 s2 n6 (Or.inl rfl) (by decide) (fun j hj => by omega) hte.2 (by omega) (fun h3 va p1 q1 q2 q3 q4 s3 sm3 => ?_)
          obtain ⟨f2, rfl⟩ : ∃ k, f1 = k + 1 := ⟨f1 - 1, by omega⟩
          refine c_num _ sm3 s3 n6 (Or.inl rfl) (by decide) (fun j hj => by have : j = 0 := by omega
                                                                            rw [this, ext_t]; exact q3) q2 (by omega) (fun h4 vb p2 q5 q6 q7 q8 s4 sm4 => ?_)
          obtain ⟨f3, rfl⟩ : ∃ k, f2 = k + 1 := ⟨f2 - 1, by omega⟩
          refine c_num _ sm4 s4 n6 (Or.inl rfl) (by decide) (fun j hj => by
            rcases (show j = 0 ∨ j = 1 by omega) with rfl | rfl
            · rw [ext_e _ (by omega), ext_t]; exact q3
            · rw [ext_t]; exact q7) q6 (by omega) (fun h5 vc p3 q9 q10 q11 q12 s5 sm5 => ?_)
          obtain ⟨f4, rfl⟩ : ∃ k, f3 = k + 1 := ⟨f3 - 1, by omega⟩
          have b1 : va ≤ 60 := by simp [okn] at q4; omega
          have b2 : vb ≤ 5 := by simp [okn] at q8; omega
          have b3 : vc ≤ 40 := by simp [okn] at q12; omega
          exact c_sem sm5 s5 (Or.inl rfl) (by decide) (by omega) q10 (by omega) (by omega) (e.tT hn b1 b2 b3) (fun h6 d6 d7 d8 => ti_T e hn d6 d7 d8 (by rw [ext_e _ (by omega), ext_e _ (by omega), ext_t]) (by rw [ext_e _ (by omega), ext_t]) (ext_t _ _ _))
        · rw [if_pos (show (6 : Int32) ≤ nI n by rw [w6, q_le (by omega) (by omega)]; omega), if_neg hn]
          simp only [ob, if_true]
          exact fault
      · by_cases cN : T q = 110
        · rw [if_pos (show nI (T q) = 110 by rw [cN]; rfl), if_neg cT, if_pos cN]
          by_cases hn : m < 4
          · rw [if_neg (show ¬ (4 : Int32) ≤ nI m by rw [w4, q_le (by omega) (by omega)]; omega), if_pos hn]
            simp only [ob, if_neg h10]
            refine go _ (fun h2 sm2 s2 => ?_)
            rw [cN] at s2
            obtain ⟨f1, rfl⟩ : ∃ k, f = k + 1 := ⟨f - 1, by omega⟩
            refine c_num _ sm2 s2 n6 (Or.inr (Or.inl rfl)) (by decide) (fun j hj => by omega) hte.2 (by omega) (fun h3 va p1 q1 q2 q3 q4 s3 sm3 => ?_)
            obtain ⟨f2, rfl⟩ : ∃ k, f1 = k + 1 := ⟨f1 - 1, by omega⟩
            refine c_num _ sm3 s3 n6 (Or.inr (Or.inl rfl)) (by decide) (fun j hj => by have : j = 0 := by omega
                                                                                       rw [this, ext_t]; exact q3) q2 (by omega) (fun h4 vb p2 q5 q6 q7 q8 s4 sm4 => ?_)
            obtain ⟨f3, rfl⟩ : ∃ k, f2 = k + 1 := ⟨f2 - 1, by omega⟩
            refine c_num _ sm4 s4 n6 (Or.inr (Or.inl rfl)) (by decide) (fun j hj => by
              rcases (show j = 0 ∨ j = 1 by omega) with rfl | rfl
              · rw [ext_e _ (by omega), ext_t]; exact q3
              · rw [ext_t]; exact q7) q6 (by omega) (fun h5 vc p3 q9 q10 q11 q12 s5 sm5 => ?_)
            obtain ⟨f4, rfl⟩ : ∃ k, f3 = k + 1 := ⟨f3 - 1, by omega⟩
            have b1 : 1 ≤ va ∧ va ≤ 9 := by simp [okn] at q4; omega
            have b2 : 1 ≤ vb ∧ vb ≤ 3 := by simp [okn] at q8; omega
            have b3 : 1 ≤ vc ∧ vc ≤ 99 := by simp [okn] at q12; omega
            exact c_sem sm5 s5 (Or.inr (Or.inl rfl)) (by decide) (by omega) q10 (by omega) (by omega) (e.tN hn b1 b2 b3) (fun h6 d6 d7 d8 => ti_N e hn d6 d7 d8 (by rw [ext_e _ (by omega), ext_e _ (by omega), ext_t]) (by rw [ext_e _ (by omega), ext_t]) (ext_t _ _ _))
          · rw [if_pos (show (4 : Int32) ≤ nI m by rw [w4, q_le (by omega) (by omega)]; omega), if_neg hn]
            simp only [ob, if_true]
            exact fault
        · rw [if_neg (show ¬ nI (T q) = 110 by rw [show (110 : Int32) = nI 110 from rfl, nI_k (by omega) (by omega)]; exact cN), if_neg (show ¬ nI (T q) = 116 by rw [show (116 : Int32) = nI 116 from rfl, nI_k (by omega) (by omega)]; exact cT), if_neg cT, if_neg cN]
          by_cases cX : T q = 120
          · rw [if_pos (show nI (T q) = 120 by rw [cX]; rfl), if_pos cX]
            simp only [ob, if_neg h10]
            refine go _ (fun h2 sm2 s2 => ?_)
            rw [cX] at s2
            obtain ⟨f1, rfl⟩ : ∃ k, f = k + 1 := ⟨f - 1, by omega⟩
            refine c_num _ sm2 s2 n6 (Or.inr (Or.inr rfl)) (by decide) (fun j hj => by omega) hte.2 (by omega) (fun h3 va p1 q1 q2 q3 q4 s3 sm3 => ?_)
            obtain ⟨f2, rfl⟩ : ∃ k, f1 = k + 1 := ⟨f1 - 1, by omega⟩
            refine c_num _ sm3 s3 n6 (Or.inr (Or.inr rfl)) (by decide) (fun j hj => by have : j = 0 := by omega
                                                                                       rw [this, ext_t]; exact q3) q2 (by omega) (fun h4 vb p2 q5 q6 q7 q8 s4 sm4 => ?_)
            obtain ⟨f3, rfl⟩ : ∃ k, f2 = k + 1 := ⟨f2 - 1, by omega⟩
            have b1 : va < n := by simpa [okn] using q4
            have b2 : vb < n ∧ ¬ vb = va := by simpa [okn, ext_t] using q8
            exact c_sem sm4 s4 (Or.inr (Or.inr rfl)) (by decide) (by omega) q6 (by omega) (by omega) (e.tX b1 b2.1 b2.2) (fun h6 d6 d7 d8 => ti_X e b1 b2.1 b2.2 d6 d7 d8 (by rw [ext_e _ (by omega), ext_t]) (ext_t _ _ _))
          · rw [if_neg (show ¬ nI (T q) = 120 by rw [w120, nI_k (by omega) (by omega)]; exact cX), if_neg cX]
            simp only [ob, if_true]
            exact fault
    · rw [if_neg k2, if_neg (fun z => k2 z.2), if_neg (show ¬ nI 0 = 110 by decide), if_neg (show ¬ nI 0 = 116 by decide), if_neg (show ¬ nI 0 = 120 by decide)]
      simp only [ob, if_true]
      exact fault
  · rw [if_neg (show ¬ nI (tk T L q) = 1 by rw [w1, nI_k (by omega) (by omega)]; exact k1), if_neg (fun z => k1 z.1)]
    simp only [ob, if_true]
    exact fault
def hpz (T : Nat → Nat) (L : Nat) : Nat → Nat → Nat → Nat → (Nat → Nat → Nat) → Nat → Nat ⊕ (Nat × Nat × Nat × (Nat → Nat → Nat))
  | 0, _, _, _, _, _ => .inl 0
  | g + 1, p, n, m, E, a => if tk T L (tq T L p) = 0 then .inr (a, n, m, E) else match itm T L p n m E with
    | .inl f => .inl f
    | .inr (p', n', m', E') => hpz T L g p' n' m' E' (a + 1)
def Qh (h0 : jv_H) (r : Nat ⊕ (Nat × Nat × Nat × (Nat → Nat → Nat))) (run : Option (Int32 × jv_H)) : Prop :=
  match r with
  | .inl f => ∃ h', Sm h0 h' ∧ f ≤ 120 ∧ run = some ((-10 : Int32) - nI f, h')
  | .inr (a, n, m, E) => ∃ h', Sm h0 h' ∧ a ≤ 120 ∧ run = some (nI a, h') ∧ Dc h' n m E ∧ Ed n m E
theorem c_all {h0 : jv_H} : ∀ (g p n m i fuel a : Nat) (E : Nat → Nat → Nat) (h : jv_H), Sm h0 h → St T L h p n m E 0 0 (fun _ => 0) → Ed n m E → p ≤ L → i ≤ p → a ≤ p → L < fuel + p → L < g + p → Qh h0 (hpz T L g p n m E a) (f7_readAll_9_l21 fuel (nI a) (nI i) h) := by
  intro g
  induction g with
  | zero => intro p n m i fuel a E h sm s e hp hi ha hf hg; omega
  | succ g ih =>
    intro p n m i fuel a E h sm s e hp hi ha hf hg
    obtain ⟨f, rfl⟩ : ∃ k, fuel = k + 1 := ⟨fuel - 1, by omega⟩
    have hL := s.1.1
    by_cases hz : tk T L (tq T L p) = 0
    · obtain ⟨h1, r1, e1⟩ := c_step (i := i) (f := f) (a := nI a) s hp hi
      rw [e1, if_pos (show nI (tk T L (tq T L p)) = 0 by rw [hz]; rfl), if_pos (show nI 0 = 0 from rfl)]
      unfold hpz
      rw [if_pos hz]
      exact ⟨h1, sm.tr r1.sm, by omega, rfl, (s.r r1).2.1, e⟩
    · have := c_let (f := f) (a := a) (i := i) sm s e hp hi hf hz
      unfold hpz
      rw [if_neg hz]
      cases hit : itm T L p n m E with
      | inl f' =>
        rw [hit] at this
        exact this
      | inr r =>
        obtain ⟨p', n', m', E'⟩ := r
        rw [hit] at this
        obtain ⟨h', fuel', i', t1, t2, t3, t4, t5, t6, t7, t8⟩ := this
        rw [t2]
        exact ih p' n' m' i' fuel' (a + 1) E' h' t1 t3 t4 t5 t6 (by omega) t7 (by omega)
theorem q_fill14 (h : jv_H) : fj7_fill_53178_14 0 h = some ((), jv_s h 14 (fun i => if 0 ≤ i ∧ i < 6 then 0 else h.1 14 i)) := by
  unfold fj7_fill_53178_14
  simp only [jl]
  exact fill_gen fj7_fill_53178_14_l5 14 6 (by omega) 0 (fun f a2 a3 h => by show gj7_fill_53178_14_b5 (fj7_fill_53178_14_l5 f) _ _ _ h = _; unfold gj7_fill_53178_14_b5; simp only [jl]) 6 0 jv_fuel h (by omega) (by unfold jv_fuel; omega)
theorem b_readAll {h : jv_H} (t : Tc h T L) : Qh h (hpz T L 121 0 0 0 (fun _ _ => 0) 0) (f7_readAll_9 h) := by
  have hL := t.1
  unfold f7_readAll_9 f2_wipe_10
  rw [jl, jl, q_fill14, ob, ob, jl, jl, jl, jl]
  have sm : Sm h (jv_p (jv_p (jv_s (jv_p (jv_p h 10 0 0) 10 1 0) 14 (fun i => if 0 ≤ i ∧ i < 6 then 0 else (jv_p (jv_p h 10 0 0) 10 1 0).1 14 i)) 9 5 0) 9 7 0) := (((((Sm.rf h).p _ _ _ (by unfold jq_s; omega)).p _ _ _ (by unfold jq_s; omega)).s 14 _ (fun j => by unfold jq_s; omega)).p _ _ _ (by unfold jq_s; omega)).p _ _ _ (by unfold jq_s; omega)
  refine c_all 121 0 0 0 0 jv_fuel 0 (fun _ _ => 0) _ sm ⟨⟨hL, ?_, fun j hj => ?_, t.2.2.2⟩, ⟨?_, ?_, fun t ht => by omega, fun t _ ht => ?_, fun k hk => by omega⟩, ?_, q_p_same _ _ _ _, fun z => absurd rfl z, fun j hj => by omega⟩ ⟨by omega, by omega, fun t ht => by omega, fun k hk => by omega, fun s t hs => by omega, fun t ht => by omega⟩ (by omega) (by omega) (by omega) (by unfold jv_fuel; omega) (by omega)
  · rw [q_p_j _ (by omega), q_p_j _ (by omega), s_ne _ _ (by omega), q_p_k _ (by omega), q_p_k _ (by omega)]; exact t.2.1
  · rw [q_p_k _ (by omega), q_p_k _ (by omega), s_ne _ _ (by omega), q_p_k _ (by omega), q_p_k _ (by omega)]; exact t.2.2.1 j hj
  · rw [q_p_k _ (by omega), q_p_k _ (by omega), s_ne _ _ (by omega), q_p_j _ (by omega), q_p_same]; rfl
  · rw [q_p_k _ (by omega), q_p_k _ (by omega), s_ne _ _ (by omega), q_p_same]; rfl
  · rw [q_p_k _ (by omega), q_p_k _ (by omega), s_at, if_pos (by omega)]
  · rw [q_p_j _ (by omega), q_p_same]; rfl
end CR
