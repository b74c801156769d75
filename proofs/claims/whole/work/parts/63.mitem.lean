/-! hill: the reference's items -/
section MI
variable {T : Nat → Nat} {L : Nat}
theorem num_cong {p : Nat} {okA okB : Nat → Bool} {k : Nat → Nat → Nat ⊕ (Nat × Nat × Nat × (Nat → Nat → Nat))} (h : okA (tv T L (tq T L p)) = okB (tv T L (tq T L p))) : num T L p okA k = num T L p okB k := by
  unfold num
  rw [h]
theorem enc_toInt {n : Nat} (hn : n ≤ 6) : (nI n - (1 : Int32)).toInt = (n : Int) - 1 := by rw [nI_s1, enc_ti (by omega)]
theorem m_X {h0 h : jv_H} {p0 p n m a b : Nat} {E : Nat → Nat → Nat} {x : Nat → Nat} (sm : Sm h0 h) (s : Ms T L h p n m E 2 x) (e : Ed n m E) (x0 : x 0 = a) (x1 : x 1 = b) (ha : a < n) (hb : b < n) (hab : ¬ b = a) (hp0 : p0 ≤ p) (hp : p ≤ L) : Qm T L p0 h0 (sem T L p (n, m, addX E a b)) (some (1, jv_p (jv_p h 53 (4 * a + 3) (nI (E 2 a ||| 2 ^ b))) 53 (4 * b + 3) (nI (E 2 b ||| 2 ^ a)))) := by
  obtain ⟨s1, ⟨d1, d2, d3, d4⟩, s3, s4⟩ := s
  have n6 := e.1
  have smh : Sm h (jv_p (jv_p h 53 (4 * a + 3) (nI (E 2 a ||| 2 ^ b))) 53 (4 * b + 3) (nI (E 2 b ||| 2 ^ a))) := ((Sm.rf h).p _ _ _ (by unfold jq_s; omega)).p _ _ _ (by unfold jq_s; omega)
  have u : ∀ j, (jv_p (jv_p h 53 (4 * a + 3) (nI (E 2 a ||| 2 ^ b))) 53 (4 * b + 3) (nI (E 2 b ||| 2 ^ a))).1 53 j = if j = 4 * b + 3 then nI (E 2 b ||| 2 ^ a) else if j = 4 * a + 3 then nI (E 2 a ||| 2 ^ b) else h.1 53 j := fun j => by rw [q_p_if, q_p_if]
  have y : ∀ t, addX E a b 2 t = if t = a then E 2 a ||| 2 ^ b else if t = b then E 2 b ||| 2 ^ a else E 2 t := fun t => by simp [addX]
  have z : ∀ i t, ¬ i = 2 → addX E a b i t = E i t := fun i t h1 => by simp [addX, h1]
  refine m_sem (so := 0) (x := x) (sm.tr smh) ⟨s1.sm smh, ⟨?_, ?_, fun t ht => ?_, fun k hk => ?_⟩, s3.eq (fun j h1 h2 => by rw [q_p_k _ (by omega), q_p_k _ (by omega)]), fun j hj => by omega⟩ hp0 hp
  · rw [q_p_k _ (by omega), q_p_k _ (by omega)]; exact d1
  · rw [q_p_k _ (by omega), q_p_k _ (by omega)]; exact d2
  · have d := d3 t ht
    rw [u, u, u, u, z 6 t (by omega), z 0 t (by omega), z 1 t (by omega), y]
    refine ⟨?_, ?_, ?_, ?_⟩
    · rw [if_neg (by omega), if_neg (by omega)]; exact d.1
    · rw [if_neg (by omega), if_neg (by omega)]; exact d.2.1
    · rw [if_neg (by omega), if_neg (by omega)]; exact d.2.2.1
    · by_cases q1 : t = b
      · rw [if_pos (show 4 * t + 3 = 4 * b + 3 by omega), if_neg (show ¬ t = a by omega), if_pos q1]
      · rw [if_neg (show ¬ 4 * t + 3 = 4 * b + 3 by omega)]
        by_cases q2 : t = a
        · rw [if_pos (show 4 * t + 3 = 4 * a + 3 by omega), if_pos q2]
        · rw [if_neg (show ¬ 4 * t + 3 = 4 * a + 3 by omega), if_neg q2, if_neg q1]; exact d.2.2.2
  · have d := d4 k hk
    rw [u, u, u, z 3 k (by omega), z 4 k (by omega), z 5 k (by omega)]
    refine ⟨?_, ?_, ?_⟩
    · rw [if_neg (by omega), if_neg (by omega)]; exact d.1
    · rw [if_neg (by omega), if_neg (by omega)]; exact d.2.1
    · rw [if_neg (by omega), if_neg (by omega)]; exact d.2.2
theorem Qm.wrap {h0 : jv_H} {p0 : Nat} {r : Nat ⊕ (Nat × Nat × Nat × (Nat → Nat → Nat))} {run : Option (Int32 × jv_H)} (q : Qm T L p0 h0 r run) : Qm T L p0 h0 r (run.bind fun q6 => if q6.1 = 0 ∨ q6.1 = 1 then some (q6.1, q6.2) else none) := by
  unfold Qm at q ⊢
  split at q
  · obtain ⟨h', b, e, q1, q2, q3⟩ := q
    refine ⟨h', b, ?_, q1, q2, q3⟩
    rw [e, ob, if_pos (show b = 0 ∨ b = 1 by rcases q3 with z | z; exact Or.inl z; exact Or.inr z.1)]
  · obtain ⟨h', e, q1⟩ := q
    refine ⟨h', ?_, q1⟩
    rw [e, ob, if_pos (Or.inr rfl)]
theorem Qm.wrap2 {h0 : jv_H} {p0 : Nat} {r : Nat ⊕ (Nat × Nat × Nat × (Nat → Nat → Nat))} {run : Option (Int32 × jv_H)} (q : Qm T L p0 h0 r run) : Qm T L p0 h0 r (run.bind fun q4 => if q4.1 = 0 then some ((0 : Int32), q4.2) else some ((1 : Int32), q4.2)) := by
  have h10 : ¬ (1 : Int32) = 0 := by decide
  unfold Qm at q ⊢
  split at q
  · obtain ⟨h', b, e, q1, q2, q3⟩ := q
    refine ⟨h', b, ?_, q1, q2, q3⟩
    rcases q3 with z | z
    · rw [e, ob, if_pos z, z]
    · rw [e, ob, z.1, if_neg h10]
  · obtain ⟨h', e, q1⟩ := q
    refine ⟨h', ?_, q1⟩
    rw [e, ob, if_neg h10]
theorem m_isL {h : jv_H} {q c : Nat} (t : Tm h T L) (l : Lk T L h q) (hq : q ≤ L) (hc : c ≤ 255) : f9_isLetter_40 (nI c) h = some (if (tk T L q = 1 ∧ te T L q - q = 1) ∧ T q = c then 1 else 0, h) := by
  obtain ⟨l1, l2, l3, l4⟩ := l
  have hL := t.1
  have hk4 := tk_lt (T := T) (L := L) q
  have T255 := t.2.2.2 q
  unfold f9_isLetter_40
  rw [l1]
  by_cases k1 : tk T L q = 1
  · have v2 := (tw_l k1).2
    have hte := te_in (T := T) (show q < L by omega)
    rw [if_pos (show nI (tk T L q) = 1 by rw [k1]; rfl), l2, l3, if_neg v2, pk_sub (by omega)]
    by_cases k2 : te T L q - q = 1
    · rw [if_pos (show nI (te T L q - q) = 1 by rw [k2]; rfl), if_pos (show jv_ix (nI q) 120 by rw [q_ix (by omega)]; omega), q_cl (by omega), t.2.2.1 q (by omega)]
      by_cases k3 : T q = c
      · rw [if_pos (show nI (T q) = nI c by rw [k3]), if_pos ⟨⟨k1, k2⟩, k3⟩]
      · rw [if_neg (show ¬ nI (T q) = nI c by rw [nI_k (by omega) (by omega)]; exact k3), if_neg (fun z => k3 z.2)]
    · rw [if_neg (show ¬ nI (te T L q - q) = 1 by rw [w1, nI_k (by omega) (by omega)]; exact k2), if_neg (fun z => k2 z.1.2)]
  · rw [if_neg (show ¬ nI (tk T L q) = 1 by rw [w1, nI_k (by omega) (by omega)]; exact k1), if_neg (fun z => k1 z.1.1)]
theorem m_clash {h0 h : jv_H} {p n m : Nat} {E : Nat → Nat → Nat} (sm : Sm h0 h) (s : Ms T L h p n m E 0 (fun _ => 0)) (e : Ed n m E) (hp : p ≤ L) (k1 : tk T L (tq T L p) = 1) : Qm T L p h0 (num T L (te T L (tq T L p)) (okn 120 n 0 (fun _ => 0)) fun a p1 => num T L p1 (okn 120 n 1 (ext (fun _ => 0) 0 a)) fun b p2 => sem T L p2 (n, m, addX E a b)) (f9_takesClash_40 h) := by
  have hL := s.1.1
  have n6 := e.1
  have hq := tq_in (T := T) hp
  have v2 := (tw_l k1).2
  have hte := te_in (T := T) (show tq T L p < L by omega)
  obtain ⟨h1, e1, sm1, s1⟩ := m_look (so := 0) (x := fun _ => 0) s.1 s.2.1 (fun j hj => by omega) hte.2
  unfold f9_takesClash_40
  rw [s.2.2.1.2.2.1, if_neg v2, e1, ob]
  rw [show (((), h1) : Unit × jv_H).2 = h1 from rfl, s1.2.1.1]
  have nmt := enc_toInt n6
  refine m_num (so := 0) (lo := 0) (hi := nI n - 1) _ (fun hh => if (hh.1 40 17) = (2 : Int32) then if jv_ix (0 : Int32) 3 then if (hh.1 40 20) = (hh.1 54 (Int32.toNatClampNeg (0 : Int32))) then some ((0 : Int32), hh) else (f9_takes_40 (1 : Int32) (0 : Int32) ((hh.1 40 21) - (1 : Int32)) hh).bind fun q3 => if q3.1 = 0 then some ((0 : Int32), q3.2) else if jv_ix (0 : Int32) 3 then if jv_ix (((4 : Int32) * (q3.2.1 54 (Int32.toNatClampNeg (0 : Int32)))) + (3 : Int32)) 42 then if jv_ix (1 : Int32) 3 then if jv_ix (((4 : Int32) * (q3.2.1 54 (Int32.toNatClampNeg (0 : Int32)))) + (3 : Int32)) 42 then jv_let (jv_p q3.2 53 (Int32.toNatClampNeg (((4 : Int32) * (q3.2.1 54 (Int32.toNatClampNeg (0 : Int32)))) + (3 : Int32))) ((q3.2.1 53 (Int32.toNatClampNeg (((4 : Int32) * (q3.2.1 54 (Int32.toNatClampNeg (0 : Int32)))) + (3 : Int32)))) ||| ((1 : Int32) <<< ((q3.2.1 54 (Int32.toNatClampNeg (1 : Int32))) &&& 31)))) fun h4 => if jv_ix (1 : Int32) 3 then if jv_ix (((4 : Int32) * (h4.1 54 (Int32.toNatClampNeg (1 : Int32)))) + (3 : Int32)) 42 then if jv_ix (0 : Int32) 3 then if jv_ix (((4 : Int32) * (h4.1 54 (Int32.toNatClampNeg (1 : Int32)))) + (3 : Int32)) 42 then jv_let (jv_p h4 53 (Int32.toNatClampNeg (((4 : Int32) * (h4.1 54 (Int32.toNatClampNeg (1 : Int32)))) + (3 : Int32))) ((h4.1 53 (Int32.toNatClampNeg (((4 : Int32) * (h4.1 54 (Int32.toNatClampNeg (1 : Int32)))) + (3 : Int32)))) ||| ((1 : Int32) <<< ((h4.1 54 (Int32.toNatClampNeg (0 : Int32))) &&& 31)))) fun h5 => some ((1 : Int32), h5) else none else none else none else none else none else none else none else none else none else some ((0 : Int32), hh)) (sm.tr sm1) s1 hte.2 (by omega) (fun v hv => ?_) (fun h2 va p1 q1 q2 q3 q4 s2 sm2 => ?_)
  · rw [nmt, show (0 : Int32).toInt = 0 from rfl]
    simp [okn]
    omega
  · have va' : va < n := by simpa [okn] using q4
    have hq1 := tq_in (T := T) q2
    have hk4 := tk_lt (T := T) (L := L) (tq T L p1)
    obtain ⟨l1, l2, l3, l4⟩ := s2.2.2.1
    have e55 : h2.1 54 0 = nI va := by rw [s2.2.2.2 0 (by omega), ext_t]
    show Qm T L p h0 _ (if (h2.1 40 17) = (2 : Int32) then _ else _)
    rw [l1]
    by_cases k2 : tk T L (tq T L p1) = 2
    · obtain ⟨u1, u2, u3⟩ := tw_n k2
      rw [if_pos (show nI (tk T L (tq T L p1)) = 2 by rw [k2]; rfl), if_pos (show jv_ix (0 : Int32) 3 by decide), show Int32.toNatClampNeg (0 : Int32) = 0 from rfl, l4, tu_n k2, e55]
      by_cases k3 : tv T L (tq T L p1) = va
      · rw [if_pos (show nI (tv T L (tq T L p1)) = nI va by rw [k3])]
        unfold num
        rw [if_neg (show ¬ (tk T L (tq T L p1) = 2 ∧ okn 120 n 1 (ext (fun _ => 0) 0 va) (tv T L (tq T L p1)) = true) from fun z => by
          have := z.2
          rw [k3] at this
          simp [okn, ext_t] at this)]
        exact ⟨h2, 0, rfl, sm2, l2, Or.inl rfl⟩
      · rw [if_neg (show ¬ nI (tv T L (tq T L p1)) = nI va by rw [nI_k (by omega) (by omega)]; exact k3), s2.2.1.1]
        rw [num_cong (okB := fun v => decide (v < n)) (by simp [okn, ext_t, k3])]
        unfold num
        have mt : f9_takes_40 1 0 (nI n - 1) h2 = _ := m_takes (so := 1) (lo := 0) (hi := nI n - 1) s2 q2 (by omega)
        simp only [nmt, show (0 : Int32).toInt = 0 from rfl] at mt
        rw [mt]
        have hte1 := te_in (T := T) (show tq T L p1 < L by omega)
        by_cases k4 : tv T L (tq T L p1) < n
        · have s55 : Sm h2 (jv_p h2 54 1 (nI (tv T L (tq T L p1)))) := (Sm.rf h2).p _ _ _ (by unfold jq_s; omega)
          obtain ⟨h3, e3, sm3, s3⟩ := m_look (p := te T L (tq T L p1)) (n := n) (m := m) (E := E) (so := 2) (x := ext (ext (fun _ => 0) 0 va) 1 (tv T L (tq T L p1))) (s2.1.sm s55) (s2.2.1.eq (by rw [q_p_k _ (by omega)]) (by rw [q_p_k _ (by omega)]) (by rw [q_p_k _ (by omega)])) (fun j hj => by
            rw [q_p_if]
            by_cases z : j = 1
            · rw [if_pos z, z, ext_t]
            · rw [if_neg z, ext_e _ z]; exact s2.2.2.2 j (by omega)) hte1.2
          rw [if_pos (show tk T L (tq T L p1) = 2 ∧ ((0 : Int) ≤ (tv T L (tq T L p1) : Int) ∧ (tv T L (tq T L p1) : Int) ≤ (n : Int) - 1) by omega), if_pos (show tk T L (tq T L p1) = 2 ∧ decide (tv T L (tq T L p1) < n) = true from ⟨k2, by simpa using k4⟩), e3, ob, ob, if_neg (show ¬ (1 : Int32) = 0 by decide)]
          generalize tv T L (tq T L p1) = vb at *
          have f0 : h3.1 54 0 = nI va := by rw [s3.2.2.2 0 (by omega), ext_e _ (by omega), ext_t]
          have f1 : h3.1 54 1 = nI vb := by rw [s3.2.2.2 1 (by omega), ext_t]
          have ca := (s3.2.1.2.2.1 va va').2.2.2
          have cb := (s3.2.1.2.2.1 vb k4).2.2.2
          have ia : jv_ix (nI (4 * va + 3)) 42 := by rw [q_ix (by omega)]; omega
          have ib : jv_ix (nI (4 * vb + 3)) 42 := by rw [q_ix (by omega)]; omega
          have fa : (4 : Int32) * nI va + 3 = nI (4 * va + 3) := by rw [w4, w3, pk_mul, nI_add]
          have fb : (4 : Int32) * nI vb + 3 = nI (4 * vb + 3) := by rw [w4, w3, pk_mul, nI_add]
          show Qm T L p h0 _ (if jv_ix (0 : Int32) 3 then if jv_ix (((4 : Int32) * (h3.1 54 0)) + (3 : Int32)) 42 then if jv_ix (1 : Int32) 3 then if jv_ix (((4 : Int32) * (h3.1 54 0)) + (3 : Int32)) 42 then jv_let (jv_p h3 53 (Int32.toNatClampNeg (((4 : Int32) * (h3.1 54 0)) + (3 : Int32))) ((h3.1 53 (Int32.toNatClampNeg (((4 : Int32) * (h3.1 54 0)) + (3 : Int32)))) ||| ((1 : Int32) <<< ((h3.1 54 1) &&& 31)))) fun h4 => if jv_ix (1 : Int32) 3 then if jv_ix (((4 : Int32) * (h4.1 54 1)) + (3 : Int32)) 42 then if jv_ix (0 : Int32) 3 then if jv_ix (((4 : Int32) * (h4.1 54 1)) + (3 : Int32)) 42 then jv_let (jv_p h4 53 (Int32.toNatClampNeg (((4 : Int32) * (h4.1 54 1)) + (3 : Int32))) ((h4.1 53 (Int32.toNatClampNeg (((4 : Int32) * (h4.1 54 1)) + (3 : Int32)))) ||| ((1 : Int32) <<< ((h4.1 54 0) &&& 31)))) fun h5 => some ((1 : Int32), h5) else none else none else none else none else none else none else none else none)
          simp only [jl, q_p_k (k := 53) _ (show ¬ 54 = 53 by omega), f0, f1, fa, fb, if_pos ia, if_pos ib, if_pos (show jv_ix (0 : Int32) 3 by decide), if_pos (show jv_ix (1 : Int32) 3 by decide), q_cl (show 4 * va + 3 < 2147483648 by omega), q_cl (show 4 * vb + 3 < 2147483648 by omega)]
          rw [ca, q_or2 vb (by omega) _ (E64 e va'), q_p_j _ (by omega), cb, q_or2 va (by omega) _ (E64 e k4)]
          exact m_X ((sm2.tr s55).tr sm3) s3 e (by rw [ext_e _ (by omega), ext_t]) (ext_t _ _ _) va' k4 k3 (by omega) hte1.2
        · rw [if_neg (show ¬ (tk T L (tq T L p1) = 2 ∧ ((0 : Int) ≤ (tv T L (tq T L p1) : Int) ∧ (tv T L (tq T L p1) : Int) ≤ (n : Int) - 1)) by omega), if_neg (show ¬ (tk T L (tq T L p1) = 2 ∧ decide (tv T L (tq T L p1) < n) = true) from fun z => k4 (by simpa using z.2)), ob, if_pos rfl]
          exact ⟨h2, 0, rfl, sm2, l2, Or.inl rfl⟩
    · rw [if_neg (show ¬ nI (tk T L (tq T L p1)) = 2 by rw [w2, nI_k (by omega) (by omega)]; exact k2)]
      unfold num
      rw [if_neg (fun z => k2 z.1)]
      exact ⟨h2, 0, rfl, sm2, l2, Or.inl rfl⟩
theorem m_temper {h0 h : jv_H} {p n m : Nat} {E : Nat → Nat → Nat} (sm : Sm h0 h) (s : Ms T L h p n m E 0 (fun _ => 0)) (e : Ed n m E) (hp : p ≤ L) (k1 : tk T L (tq T L p) = 1) : Qm T L p h0 (if n < 6 then num T L (te T L (tq T L p)) (okn 116 n 0 (fun _ => 0)) fun a p1 => num T L p1 (okn 116 n 1 (ext (fun _ => 0) 0 a)) fun b p2 => num T L p2 (okn 116 n 2 (ext (ext (fun _ => 0) 0 a) 1 b)) fun c p3 => sem T L p3 (n + 1, m, addT E n a b c) else .inl (tq T L p)) (f9_takesTemper_40 h) := by
  have hL := s.1.1
  have n6 := e.1
  have hq := tq_in (T := T) hp
  have v2 := (tw_l k1).2
  have hte := te_in (T := T) (show tq T L p < L by omega)
  unfold f9_takesTemper_40
  rw [s.2.1.1]
  by_cases hn : n < 6
  · obtain ⟨h1, e1, sm1, s1⟩ := m_look (so := 0) (x := fun _ => 0) s.1 s.2.1 (fun j hj => by omega) hte.2
    rw [if_pos hn, if_neg (show ¬ nI n = 6 by rw [w6, nI_k (by omega) (by omega)]; omega), s.2.2.1.2.2.1, if_neg v2, e1, ob]
    refine m_num (so := 0) (lo := 1) (hi := 60) _ (fun hh => (f9_takes_40 (1 : Int32) (0 : Int32) (5 : Int32) hh).bind fun q3 => if q3.1 = 0 then some ((0 : Int32), q3.2) else (f9_takes_40 (2 : Int32) (0 : Int32) (40 : Int32) q3.2).bind fun q4 => if q4.1 = 0 then some ((0 : Int32), q4.2) else jv_let (0 : Int32) fun x5 => f9_takesTemper_40_l55 jv_fuel x5 q4.2) (sm.tr sm1) s1 hte.2 (by omega) (fun v hv => ?_) (fun h2 va p1 q1 q2 q3 q4 s2 sm2 => ?_)
    · rw [show (1 : Int32).toInt = 1 from rfl, show (60 : Int32).toInt = 60 from rfl]
      simp [okn]
      omega
    · refine m_num (so := 1) (lo := 0) (hi := 5) _ (fun hh => (f9_takes_40 (2 : Int32) (0 : Int32) (40 : Int32) hh).bind fun q4 => if q4.1 = 0 then some ((0 : Int32), q4.2) else jv_let (0 : Int32) fun x5 => f9_takesTemper_40_l55 jv_fuel x5 q4.2) sm2 s2 q2 (by omega) (fun v hv => ?_) (fun h3 vb p2 q5 q6 q7 q8 s3 sm3 => ?_)
      · rw [show (0 : Int32).toInt = 0 from rfl, show (5 : Int32).toInt = 5 from rfl]
        simp [okn]
        omega
      · refine m_num (so := 2) (lo := 0) (hi := 40) _ (fun hh => jv_let (0 : Int32) fun x5 => f9_takesTemper_40_l55 jv_fuel x5 hh) sm3 s3 q6 (by omega) (fun v hv => ?_) (fun h4 vc p3 q9 q10 q11 q12 s4 sm4 => ?_)
        · rw [show (0 : Int32).toInt = 0 from rfl, show (40 : Int32).toInt = 40 from rfl]
          simp [okn]
          omega
        · have := m_T (p0 := p) sm4 s4 e hn (by omega) q10
          rw [ext_t, ext_e _ (show ¬ 0 = 2 by omega), ext_e _ (show ¬ 0 = 1 by omega), ext_t, ext_e _ (show ¬ 1 = 2 by omega), ext_t] at this
          show Qm T L p h0 _ (jv_let (0 : Int32) fun x5 => f9_takesTemper_40_l55 jv_fuel x5 h4)
          rw [jl]
          exact this
  · rw [if_neg hn, if_pos (show nI n = 6 by rw [show n = 6 by omega]; rfl)]
    exact ⟨h, 0, rfl, sm, s.2.2.1.2.1, Or.inl rfl⟩
theorem m_nurse {h0 h : jv_H} {p n m : Nat} {E : Nat → Nat → Nat} (sm : Sm h0 h) (s : Ms T L h p n m E 0 (fun _ => 0)) (e : Ed n m E) (hp : p ≤ L) (k1 : tk T L (tq T L p) = 1) : Qm T L p h0 (if m < 4 then num T L (te T L (tq T L p)) (okn 110 n 0 (fun _ => 0)) fun a p1 => num T L p1 (okn 110 n 1 (ext (fun _ => 0) 0 a)) fun b p2 => num T L p2 (okn 110 n 2 (ext (ext (fun _ => 0) 0 a) 1 b)) fun c p3 => sem T L p3 (n, m + 1, addN E m a b c) else .inl (tq T L p)) (f9_takesNurse_40 h) := by
  have hL := s.1.1
  have m4 := e.2.1
  have hq := tq_in (T := T) hp
  have v2 := (tw_l k1).2
  have hte := te_in (T := T) (show tq T L p < L by omega)
  unfold f9_takesNurse_40
  rw [s.2.1.2.1]
  by_cases hn : m < 4
  · obtain ⟨h1, e1, sm1, s1⟩ := m_look (so := 0) (x := fun _ => 0) s.1 s.2.1 (fun j hj => by omega) hte.2
    rw [if_pos hn, if_neg (show ¬ nI m = 4 by rw [w4, nI_k (by omega) (by omega)]; omega), s.2.2.1.2.2.1, if_neg v2, e1, ob]
    refine m_num (so := 0) (lo := 1) (hi := 9) _ (fun hh => (f9_takes_40 (1 : Int32) (1 : Int32) (3 : Int32) hh).bind fun q3 => if q3.1 = 0 then some ((0 : Int32), q3.2) else (f9_takes_40 (2 : Int32) (1 : Int32) (99 : Int32) q3.2).bind fun q4 => if q4.1 = 0 then some ((0 : Int32), q4.2) else jv_let (0 : Int32) fun x5 => f9_takesNurse_40_l54 jv_fuel x5 q4.2) (sm.tr sm1) s1 hte.2 (by omega) (fun v hv => ?_) (fun h2 va p1 q1 q2 q3 q4 s2 sm2 => ?_)
    · rw [show (1 : Int32).toInt = 1 from rfl, show (9 : Int32).toInt = 9 from rfl]
      simp [okn]
      omega
    · refine m_num (so := 1) (lo := 1) (hi := 3) _ (fun hh => (f9_takes_40 (2 : Int32) (1 : Int32) (99 : Int32) hh).bind fun q4 => if q4.1 = 0 then some ((0 : Int32), q4.2) else jv_let (0 : Int32) fun x5 => f9_takesNurse_40_l54 jv_fuel x5 q4.2) sm2 s2 q2 (by omega) (fun v hv => ?_) (fun h3 vb p2 q5 q6 q7 q8 s3 sm3 => ?_)
      · rw [show (1 : Int32).toInt = 1 from rfl, show (3 : Int32).toInt = 3 from rfl]
        simp [okn]
        omega
      · refine m_num (so := 2) (lo := 1) (hi := 99) _ (fun hh => jv_let (0 : Int32) fun x5 => f9_takesNurse_40_l54 jv_fuel x5 hh) sm3 s3 q6 (by omega) (fun v hv => ?_) (fun h4 vc p3 q9 q10 q11 q12 s4 sm4 => ?_)
        · rw [show (1 : Int32).toInt = 1 from rfl, show (99 : Int32).toInt = 99 from rfl]
          simp [okn]
          omega
        · have := m_N (p0 := p) sm4 s4 e hn (by omega) q10
          rw [ext_t, ext_e _ (show ¬ 0 = 2 by omega), ext_e _ (show ¬ 0 = 1 by omega), ext_t, ext_e _ (show ¬ 1 = 2 by omega), ext_t] at this
          show Qm T L p h0 _ (jv_let (0 : Int32) fun x5 => f9_takesNurse_40_l54 jv_fuel x5 h4)
          rw [jl]
          exact this
  · rw [if_neg hn, if_pos (show nI m = 4 by rw [show m = 4 by omega]; rfl)]
    exact ⟨h, 0, rfl, sm, s.2.2.1.2.1, Or.inl rfl⟩
theorem m_item {h0 h : jv_H} {p n m : Nat} {E : Nat → Nat → Nat} (sm : Sm h0 h) (s : Ms T L h p n m E 0 (fun _ => 0)) (e : Ed n m E) (hp : p ≤ L) : Qm T L p h0 (itm T L p n m E) (f9_takesItem_40 h) := by
  have hq := tq_in (T := T) hp
  have h10 : ¬ (1 : Int32) = 0 := by decide
  have i1 := m_isL (c := 116) s.1 s.2.2.1 hq.2 (by omega)
  have i2 := m_isL (c := 110) s.1 s.2.2.1 hq.2 (by omega)
  have i3 := m_isL (c := 120) s.1 s.2.2.1 hq.2 (by omega)
  have i1 : f9_isLetter_40 116 h = _ := i1
  have i2 : f9_isLetter_40 110 h = _ := i2
  have i3 : f9_isLetter_40 120 h = _ := i3
  unfold f9_takesItem_40 itm
  simp only [i1, i2, i3, ob]
  by_cases k : tk T L (tq T L p) = 1 ∧ te T L (tq T L p) - tq T L p = 1
  · rw [if_pos k]
    by_cases cT : T (tq T L p) = 116
    · rw [if_pos cT]
      simp only [if_pos (show (tk T L (tq T L p) = 1 ∧ te T L (tq T L p) - tq T L p = 1) ∧ T (tq T L p) = 116 from ⟨k, cT⟩), if_neg h10]
      exact (m_temper sm s e hp k.1).wrap
    · rw [if_neg cT]
      simp only [if_neg (show ¬ ((tk T L (tq T L p) = 1 ∧ te T L (tq T L p) - tq T L p = 1) ∧ T (tq T L p) = 116) from fun z => cT z.2), if_true]
      by_cases cN : T (tq T L p) = 110
      · rw [if_pos cN]
        simp only [if_pos (show (tk T L (tq T L p) = 1 ∧ te T L (tq T L p) - tq T L p = 1) ∧ T (tq T L p) = 110 from ⟨k, cN⟩), if_neg h10]
        exact (m_nurse sm s e hp k.1).wrap
      · rw [if_neg cN]
        simp only [if_neg (show ¬ ((tk T L (tq T L p) = 1 ∧ te T L (tq T L p) - tq T L p = 1) ∧ T (tq T L p) = 110) from fun z => cN z.2), if_true]
        by_cases cX : T (tq T L p) = 120
        · rw [if_pos cX]
          simp only [if_pos (show (tk T L (tq T L p) = 1 ∧ te T L (tq T L p) - tq T L p = 1) ∧ T (tq T L p) = 120 from ⟨k, cX⟩), if_neg h10]
          exact (m_clash sm s e hp k.1).wrap2
        · rw [if_neg cX]
          simp only [if_neg (show ¬ ((tk T L (tq T L p) = 1 ∧ te T L (tq T L p) - tq T L p = 1) ∧ T (tq T L p) = 120) from fun z => cX z.2), if_true]
          exact ⟨h, 0, rfl, sm, s.2.2.1.2.1, Or.inl rfl⟩
  · rw [if_neg k]
    simp only [if_neg (show ¬ ((tk T L (tq T L p) = 1 ∧ te T L (tq T L p) - tq T L p = 1) ∧ T (tq T L p) = 116) from fun z => k z.1), if_neg (show ¬ ((tk T L (tq T L p) = 1 ∧ te T L (tq T L p) - tq T L p = 1) ∧ T (tq T L p) = 110) from fun z => k z.1), if_neg (show ¬ ((tk T L (tq T L p) = 1 ∧ te T L (tq T L p) - tq T L p = 1) ∧ T (tq T L p) = 120) from fun z => k z.1), if_true]
    exact ⟨h, 0, rfl, sm, s.2.2.1.2.1, Or.inl rfl⟩
def Qn (h0 : jv_H) (r : Nat ⊕ (Nat × Nat × Nat × (Nat → Nat → Nat))) (run : Option (Int32 × jv_H)) : Prop :=
  match r with
  | .inl f => ∃ h', Sm h0 h' ∧ run = some ((-10 : Int32) - nI f, h')
  | .inr (a, n, m, E) => ∃ h', Sm h0 h' ∧ run = ((f9_takeAll_40 h').bind fun q1 => some (nI a, q1.2)) ∧ Dm h' n m E
/-- what an item's draft keeps -/
theorem itm_Ed {p n m p' n' m' : Nat} {E E' : Nat → Nat → Nat} (e : Ed n m E) (h : itm T L p n m E = .inr (p', n', m', E')) : Ed n' m' E' := by
  have sem_r : ∀ {p : Nat} {r : Nat × Nat × (Nat → Nat → Nat)}, sem T L p r = .inr (p', n', m', E') → r = (n', m', E') := by
    intro p r hr
    unfold sem at hr
    split at hr
    · exact (Prod.mk.inj (Sum.inr.inj hr)).2
    · exact absurd hr (by intro z; cases z)
  have num_r : ∀ {p : Nat} {ok : Nat → Bool} {k : Nat → Nat → Nat ⊕ (Nat × Nat × Nat × (Nat → Nat → Nat))}, num T L p ok k = .inr (p', n', m', E') → ∃ v p1, ok v = true ∧ k v p1 = .inr (p', n', m', E') := by
    intro p ok k hr
    unfold num at hr
    split at hr
    · rename_i z
      exact ⟨_, _, z.2, hr⟩
    · exact absurd hr (by intro z; cases z)
  unfold itm at h
  split at h
  · split at h
    · split at h
      · rename_i hn
        obtain ⟨a, p1, o1, h⟩ := num_r h
        obtain ⟨b, p2, o2, h⟩ := num_r h
        obtain ⟨c, p3, o3, h⟩ := num_r h
        have r := sem_r h
        have b1 : a ≤ 60 := by simp [okn] at o1; omega
        have b2 : b ≤ 5 := by simp [okn] at o2; omega
        have b3 : c ≤ 40 := by simp [okn] at o3; omega
        obtain ⟨rfl, rfl, rfl⟩ : n + 1 = n' ∧ m = m' ∧ addT E n a b c = E' := by
          have r1 := Prod.mk.inj r
          have r2 := Prod.mk.inj r1.2
          exact ⟨r1.1, r2.1, r2.2⟩
        exact e.tT hn b1 b2 b3
      · exact absurd h (by intro z; cases z)
    · split at h
      · split at h
        · rename_i hn
          obtain ⟨a, p1, o1, h⟩ := num_r h
          obtain ⟨b, p2, o2, h⟩ := num_r h
          obtain ⟨c, p3, o3, h⟩ := num_r h
          have r := sem_r h
          have b1 : 1 ≤ a ∧ a ≤ 9 := by simp [okn] at o1; omega
          have b2 : 1 ≤ b ∧ b ≤ 3 := by simp [okn] at o2; omega
          have b3 : 1 ≤ c ∧ c ≤ 99 := by simp [okn] at o3; omega
          obtain ⟨rfl, rfl, rfl⟩ : n = n' ∧ m + 1 = m' ∧ addN E m a b c = E' := by
            have r1 := Prod.mk.inj r
            have r2 := Prod.mk.inj r1.2
            exact ⟨r1.1, r2.1, r2.2⟩
          exact e.tN hn b1 b2 b3
        · exact absurd h (by intro z; cases z)
      · split at h
        · obtain ⟨a, p1, o1, h⟩ := num_r h
          obtain ⟨b, p2, o2, h⟩ := num_r h
          have r := sem_r h
          have b1 : a < n := by simpa [okn] using o1
          have b2 : b < n ∧ ¬ b = a := by simpa [okn, ext_t] using o2
          obtain ⟨rfl, rfl, rfl⟩ : n = n' ∧ m = m' ∧ addX E a b = E' := by
            have r1 := Prod.mk.inj r
            have r2 := Prod.mk.inj r1.2
            exact ⟨r1.1, r2.1, r2.2⟩
          exact e.tX b1 b2.1 b2.2
        · exact absurd h (by intro z; cases z)
  · exact absurd h (by intro z; cases z)
theorem m_all {h0 : jv_H} : ∀ (g p n m fuel a : Nat) (E : Nat → Nat → Nat) (h : jv_H), Sm h0 h → Ms T L h p n m E 0 (fun _ => 0) → Ed n m E → p ≤ L → L < fuel + p → L < g + p → Qn h0 (hpz T L g p n m E a) (f9_hill_40_l17 fuel (nI a) h) := by
  intro g
  induction g with
  | zero => intro p n m fuel a E h sm s e hp hf hg; omega
  | succ g ih =>
    intro p n m fuel a E h sm s e hp hf hg
    obtain ⟨f, rfl⟩ : ∃ k, fuel = k + 1 := ⟨fuel - 1, by omega⟩
    have hk4 := tk_lt (T := T) (L := L) (tq T L p)
    show Qn h0 _ (g9_hill_40_b17 (f9_hill_40_l17 f) _ h)
    unfold hpz g9_hill_40_b17
    rw [s.2.2.1.1]
    by_cases hz : tk T L (tq T L p) = 0
    · rw [if_pos hz, if_pos (show nI (tk T L (tq T L p)) = 0 by rw [hz]; rfl)]
      exact ⟨h, sm, rfl, s.2.1⟩
    · rw [if_neg hz, if_neg (show ¬ nI (tk T L (tq T L p)) = 0 by rw [q_eq0 (by omega)]; exact hz)]
      have := m_item sm s e hp
      cases hit : itm T L p n m E with
      | inl f' =>
        rw [hit] at this
        obtain ⟨h', b, t1, t2, t3, t4⟩ := this
        refine ⟨h', t2, ?_⟩
        unfold g9_hill_40_b39
        rw [t1, ob]
        rcases t4 with z | ⟨z1, z2⟩
        · rw [if_pos z, t3]
        · rw [z1, if_neg (show ¬ (1 : Int32) = 0 by decide)]
          show (if h'.1 40 17 = 3 then _ else _) = _
          rw [if_neg z2]
          show some ((-10 : Int32) - h'.1 40 18, h') = _
          rw [t3]
      | inr r =>
        obtain ⟨p', n', m', E'⟩ := r
        rw [hit] at this
        obtain ⟨h', t1, t2, t3, t4, t5, t6, t7, t8⟩ := this
        obtain ⟨h2, e2, sm2, s2⟩ := m_look (so := 0) (x := fun _ => 0) t5 t6 (fun j hj => by omega) t7
        rw [t1, ob, if_neg (show ¬ (1 : Int32) = 0 by decide)]
        show Qn h0 _ (if h'.1 40 17 = 3 then (f9_lookAt_40 (h'.1 40 19) h').bind fun q3 => jv_let (nI a + 1) fun x4 => f9_hill_40_l17 f x4 q3.2 else _)
        rw [if_pos t3, t4, e2, ob, jl, show nI a + (1 : Int32) = nI (a + 1) from by rw [w1, nI_add]]
        exact ih p' n' m' f (a + 1) E' h2 (t2.tr sm2) s2 (itm_Ed e hit) t7 (by omega) (by omega)
theorem b_mhill {h : jv_H} (t : Tm h T L) : Qn h (hpz T L 121 0 0 0 (fun _ _ => 0) 0) (f9_hill_40 h) := by
  have hL := t.1
  unfold f9_hill_40
  rw [jl, jl, jl]
  have s1 : Sm h (jv_p (jv_p h 40 21 0) 40 22 0) := ((Sm.rf h).p _ _ _ (by unfold jq_s; omega)).p _ _ _ (by unfold jq_s; omega)
  obtain ⟨h2, e2, sm2, s2⟩ := m_look (p := 0) (n := 0) (m := 0) (E := fun _ _ => 0) (so := 0) (x := fun _ => 0) (t.sm s1) ⟨by rw [q_p_j _ (by omega), q_p_same]; rfl, by rw [q_p_same]; rfl, fun t ht => by omega, fun k hk => by omega⟩ (fun j hj => by omega) (by omega)
  have e2 : f9_lookAt_40 0 (jv_p (jv_p h 40 21 0) 40 22 0) = some ((), h2) := e2
  rw [e2, ob]
  exact m_all 121 0 0 0 jv_fuel 0 (fun _ _ => 0) h2 (s1.tr sm2) s2 ⟨by omega, by omega, fun t ht => by omega, fun k hk => by omega, fun s t hs => by omega, fun t ht => by omega⟩ (by omega) (by unfold jv_fuel; omega) (by omega)
end MI
