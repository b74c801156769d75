/-! hill: the reference's reader -/
def Dm (h : jv_H) (n m : Nat) (E : Nat → Nat → Nat) : Prop := h.1 40 21 = nI n ∧ h.1 40 22 = nI m ∧ (∀ t, t < n → h.1 53 (4 * t) = nI (E 6 t) ∧ h.1 53 (4 * t + 1) = nI (E 0 t) ∧ h.1 53 (4 * t + 2) = nI (E 1 t) ∧ h.1 53 (4 * t + 3) = nI (E 2 t)) ∧ ∀ k, k < m → h.1 53 (24 + 3 * k) = nI (E 3 k) ∧ h.1 53 (25 + 3 * k) = nI (E 4 k) ∧ h.1 53 (26 + 3 * k) = nI (E 5 k)
theorem Dm.eq {h h' : jv_H} {n m : Nat} {E : Nat → Nat → Nat} (a : Dm h n m E) (h1 : h'.1 40 21 = h.1 40 21) (h2 : h'.1 40 22 = h.1 40 22) (h3 : h'.1 53 = h.1 53) : Dm h' n m E := by
  obtain ⟨a1, a2, a3, a4⟩ := a
  exact ⟨h1.trans a1, h2.trans a2, by rw [h3]; exact a3, by rw [h3]; exact a4⟩
section MR
variable {T : Nat → Nat} {L : Nat}
theorem Tm.sm {h h' : jv_H} (t : Tm h T L) (s : Sm h h') : Tm h' T L := ⟨t.1, by rw [s.1 _ _ (by unfold jq_s; omega)]; exact t.2.1, fun j hj => by rw [s.1 _ _ (by unfold jq_s; omega)]; exact t.2.2.1 j hj, t.2.2.2⟩
theorem R41.sm {h0 h : jv_H} {a b c d : Int32} (r : R41 h0 h a b c d) : Sm h0 h := ⟨fun k j q => by
  by_cases e : k = 40
  · subst e
    exact r.2.1 j (fun x => q (by unfold jq_s; omega)) (fun x => q (by unfold jq_s; omega)) (fun x => q (by unfold jq_s; omega)) (fun x => q (by unfold jq_s; omega))
  · rw [r.1 k e], r.2.2.1⟩
def Lk (T : Nat → Nat) (L : Nat) (h : jv_H) (q : Nat) : Prop := h.1 40 17 = nI (tk T L q) ∧ h.1 40 18 = nI q ∧ h.1 40 19 = nI (if q = L then L + 1 else te T L q) ∧ h.1 40 20 = nI (tu T L q)
def Ms (T : Nat → Nat) (L : Nat) (h : jv_H) (p n m : Nat) (E : Nat → Nat → Nat) (so : Nat) (x : Nat → Nat) : Prop := Tm h T L ∧ Dm h n m E ∧ Lk T L h (tq T L p) ∧ ∀ j, j < so → h.1 54 j = nI (x j)
theorem m_look {h : jv_H} {p n m so : Nat} {E : Nat → Nat → Nat} {x : Nat → Nat} (t : Tm h T L) (d : Dm h n m E) (h55 : ∀ j, j < so → h.1 54 j = nI (x j)) (hp : p ≤ L) : ∃ h', f9_lookAt_40 (nI p) h = some ((), h') ∧ Sm h h' ∧ Ms T L h' p n m E so x := by
  obtain ⟨h', e, r⟩ := m_tok t hp
  exact ⟨h', e, r.sm, t.r r, d.eq (r.2.1 _ (by omega) (by omega) (by omega) (by omega)) (r.2.1 _ (by omega) (by omega) (by omega) (by omega)) (r.1 _ (by omega)), ⟨r.2.2.2.1, r.2.2.2.2.1, r.2.2.2.2.2.1, r.2.2.2.2.2.2⟩, fun j hj => by rw [r.1 54 (by omega)]; exact h55 j hj⟩
theorem tu_n {q : Nat} (h : tk T L q = 2) : tu T L q = tv T L q := by
  have := tw_n h
  unfold tk at h
  unfold tu
  by_cases c0 : q = L
  · exact absurd c0 this.2.2
  · rw [if_neg c0] at h ⊢
    by_cases c1 : isL (T q) = true
    · rw [if_pos c1] at h; omega
    · rw [if_neg c1] at h ⊢
      by_cases c2 : isD (T q) = true
      · rw [if_pos c2]
      · rw [if_neg c2] at h
        split at h <;> omega
def Qm (T : Nat → Nat) (L p0 : Nat) (h0 : jv_H) (r : Nat ⊕ (Nat × Nat × Nat × (Nat → Nat → Nat))) (run : Option (Int32 × jv_H)) : Prop :=
  match r with
  | .inl f => ∃ h' b, run = some (b, h') ∧ Sm h0 h' ∧ h'.1 40 18 = nI f ∧ (b = 0 ∨ (b = 1 ∧ ¬ h'.1 40 17 = 3))
  | .inr (p, n, m, E) => ∃ h', run = some (1, h') ∧ Sm h0 h' ∧ h'.1 40 17 = 3 ∧ h'.1 40 19 = nI p ∧ Tm h' T L ∧ Dm h' n m E ∧ p ≤ L ∧ p0 < p
theorem m_takes {h : jv_H} {p n m so : Nat} {E : Nat → Nat → Nat} {x : Nat → Nat} {lo hi : Int32} (s : Ms T L h p n m E so x) (hp : p ≤ L) (hso : so < 3) : f9_takes_40 (nI so) lo hi h = (if tk T L (tq T L p) = 2 ∧ (lo.toInt ≤ tv T L (tq T L p) ∧ (tv T L (tq T L p) : Int) ≤ hi.toInt) then (f9_lookAt_40 (nI (te T L (tq T L p))) (jv_p h 54 so (nI (tv T L (tq T L p))))).bind fun q3 => some ((1 : Int32), q3.2) else some (0, h)) := by
  obtain ⟨s1, s2, ⟨l1, l2, l3, l4⟩, s4⟩ := s
  have hq := tq_in (T := T) hp
  have hL := s1.1
  have hk4 := tk_lt (T := T) (L := L) (tq T L p)
  generalize tq T L p = q at *
  unfold f9_takes_40
  rw [l1]
  by_cases k2 : tk T L q = 2
  · obtain ⟨v1, v2, v3⟩ := tw_n k2
    have h10 : ¬ (1 : Int32) = 0 := by decide
    rw [if_pos (show nI (tk T L q) = 2 by rw [k2]; rfl), l4, tu_n k2, q_in, ob, Int32.toInt_toInt64, Int32.toInt_toInt64, q_ti (by omega)]
    by_cases u : lo.toInt ≤ tv T L q ∧ (tv T L q : Int) ≤ hi.toInt
    · have ku : tk T L q = 2 ∧ (lo.toInt ≤ tv T L q ∧ (tv T L q : Int) ≤ hi.toInt) := ⟨k2, u⟩
      simp only [if_pos ku, if_pos u, if_neg h10]
      rw [if_pos (show jv_ix (nI so) 3 by rw [q_ix (by omega)]; omega), jl, q_cl (by omega), l4, tu_n k2, q_p_k _ (by omega), l3, if_neg v3]
    · have ku : ¬ (tk T L q = 2 ∧ (lo.toInt ≤ tv T L q ∧ (tv T L q : Int) ≤ hi.toInt)) := fun z => u z.2
      simp only [if_neg ku, if_neg u]
      rfl
  · rw [if_neg (show ¬ nI (tk T L q) = 2 by rw [w2, nI_k (by omega) (by omega)]; exact k2), if_neg (fun z => k2 z.1)]
theorem m_num {h0 h : jv_H} {p0 p n m so : Nat} {E : Nat → Nat → Nat} {x : Nat → Nat} {lo hi : Int32} {ok : Nat → Bool} (k : Nat → Nat → Nat ⊕ (Nat × Nat × Nat × (Nat → Nat → Nat))) (K : jv_H → Option (Int32 × jv_H)) (sm : Sm h0 h) (s : Ms T L h p n m E so x) (hp : p ≤ L) (hso : so < 3) (hok : ∀ v, v ≤ 99 → (ok v = true ↔ (lo.toInt ≤ v ∧ (v : Int) ≤ hi.toInt))) (hk : ∀ (h1 : jv_H) (v p1 : Nat), p < p1 → p1 ≤ L → v ≤ 99 → ok v = true → Ms T L h1 p1 n m E (so + 1) (ext x so v) → Sm h0 h1 → Qm T L p0 h0 (k v p1) (K h1)) : Qm T L p0 h0 (num T L p ok k) ((f9_takes_40 (nI so) lo hi h).bind fun q2 => if q2.1 = 0 then some ((0 : Int32), q2.2) else K q2.2) := by
  rw [m_takes s hp hso]
  unfold num
  obtain ⟨s1, s2, s3, s4⟩ := s
  have hq := tq_in (T := T) hp
  generalize tq T L p = q at *
  by_cases k2 : tk T L q = 2
  · obtain ⟨v1, v2, v3⟩ := tw_n k2
    have hte := te_in (T := T) (show q < L by omega)
    by_cases u : lo.toInt ≤ tv T L q ∧ (tv T L q : Int) ≤ hi.toInt
    · have s55 : Sm h (jv_p h 54 so (nI (tv T L q))) := (Sm.rf h).p _ _ _ (by unfold jq_s; omega)
      obtain ⟨h1, e1, sm1, m1⟩ := m_look (p := te T L q) (n := n) (m := m) (E := E) (so := so + 1) (x := ext x so (tv T L q)) (s1.sm s55) (s2.eq (by rw [q_p_k _ (by omega)]) (by rw [q_p_k _ (by omega)]) (by rw [q_p_k _ (by omega)])) (fun j hj => by
        rw [q_p_if]
        by_cases z : j = so
        · rw [if_pos z, z, ext_t]
        · rw [if_neg z, ext_e x z]; exact s4 j (by omega)) hte.2
      rw [if_pos (show tk T L q = 2 ∧ (lo.toInt ≤ tv T L q ∧ (tv T L q : Int) ≤ hi.toInt) from ⟨k2, u⟩), if_pos (show tk T L q = 2 ∧ ok (tv T L q) = true from ⟨k2, (hok _ v2).mpr u⟩), e1, ob, ob, if_neg (show ¬ (1 : Int32) = 0 by decide)]
      exact hk h1 _ _ (by omega) hte.2 v2 ((hok _ v2).mpr u) m1 ((sm.tr s55).tr sm1)
    · rw [if_neg (show ¬ (tk T L q = 2 ∧ (lo.toInt ≤ tv T L q ∧ (tv T L q : Int) ≤ hi.toInt)) from fun z => u z.2), if_neg (show ¬ (tk T L q = 2 ∧ ok (tv T L q) = true) from fun z => u ((hok _ v2).mp z.2)), ob, if_pos rfl]
      exact ⟨h, 0, rfl, sm, s3.2.1, Or.inl rfl⟩
  · rw [if_neg (show ¬ (tk T L q = 2 ∧ (lo.toInt ≤ tv T L q ∧ (tv T L q : Int) ≤ hi.toInt)) from fun z => k2 z.1), if_neg (show ¬ (tk T L q = 2 ∧ ok (tv T L q) = true) from fun z => k2 z.1), ob, if_pos rfl]
    exact ⟨h, 0, rfl, sm, s3.2.1, Or.inl rfl⟩
theorem m_sem {h0 h : jv_H} {p0 p n m so : Nat} {E : Nat → Nat → Nat} {x : Nat → Nat} (sm : Sm h0 h) (s : Ms T L h p n m E so x) (hp0 : p0 ≤ p) (hp : p ≤ L) : Qm T L p0 h0 (sem T L p (n, m, E)) (some (1, h)) := by
  unfold sem
  obtain ⟨s1, s2, ⟨l1, l2, l3, l4⟩, s4⟩ := s
  have hq := tq_in (T := T) hp
  have hk4 := tk_lt (T := T) (L := L) (tq T L p)
  generalize tq T L p = q at *
  by_cases k3 : tk T L q = 3
  · have q3 : q ≠ L := fun z => by
      have := tk_0 (T := T).mpr z
      omega
    have hte := te_in (T := T) (show q < L by omega)
    rw [if_pos k3]
    exact ⟨h, rfl, sm, by rw [l1, k3]; rfl, by rw [l3, if_neg q3], s1, s2, hte.2, by omega⟩
  · rw [if_neg k3]
    exact ⟨h, 1, rfl, sm, l2, Or.inr ⟨rfl, by rw [l1, w3, nI_k (by omega) (by omega)]; exact k3⟩⟩
theorem Lk.eq {h h' : jv_H} {q : Nat} (a : Lk T L h q) (e : ∀ j, 17 ≤ j → j ≤ 20 → h'.1 40 j = h.1 40 j) : Lk T L h' q := by
  obtain ⟨l1, l2, l3, l4⟩ := a
  exact ⟨(e _ (by omega) (by omega)).trans l1, (e _ (by omega) (by omega)).trans l2, (e _ (by omega) (by omega)).trans l3, (e _ (by omega) (by omega)).trans l4⟩
theorem m_T {h0 h : jv_H} {p0 p n m : Nat} {E : Nat → Nat → Nat} {x : Nat → Nat} (sm : Sm h0 h) (s : Ms T L h p n m E 3 x) (e : Ed n m E) (hn : n < 6) (hp0 : p0 ≤ p) (hp : p ≤ L) : Qm T L p0 h0 (sem T L p (n + 1, m, addT E n (x 0) (x 1) (x 2))) (f9_takesTemper_40_l55 jv_fuel 0 h) := by
  obtain ⟨s1, ⟨d1, d2, d3, d4⟩, s3, s4⟩ := s
  have m4 := e.2.1
  have stp' : ∀ (f k : Nat) (h : jv_H), k < 3 → h.1 40 21 = nI n → f9_takesTemper_40_l55 (f + 1) (nI k) h = f9_takesTemper_40_l55 f (nI (k + 1)) (jv_p h 53 (4 * n + k) (h.1 54 k)) := by
    intro f k h hk hh
    show g9_takesTemper_40_b55 (f9_takesTemper_40_l55 f) _ h = _
    unfold g9_takesTemper_40_b55
    rw [if_neg (show ¬ (3 : Int32) ≤ nI k by rw [w3, q_le (by omega) (by omega)]; omega), if_pos (show jv_ix (nI k) 3 by rw [q_ix (by omega)]; omega), hh, show (4 : Int32) * nI n + nI k = nI (4 * n + k) from by rw [w4, pk_mul, nI_add], if_pos (by rw [q_ix (by omega)]; omega), q_cl (by omega), q_cl (by omega), jl, jl, w1, nI_add]
  obtain ⟨F, hF⟩ : ∃ F, jv_fuel = F + 1 + 1 + 1 + 1 := ⟨199996, rfl⟩
  have e0 := s4 0 (by omega)
  have e1 := s4 1 (by omega)
  have e2 := s4 2 (by omega)
  rw [hF, show (0 : Int32) = nI 0 from rfl, stp' _ 0 _ (by omega) d1, stp' _ 1 _ (by omega) (by rw [q_p_k _ (by omega)]; exact d1), stp' _ 2 _ (by omega) (by rw [q_p_k _ (by omega), q_p_k _ (by omega)]; exact d1), q_p_k (a := 54) _ (by omega), q_p_k (a := 54) _ (by omega), q_p_k (a := 54) _ (by omega), e0, e1, e2]
  generalize hG : jv_p (jv_p (jv_p h 53 (4 * n + 0) (nI (x 0))) 53 (4 * n + 1) (nI (x 1))) 53 (4 * n + 2) (nI (x 2)) = h3
  have k3 : ∀ k, ¬ k = 53 → h3.1 k = h.1 k := fun k hk => by rw [← hG, q_p_k _ hk, q_p_k _ hk, q_p_k _ hk]
  have v3 : ∀ j, h3.1 53 j = if j = 4 * n + 2 then nI (x 2) else if j = 4 * n + 1 then nI (x 1) else if j = 4 * n + 0 then nI (x 0) else h.1 53 j := fun j => by rw [← hG, q_p_if, q_p_if, q_p_if]
  have s32 : h3.2 = h.2 := by rw [← hG]; rfl
  show Qm T L p0 h0 _ (g9_takesTemper_40_b55 (f9_takesTemper_40_l55 F) (nI (2 + 1)) h3)
  unfold g9_takesTemper_40_b55
  rw [if_pos (show (3 : Int32) ≤ nI (2 + 1) by decide), k3 40 (by omega), d1, show (4 : Int32) * nI n + (3 : Int32) = nI (4 * n + 3) from by rw [w4, w3, pk_mul, nI_add], if_pos (by rw [q_ix (by omega)]; omega), q_cl (by omega), jl, jl, q_p_k _ (by omega), k3 40 (by omega), d1, w1, nI_add]
  have smf : Sm h0 (jv_p (jv_p h3 53 (4 * n + 3) 0) 40 21 (nI (n + 1))) := by
    rw [← hG]
    exact ((((sm.p _ _ _ (by unfold jq_s; omega)).p _ _ _ (by unfold jq_s; omega)).p _ _ _ (by unfold jq_s; omega)).p _ _ _ (by unfold jq_s; omega)).p _ _ _ (by unfold jq_s; omega)
  have smh : Sm h (jv_p (jv_p h3 53 (4 * n + 3) 0) 40 21 (nI (n + 1))) := by
    rw [← hG]
    exact (((((Sm.rf h).p _ _ _ (by unfold jq_s; omega)).p _ _ _ (by unfold jq_s; omega)).p _ _ _ (by unfold jq_s; omega)).p _ _ _ (by unfold jq_s; omega)).p _ _ _ (by unfold jq_s; omega)
  refine m_sem (so := 0) (x := x) smf ⟨s1.sm smh, ⟨q_p_same _ _ _ _, ?_, fun t ht => ?_, fun k hk => ?_⟩, s3.eq (fun j h1 h2 => by rw [q_p_j _ (by omega), q_p_k _ (by omega), k3 40 (by omega)]), fun j hj => by omega⟩ hp0 hp
  · rw [q_p_j _ (by omega), q_p_k _ (by omega), k3 40 (by omega)]; exact d2
  · have u : ∀ j, (jv_p (jv_p h3 53 (4 * n + 3) 0) 40 21 (nI (n + 1))).1 53 j = if j = 4 * n + 3 then 0 else if j = 4 * n + 2 then nI (x 2) else if j = 4 * n + 1 then nI (x 1) else if j = 4 * n + 0 then nI (x 0) else h.1 53 j := fun j => by rw [q_p_k _ (by omega), q_p_if, v3]
    rw [u, u, u, u]
    by_cases q : t = n
    · subst q
      simp (disch := omega) only [if_neg, if_pos]
      simp only [addT, if_true, and_self, true_and, and_true, show ¬ (0 : Nat) = 6 by omega, show ¬ (1 : Nat) = 6 by omega, show ¬ (1 : Nat) = 0 by omega, show ¬ (2 : Nat) = 6 by omega, show ¬ (2 : Nat) = 0 by omega, show ¬ (2 : Nat) = 1 by omega, if_false, false_and]
      rfl
    · simp (disch := omega) only [if_neg]
      simp only [addT, q, and_false, if_false]
      exact d3 t (by omega)
  · have u : ∀ j, 24 ≤ j → (jv_p (jv_p h3 53 (4 * n + 3) 0) 40 21 (nI (n + 1))).1 53 j = h.1 53 j := fun j hj => by
      rw [q_p_k _ (by omega), q_p_if, v3]
      simp (disch := omega) only [if_neg]
    rw [u _ (by omega), u _ (by omega), u _ (by omega)]
    simp only [addT, show ¬ (3 : Nat) = 6 by omega, show ¬ (3 : Nat) = 0 by omega, show ¬ (3 : Nat) = 1 by omega, show ¬ (3 : Nat) = 2 by omega, show ¬ (4 : Nat) = 6 by omega, show ¬ (4 : Nat) = 0 by omega, show ¬ (4 : Nat) = 1 by omega, show ¬ (4 : Nat) = 2 by omega, show ¬ (5 : Nat) = 6 by omega, show ¬ (5 : Nat) = 0 by omega, show ¬ (5 : Nat) = 1 by omega, show ¬ (5 : Nat) = 2 by omega, false_and, if_false]
    exact d4 k hk
theorem m_N {h0 h : jv_H} {p0 p n m : Nat} {E : Nat → Nat → Nat} {x : Nat → Nat} (sm : Sm h0 h) (s : Ms T L h p n m E 3 x) (e : Ed n m E) (hm : m < 4) (hp0 : p0 ≤ p) (hp : p ≤ L) : Qm T L p0 h0 (sem T L p (n, m + 1, addN E m (x 0) (x 1) (x 2))) (f9_takesNurse_40_l54 jv_fuel 0 h) := by
  obtain ⟨s1, ⟨d1, d2, d3, d4⟩, s3, s4⟩ := s
  have n6 := e.1
  have stp' : ∀ (f k : Nat) (h : jv_H), k < 3 → h.1 40 22 = nI m → f9_takesNurse_40_l54 (f + 1) (nI k) h = f9_takesNurse_40_l54 f (nI (k + 1)) (jv_p h 53 (24 + 3 * m + k) (h.1 54 k)) := by
    intro f k h hk hh
    show g9_takesNurse_40_b54 (f9_takesNurse_40_l54 f) _ h = _
    unfold g9_takesNurse_40_b54
    rw [if_neg (show ¬ (3 : Int32) ≤ nI k by rw [w3, q_le (by omega) (by omega)]; omega), if_pos (show jv_ix (nI k) 3 by rw [q_ix (by omega)]; omega), hh, show (24 : Int32) + (3 : Int32) * nI m + nI k = nI (24 + 3 * m + k) from by rw [w24, w3, pk_mul, nI_add, nI_add], if_pos (by rw [q_ix (by omega)]; omega), q_cl (by omega), q_cl (by omega), jl, jl, w1, nI_add]
  obtain ⟨F, hF⟩ : ∃ F, jv_fuel = F + 1 + 1 + 1 + 1 := ⟨199996, rfl⟩
  have e0 := s4 0 (by omega)
  have e1 := s4 1 (by omega)
  have e2 := s4 2 (by omega)
  rw [hF, show (0 : Int32) = nI 0 from rfl, stp' _ 0 _ (by omega) d2, stp' _ 1 _ (by omega) (by rw [q_p_k _ (by omega)]; exact d2), stp' _ 2 _ (by omega) (by rw [q_p_k _ (by omega), q_p_k _ (by omega)]; exact d2), q_p_k (a := 54) _ (by omega), q_p_k (a := 54) _ (by omega), q_p_k (a := 54) _ (by omega), e0, e1, e2]
  generalize hG : jv_p (jv_p (jv_p h 53 (24 + 3 * m + 0) (nI (x 0))) 53 (24 + 3 * m + 1) (nI (x 1))) 53 (24 + 3 * m + 2) (nI (x 2)) = h3
  have k3 : ∀ k, ¬ k = 53 → h3.1 k = h.1 k := fun k hk => by rw [← hG, q_p_k _ hk, q_p_k _ hk, q_p_k _ hk]
  have v3 : ∀ j, h3.1 53 j = if j = 24 + 3 * m + 2 then nI (x 2) else if j = 24 + 3 * m + 1 then nI (x 1) else if j = 24 + 3 * m + 0 then nI (x 0) else h.1 53 j := fun j => by rw [← hG, q_p_if, q_p_if, q_p_if]
  show Qm T L p0 h0 _ (g9_takesNurse_40_b54 (f9_takesNurse_40_l54 F) (nI (2 + 1)) h3)
  unfold g9_takesNurse_40_b54
  rw [if_pos (show (3 : Int32) ≤ nI (2 + 1) by decide), k3 40 (by omega), d2, jl, w1, nI_add]
  have smf : Sm h0 (jv_p h3 40 22 (nI (m + 1))) := by
    rw [← hG]
    exact (((sm.p _ _ _ (by unfold jq_s; omega)).p _ _ _ (by unfold jq_s; omega)).p _ _ _ (by unfold jq_s; omega)).p _ _ _ (by unfold jq_s; omega)
  have smh : Sm h (jv_p h3 40 22 (nI (m + 1))) := by
    rw [← hG]
    exact ((((Sm.rf h).p _ _ _ (by unfold jq_s; omega)).p _ _ _ (by unfold jq_s; omega)).p _ _ _ (by unfold jq_s; omega)).p _ _ _ (by unfold jq_s; omega)
  refine m_sem (so := 0) (x := x) smf ⟨s1.sm smh, ⟨?_, q_p_same _ _ _ _, fun t ht => ?_, fun k hk => ?_⟩, s3.eq (fun j h1 h2 => by rw [q_p_j _ (by omega), k3 40 (by omega)]), fun j hj => by omega⟩ hp0 hp
  · rw [q_p_j _ (by omega), k3 40 (by omega)]; exact d1
  · have u : ∀ j, j < 24 → (jv_p h3 40 22 (nI (m + 1))).1 53 j = h.1 53 j := fun j hj => by
      rw [q_p_k _ (by omega), v3]
      simp (disch := omega) only [if_neg]
    have z : ∀ i t, ¬ i = 3 → ¬ i = 4 → ¬ i = 5 → addN E m (x 0) (x 1) (x 2) i t = E i t := fun i t h1 h2 h3 => by simp [addN, h1, h2, h3]
    rw [u _ (by omega), u _ (by omega), u _ (by omega), u _ (by omega), z 6 t (by omega) (by omega) (by omega), z 0 t (by omega) (by omega) (by omega), z 1 t (by omega) (by omega) (by omega), z 2 t (by omega) (by omega) (by omega)]
    exact d3 t ht
  · have u : ∀ j, (jv_p h3 40 22 (nI (m + 1))).1 53 j = if j = 24 + 3 * m + 2 then nI (x 2) else if j = 24 + 3 * m + 1 then nI (x 1) else if j = 24 + 3 * m + 0 then nI (x 0) else h.1 53 j := fun j => by rw [q_p_k _ (by omega), v3]
    rw [u, u, u]
    by_cases q : k = m
    · subst q
      simp (disch := omega) only [if_neg, if_pos]
      simp only [addN, if_true, and_self, true_and, and_true, show ¬ (4 : Nat) = 3 by omega, show ¬ (5 : Nat) = 3 by omega, show ¬ (5 : Nat) = 4 by omega, if_false]
    · simp (disch := omega) only [if_neg]
      simp only [addN, q, and_false, if_false]
      exact d4 k (by omega)
end MR
