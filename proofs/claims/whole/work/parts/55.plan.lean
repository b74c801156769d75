/-! plan -/
def cv (M x : Nat) : Int32 := if x = M then -9 else nI x
theorem Sm.y {h h1 : jv_H} (a : Sm h h1) (k l : Nat) (i j n : Int32) (hs : ∀ j, jq_s l j) : Sm h (jv_y h1 k l i j n) := ⟨fun k' j' q => by
  rw [← a.1 k' j' q]
  by_cases e : k' = l
  · subst e
    exact absurd (hs j') q
  · rw [q_y_k _ e], a.2⟩
theorem iv_sub {B d k n c : Nat} (hn : n < B) (h1 : (k * B + n) * B ^ d ≤ c) (h2 : c < (k * B + n) * B ^ d + B ^ d) : k * B ^ (d + 1) ≤ c ∧ c < k * B ^ (d + 1) + B ^ (d + 1) := by
  have e1 : k * B ^ (d + 1) = k * B * B ^ d := by rw [Nat.pow_succ, Nat.mul_assoc, Nat.mul_comm (B ^ d)]
  have e2 : (k * B + n) * B ^ d = k * B * B ^ d + n * B ^ d := Nat.add_mul _ _ _
  have e3 : B ^ (d + 1) = B * B ^ d := by rw [Nat.pow_succ, Nat.mul_comm]
  have e4 : (n + 1) * B ^ d ≤ B * B ^ d := Nat.mul_le_mul_right _ hn
  rw [Nat.succ_mul] at e4
  rw [e1, e3]
  omega
theorem cn_add_le (p : Nat → Bool) (t : Nat) : ∀ d, cn p (t + d) ≤ cn p t + d
  | 0 => Nat.le_refl _
  | d + 1 => by
    have := cn_add_le p t d
    show cn p (t + d) + (if p (t + d) then 1 else 0) ≤ _
    split <;> omega
def ext (g : Nat → Nat) (t n : Nat) : Nat → Nat := fun e => if e = t then n else g e
theorem ext_t (g : Nat → Nat) (t n : Nat) : ext g t n t = n := if_pos rfl
theorem ext_e (g : Nat → Nat) {t n e : Nat} (h : ¬ e = t) : ext g t n e = g e := if_neg h
theorem pm_ext (g : Nat → Nat) (t n n' : Nat) : pm (ext g t n) n' (t + 1) = pm g n' t + if n = n' then 2 ^ t else 0 := by
  unfold pm
  rw [bs, ext_t, bs_cong (q := fun e => decide (g e = n')) (fun e he => by rw [ext_e g (by omega)])]
  simp only [decide_eq_true_eq]
theorem pm_lt (g : Nat → Nat) (n t : Nat) : pm g n t < 2 ^ t := bs_lt _ t
def okc (D : Nat → Nat → Nat) (ht : Nat → Nat) (N M c : Nat) : Bool := okr D ht N M (dg (M + 1) N c) N
def vlc (N M c : Nat) : Nat := cn (fun s => !decide (dg (M + 1) N c s = M)) N
theorem vlc_le (N M c : Nat) : vlc N M c ≤ N := cn_le _ _
section PLN
variable {N M P y : Nat} {D : Nat → Nat → Nat} {ht : Nat → Nat} {pl : Nat → Int32} {ow : Nat → Nat}
theorem okc_iff (h6 : N ≤ 6) (CS : ∀ s t, s < N → t < N → (D 2 s).testBit t = (D 2 t).testBit s) (c : Nat) : okc D ht N M c = true ↔ Pg D ht M (dg (M + 1) N c) N := by
  unfold okc
  rw [okr_iff (fun e _ => Nat.le_of_lt_succ (dg_lt (by omega))) N (Nat.le_refl _), Pg_iff h6 CS]
  exact ⟨fun h e => h e (by omega), fun h e _ => h e⟩
def PL (h : jv_H) (N M t : Nat) (g : Nat → Nat) (s : Nat × Nat) : Prop := (∀ n, n < M → h.1 25 n = nI (pm g n t)) ∧ (∀ e, e < t → h.1 24 e = cv M (g e)) ∧ h.1 23 6 = enc s.1 ∧ (0 < s.1 → ∀ e, e < N → h.1 27 e = cv M (dg (M + 1) N s.2 e))
theorem q_tp (h6 : N ≤ 6) (m4 : M ≤ 4) (CS : ∀ s t, s < N → t < N → (D 2 s).testBit t = (D 2 t).testBit s) : ∀ (d t fuel : Nat) (h : jv_H) (k : Nat) (g : Nat → Nat) (s : Nat × Nat), Vc h N M P y D ht pl ow → t + d = N → d < fuel → (∀ e, e < t → g e ≤ M) → Pg D ht M g t → PL h N M t g s → s.1 ≤ N + 1 → (∀ c, k * (M + 1) ^ d ≤ c → c < k * (M + 1) ^ d + (M + 1) ^ d → ∀ e, e < t → dg (M + 1) N c e = g e) → ∃ h', f6_tryPlaces_23 fuel (nI t) (nI (cn (fun e => !decide (g e = M)) t)) h = some ((), h') ∧ Sm h h' ∧ PL h' N M t g (fc (okc D ht N M) (vlc N M) ((M + 1) ^ d) (k * (M + 1) ^ d) s) := by
  intro d
  induction d with
  | zero =>
    intro t fuel h k g s V htd hf hg hP hL hs hiv
    obtain ⟨f, rfl⟩ : ∃ n, fuel = n + 1 := ⟨fuel - 1, by omega⟩
    have : t = N := by omega
    subst this
    obtain ⟨L1, L2, L3, L4⟩ := hL
    have hcn := cn_le (fun e => !decide (g e = M)) t
    rw [Nat.pow_zero, Nat.mul_one] at hiv ⊢
    have hgk := hiv k (Nat.le_refl _) (by omega)
    have hok : okc D ht t M k = true := by
      rw [okc_iff h6 CS]
      intro e he hM
      have := hP e he (by rw [← hgk e he]; exact hM)
      rw [← hgk e he] at this
      unfold pm at this ⊢
      rw [bs_cong (q := fun s => decide (g s = dg (M + 1) t k e)) (fun s hs => by rw [hgk s (by omega)])]
      exact this
    have hval : vlc t M k = cn (fun e => !decide (g e = M)) t := cn_cong (fun e he => by rw [hgk e he])
    show ∃ h', g6_tryPlaces_23 (f6_tryPlaces_23 f) _ _ h = _ ∧ _ ∧ PL h' t M t g (stp (okc D ht t M) (vlc t M) s k)
    unfold g6_tryPlaces_23 g6_tryPlaces_23_b42 stp
    rw [V.nt, L3, nI_add, pk_sub (by omega), Nat.add_sub_cancel, hok, hval, Bool.true_and]
    by_cases q : s.1 ≤ cn (fun e => !decide (g e = M)) t
    · rw [if_pos (by rw [enc_lt (by omega) (by omega)]; exact q), if_pos (by rw [q_le (by omega) (by omega)]; omega), if_pos (by simpa using q)]
      simp only [jl]
      rw [if_pos (by decide)]
      refine ⟨_, rfl, ((Sm.rf h).p _ _ _ (by unfold jq_s; omega)).y _ _ _ _ _ (fun j => by unfold jq_s; omega), fun n hn => ?_, fun e he => ?_, ?_, fun _ e he => ?_⟩
      · rw [q_y_k _ (by omega), q_p_k _ (by omega)]; exact L1 n hn
      · rw [q_y_k _ (by omega), q_p_k _ (by omega)]; exact L2 e he
      · rw [q_y_k _ (by omega), q_p_same, enc_s]
      · rw [q_y_b, show Int32.toNatClampNeg (0 : Int32) = 0 from rfl, show Int32.toNatClampNeg (6 : Int32) = 6 from rfl, if_pos (by omega), q_p_k _ (by omega), show 0 + (e - 0) = e by omega, L2 e he, hgk e he]
    · rw [if_neg (by rw [enc_lt (by omega) (by omega)]; exact q), if_neg (by simpa using q)]
      exact ⟨h, rfl, Sm.rf h, L1, L2, L3, L4⟩
  | succ d ih =>
    intro t fuel h k g s V htd hf hg hP hL hs hiv
    obtain ⟨f, rfl⟩ : ∃ n, fuel = n + 1 := ⟨fuel - 1, by omega⟩
    have hcn := cn_le (fun e => !decide (g e = M)) t
    have hB : 0 < M + 1 := by omega
    have hivc : ∀ n, n < M + 1 → ∀ c, (k * (M + 1) + n) * (M + 1) ^ d ≤ c → c < (k * (M + 1) + n) * (M + 1) ^ d + (M + 1) ^ d → ∀ e, e < t + 1 → dg (M + 1) N c e = ext g t n e := by
      intro n hn c c1 c2 e he
      by_cases q : e = t
      · subst q
        rw [ext_t]
        exact dg_in hB hn (by omega) c1 c2
      · rw [ext_e g q]
        have := iv_sub hn c1 c2
        exact hiv c this.1 this.2 e (by omega)
    have hsk : ∀ n s, n < M → mj D ht t n (pm g n t) = false → fc (okc D ht N M) (vlc N M) ((M + 1) ^ d) ((k * (M + 1) + n) * (M + 1) ^ d) s = s := by
      intro n s hn hmj
      apply fc_skip
      intro c c1 c2
      have hno : okc D ht N M c = false := by
        cases hq : okc D ht N M c with
        | false => rfl
        | true =>
          rw [okc_iff h6 CS] at hq
          have ht1 := hivc n (by omega) c c1 c2
          have e1 := ht1 t (by omega)
          rw [ext_t] at e1
          have := hq t (by omega) (by omega)
          rw [e1] at this
          unfold pm at this hmj
          rw [bs_cong (q := fun s => decide (g s = n)) (fun s hs => by rw [ht1 s (by omega), ext_e g (by omega)]), hmj] at this
          exact absurd this (by decide)
      unfold stp
      rw [hno]
      rfl
    -- the child with digit n
    have child : ∀ n (h : jv_H) (s : Nat × Nat), n ≤ M → (n < M → mj D ht t n (pm g n t) = true) → Vc h N M P y D ht pl ow → s.1 ≤ N + 1 → PL h N M (t + 1) (ext g t n) s → ∃ h', f6_tryPlaces_23 f (nI (t + 1)) (nI (cn (fun e => !decide (g e = M)) t + if n = M then 0 else 1)) h = some ((), h') ∧ Sm h h' ∧ PL h' N M (t + 1) (ext g t n) (fc (okc D ht N M) (vlc N M) ((M + 1) ^ d) ((k * (M + 1) + n) * (M + 1) ^ d) s) := by
      intro n h s hn hmj V hs hL
      have := ih (t + 1) f h (k * (M + 1) + n) (ext g t n) s V (by omega) (by omega) (fun e he => by
        by_cases q : e = t
        · subst q; rw [ext_t]; exact hn
        · rw [ext_e g q]; exact hg e (by omega)) (fun e he heM => by
        by_cases q : e = t
        · subst q
          rw [ext_t] at heM ⊢
          have := hmj heM
          unfold pm at this ⊢
          rw [bs_cong (q := fun s => decide (g s = n)) (fun s hs => by rw [ext_e g (by omega)])]
          exact this
        · rw [ext_e g q] at heM ⊢
          have := hP e (by omega) heM
          unfold pm at this ⊢
          rw [bs_cong (q := fun s => decide (g s = g e)) (fun s hs => by rw [ext_e g (by omega)])]
          exact this) hL hs (hivc n (by omega))
      rw [show cn (fun e => !decide (ext g t n e = M)) (t + 1) = cn (fun e => !decide (g e = M)) t + if n = M then 0 else 1 from by
        rw [cn, ext_t, cn_cong (q := fun e => !decide (g e = M)) (fun e he => by rw [ext_e g (by omega)])]
        by_cases q : n = M <;> simp [q]] at this
      exact this
    have loop : ∀ (j n fuel : Nat) (h : jv_H) (s : Nat × Nat), n + j = M → j < fuel → Vc h N M P y D ht pl ow → s.1 ≤ N + 1 → PL h N M t g s → ∃ h', f6_tryPlaces_23_l65 (f6_tryPlaces_23 f) fuel (nI t) (nI (cn (fun e => !decide (g e = M)) t)) (nI n) h = some ((), h') ∧ Sm h h' ∧ PL h' N M t g (fc (okc D ht N M) (vlc N M) ((j + 1) * (M + 1) ^ d) ((k * (M + 1) + n) * (M + 1) ^ d) s) := by
      intro j
      induction j with
      | zero =>
        intro n fuel h s hn hf V hs hL
        obtain ⟨u, rfl⟩ : ∃ n, fuel = n + 1 := ⟨fuel - 1, by omega⟩
        have : n = M := by omega
        subst this
        obtain ⟨L1, L2, L3, L4⟩ := hL
        have s1 : Sm h (jv_p h 24 t (-9)) := (Sm.rf h).p _ _ _ (by unfold jq_s; omega)
        obtain ⟨h', c1, c2, M1, M2, M3, M4⟩ := child n (jv_p h 24 t (-9)) s (Nat.le_refl _) (fun q => by omega) (V.sm s1) hs ⟨fun n' hn' => by rw [q_p_k _ (by omega), L1 n' hn', pm_ext, if_neg (by omega), Nat.add_zero], fun e he => by
            rw [q_p_if]
            by_cases q : e = t
            · subst q
              rw [if_pos rfl, ext_t]
              exact (if_pos rfl).symm
            · rw [if_neg q, ext_e g q, L2 e (by omega)], by rw [q_p_k _ (by omega)]; exact L3, fun q e he => by rw [q_p_k _ (by omega)]; exact L4 q e he⟩
        rw [Nat.zero_add, Nat.one_mul]
        rw [if_pos rfl] at c1
        have c1 : f6_tryPlaces_23 f (nI (t + 1)) (nI (cn (fun e => !decide (g e = n)) t)) (jv_p h 24 t (-9)) = some ((), h') := c1
        refine ⟨h', ?_, s1.tr c2, fun n' hn' => by rw [M1 n' hn', pm_ext, if_neg (by omega), Nat.add_zero], fun e he => by rw [M2 e (by omega), ext_e g (by omega)], M3, M4⟩
        show g6_tryPlaces_23_b65 (f6_tryPlaces_23 f) (f6_tryPlaces_23_l65 (f6_tryPlaces_23 f) u) _ _ _ h = _
        unfold g6_tryPlaces_23_b65
        rw [V.nn, if_pos (by rw [q_le (by omega) (by omega)]; omega), if_pos (by rw [q_ix (by omega)]; omega), q_cl (by omega)]
        simp only [jl]
        rw [show nI t + (1 : Int32) = nI (t + 1) from by rw [w1, nI_add], c1, ob]
      | succ j ihj =>
        intro n fuel h s hn hf V hs hL
        obtain ⟨u, rfl⟩ : ∃ n, fuel = n + 1 := ⟨fuel - 1, by omega⟩
        obtain ⟨L1, L2, L3, L4⟩ := id hL
        have p64 : pm g n t < 64 := bs_64 _ (by omega)
        have esp : fc (okc D ht N M) (vlc N M) ((j + 1 + 1) * (M + 1) ^ d) ((k * (M + 1) + n) * (M + 1) ^ d) s = fc (okc D ht N M) (vlc N M) ((j + 1) * (M + 1) ^ d) ((k * (M + 1) + (n + 1)) * (M + 1) ^ d) (fc (okc D ht N M) (vlc N M) ((M + 1) ^ d) ((k * (M + 1) + n) * (M + 1) ^ d) s) := by
          rw [show (j + 1 + 1) * (M + 1) ^ d = (M + 1) ^ d + (j + 1) * (M + 1) ^ d from by rw [Nat.succ_mul, Nat.add_comm], fc_add, show (k * (M + 1) + n) * (M + 1) ^ d + (M + 1) ^ d = (k * (M + 1) + (n + 1)) * (M + 1) ^ d from by rw [← Nat.add_assoc, Nat.succ_mul]]
        rw [esp]
        show ∃ h', g6_tryPlaces_23_b65 (f6_tryPlaces_23 f) (f6_tryPlaces_23_l65 (f6_tryPlaces_23 f) u) _ _ _ h = _ ∧ _
        unfold g6_tryPlaces_23_b65 g6_tryPlaces_23_b142
        rw [V.nn, if_neg (by rw [q_le (by omega) (by omega)]; omega), if_pos (by rw [q_ix (by omega)]; omega), q_cl (by omega), L1 n (by omega)]
        simp only [jl]
        rw [b_mayJoin V (by omega) (by omega) p64, ob, show nI n + (1 : Int32) = nI (n + 1) from by rw [w1, nI_add]]
        cases hmj : mj D ht t n (pm g n t) with
        | false =>
          rw [if_pos (show (if false = true then (1 : Int32) else 0, h).1 = 0 from rfl), hsk n s (by omega) hmj]
          exact ihj (n + 1) u h s (by omega) (by omega) V hs hL
        | true =>
          rw [if_neg (show ¬ (if true = true then (1 : Int32) else 0, h).1 = 0 from (by decide : ¬ (1 : Int32) = 0)), q_bit, ob, if_pos (by rw [q_ix (by omega)]; omega), if_pos (by rw [q_ix (by omega)]; omega), q_cl (by omega), q_or t (by omega) _ p64 (pm_lt g n t)]
          have s1 : Sm h (jv_p (jv_p h 25 n (nI (pm g n t + 2 ^ t))) 24 t (nI n)) := ((Sm.rf h).p _ _ _ (by unfold jq_s; omega)).p _ _ _ (by unfold jq_s; omega)
          obtain ⟨h1, c1, c2, M1, M2, M3, M4⟩ := child n (jv_p (jv_p h 25 n (nI (pm g n t + 2 ^ t))) 24 t (nI n)) s (by omega) (fun _ => hmj) (V.sm s1) hs ⟨fun n' hn' => by
              rw [q_p_k _ (by omega), q_p_if, pm_ext]
              by_cases q : n' = n
              · rw [if_pos q, if_pos q.symm, q]
              · rw [if_neg q, if_neg (fun e => q e.symm), Nat.add_zero, L1 n' hn'], fun e he => by
              rw [q_p_if]
              by_cases q : e = t
              · subst q
                rw [if_pos rfl, ext_t]
                exact (if_neg (by omega)).symm
              · rw [if_neg q, ext_e g q, q_p_k _ (by omega), L2 e (by omega)], by rw [q_p_k _ (by omega), q_p_k _ (by omega)]; exact L3, fun q e he => by rw [q_p_k _ (by omega), q_p_k _ (by omega)]; exact L4 q e he⟩
          rw [if_neg (show ¬ n = M by omega)] at c1
          have s2 : Sm h (jv_p h1 25 n (nI (pm g n t))) := (s1.tr c2).p _ _ _ (by unfold jq_s; omega)
          obtain ⟨h', i1, i2, i3⟩ := ihj (n + 1) u (jv_p h1 25 n (nI (pm g n t))) (fc (okc D ht N M) (vlc N M) ((M + 1) ^ d) ((k * (M + 1) + n) * (M + 1) ^ d) s) (by omega) (by omega) (V.sm s2) (fc_b _ _ (fun c => vlc_le N M c) _ _ _ hs) ⟨fun n' hn' => by
              rw [q_p_if]
              by_cases q : n' = n
              · rw [if_pos q, q]
              · rw [if_neg q, M1 n' hn', pm_ext, if_neg (fun e => q e.symm), Nat.add_zero], fun e he => by rw [q_p_k _ (by omega), M2 e (by omega), ext_e g (by omega)], by rw [q_p_k _ (by omega)]; exact M3, fun q e he => by rw [q_p_k _ (by omega)]; exact M4 q e he⟩
          refine ⟨h', ?_, s2.tr i2, i3⟩
          rw [show nI t + (1 : Int32) = nI (t + 1) from by rw [w1, nI_add], show nI (cn (fun e => !decide (g e = M)) t) + (1 : Int32) = nI (cn (fun e => !decide (g e = M)) t + 1) from by rw [w1, nI_add], c1, ob, if_pos (by rw [q_ix (by omega)]; omega)]
          exact i1
    show ∃ h', g6_tryPlaces_23 (f6_tryPlaces_23 f) _ _ h = _ ∧ _
    unfold g6_tryPlaces_23
    rw [V.nt, hL.2.2.1, nI_add, pk_sub (by omega)]
    by_cases q : s.1 ≤ cn (fun e => !decide (g e = M)) t + N - t
    · rw [if_pos (by rw [enc_lt (by omega) (by omega)]; exact q), if_neg (by rw [q_le (by omega) (by omega)]; omega), if_pos (by rw [w6, q_lt (by omega) (by omega)]; omega)]
      simp only [jl]
      have := loop M 0 jv_fuel h s (by omega) (by unfold jv_fuel; omega) V hs hL
      rw [show (k * (M + 1) + 0) * (M + 1) ^ d = k * (M + 1) ^ (d + 1) from by rw [Nat.add_zero, Nat.pow_succ, Nat.mul_assoc, Nat.mul_comm (M + 1)], show (M + 1) * (M + 1) ^ d = (M + 1) ^ (d + 1) from by rw [Nat.pow_succ, Nat.mul_comm]] at this
      exact this
    · rw [if_neg (by rw [enc_lt (by omega) (by omega)]; exact q)]
      refine ⟨h, rfl, Sm.rf h, ?_⟩
      rw [fc_skip]
      · exact hL
      · intro c c1 c2
        have hv : vlc N M c ≤ cn (fun e => !decide (g e = M)) t + (d + 1) := by
          unfold vlc
          have := cn_add_le (fun s => !decide (dg (M + 1) N c s = M)) t (d + 1)
          rw [htd, cn_cong (n := t) (q := fun e => !decide (g e = M)) (fun e he => by rw [hiv c c1 c2 e he])] at this
          exact this
        unfold stp
        rw [if_neg]
        simp only [Bool.and_eq_true, decide_eq_true_eq]
        omega
theorem q_fill25 (h : jv_H) : fj7_fill_53178_25 0 h = some ((), jv_s h 25 (fun i => if 0 ≤ i ∧ i < 4 then 0 else h.1 25 i)) := by
  unfold fj7_fill_53178_25
  simp only [jl]
  exact fill_gen fj7_fill_53178_25_l5 25 4 (by omega) 0 (fun f a2 a3 h => by show gj7_fill_53178_25_b5 (fj7_fill_53178_25_l5 f) _ _ _ h = _; unfold gj7_fill_53178_25_b5; simp only [jl]) 4 0 jv_fuel h (by omega) (by unfold jv_fuel; omega)
theorem b_findPlan {h : jv_H} (V : Vc h N M P y D ht pl ow) (CS : ∀ s t, s < N → t < N → (D 2 s).testBit t = (D 2 t).testBit s) : ∃ h', f6_findPlan_23 h = some ((), h') ∧ Sm h h' ∧ PL h' N M 0 (fun _ => 0) (fc (okc D ht N M) (vlc N M) ((M + 1) ^ N) 0 (0, 0)) := by
  have n6 := V.n6
  have m4 := V.m4
  have s1 : Sm h (jv_s (jv_p h 23 6 (-1)) 25 (fun i => if 0 ≤ i ∧ i < 4 then 0 else (jv_p h 23 6 (-1)).1 25 i)) := ((Sm.rf h).p _ _ _ (by unfold jq_s; omega)).s 25 _ (fun j => by unfold jq_s; omega)
  obtain ⟨h', g1, g2, g3⟩ := q_tp n6 m4 CS N 0 jv_deep _ 0 (fun _ => 0) (0, 0) (V.sm s1) (by omega) (by unfold jv_deep; omega) (fun e he => by omega) (fun e he => by omega) ⟨fun n hn => by rw [s_at, if_pos (by omega)]; rfl, fun e he => by omega, by rw [s_ne _ _ (by omega), q_p_same]; rfl, fun q => absurd q (by decide)⟩ (by show 0 ≤ N + 1; omega) (fun c _ _ e he => by omega)
  rw [Nat.zero_mul] at g3
  refine ⟨h', ?_, s1.tr g2, g3⟩
  unfold f6_findPlan_23
  simp only [jl]
  rw [q_fill25, ob]
  have g1 : f6_tryPlaces_23 jv_deep 0 0 (jv_s (jv_p h 23 6 (-1)) 25 (fun i => if 0 ≤ i ∧ i < 4 then 0 else (jv_p h 23 6 (-1)).1 25 i)) = some ((), h') := g1
  rw [g1, ob]
theorem q_pcopy (n6 : N ≤ 6) (k19 : Int32 → Int32 → Int32 → jv_H → Option (Int32 × jv_H)) {a1 a2 a3 : Int32} : ∀ (d i fuel : Nat) (h : jv_H), h.1 40 0 = nI N → i + d = N → d < fuel → f9_plan_40_l66 k19 fuel a1 a2 a3 (nI i) h = g9_plan_40_b95 k19 a1 a2 a3 (jv_s h 56 (fun j => if i ≤ j ∧ j < N then h.1 55 j else h.1 56 j)) := by
  intro d
  induction d with
  | zero =>
    intro i fuel h hN hi hf
    obtain ⟨f, rfl⟩ : ∃ n, fuel = n + 1 := ⟨fuel - 1, by omega⟩
    show g9_plan_40_b66 k19 (f9_plan_40_l66 k19 f) _ _ _ _ h = _
    unfold g9_plan_40_b66
    rw [hN, if_pos (by rw [q_le (by omega) (by omega)]; omega)]
    have : (fun j => if i ≤ j ∧ j < N then h.1 55 j else h.1 56 j) = h.1 56 := by
      funext j
      rw [if_neg (by omega)]
    rw [this]
    congr 1
    unfold jv_s
    ext a : 1
    · funext a
      by_cases ha : a = 56 <;> simp [ha]
    · rfl
  | succ d ih =>
    intro i fuel h hN hi hf
    obtain ⟨f, rfl⟩ : ∃ n, fuel = n + 1 := ⟨fuel - 1, by omega⟩
    show g9_plan_40_b66 k19 (f9_plan_40_l66 k19 f) _ _ _ _ h = _
    unfold g9_plan_40_b66
    rw [hN, if_neg (by rw [q_le (by omega) (by omega)]; omega), if_pos (by rw [q_ix (by omega)]; omega), if_pos (by rw [q_ix (by omega)]; omega), q_cl (by omega)]
    simp only [jl]
    rw [w1, nI_add, ih (i + 1) f _ (by rw [q_p_k _ (by omega)]; exact hN) (by omega) (by omega), s_p]
    congr 2
    funext j
    by_cases hj : j = i
    · subst hj
      simp (disch := omega) only [if_neg, if_pos, q_p_same]
    · by_cases h2 : i ≤ j ∧ j < N
      · simp (disch := omega) only [if_pos, q_p_k]
      · simp (disch := omega) only [if_neg, q_p_j]
theorem bw_le (n6 : N ≤ 6) (m4 : M ≤ 4) : (M + 1) ^ N ≤ 15625 := Nat.le_trans (Nat.pow_le_pow_left (show M + 1 ≤ 5 by omega) N) (Nat.le_trans (Nat.pow_le_pow_right (by omega) n6) (by decide))
theorem q_mplan {a1 : Int32} : ∀ (m c fuel : Nat) (h : jv_H) (s : Nat × Nat), Vm h N M y D ht pl ow → c + m = (M + 1) ^ N → m < fuel → s.1 ≤ N + 1 → (0 < s.1 → ∀ e, e < N → h.1 56 e = nI (dg (M + 1) N s.2 e)) → ∃ h' f', f9_plan_40_l19 fuel a1 (enc s.1) (nI c) h = g9_plan_40_b19 f' a1 (enc (fc (okc D ht N M) (vlc N M) m c s).1) (nI ((M + 1) ^ N)) h' ∧ Sm h h' ∧ (0 < (fc (okc D ht N M) (vlc N M) m c s).1 → ∀ e, e < N → h'.1 56 e = nI (dg (M + 1) N (fc (okc D ht N M) (vlc N M) m c s).2 e)) := by
  intro m
  induction m with
  | zero =>
    intro c fuel h s W hc hf hs h57
    obtain ⟨f, rfl⟩ : ∃ n, fuel = n + 1 := ⟨fuel - 1, by omega⟩
    have : c = (M + 1) ^ N := by omega
    subst this
    exact ⟨h, f9_plan_40_l19 f, rfl, Sm.rf h, h57⟩
  | succ m ih =>
    intro c fuel h s W hc hf hs h57
    obtain ⟨f, rfl⟩ : ∃ n, fuel = n + 1 := ⟨fuel - 1, by omega⟩
    have n6 := W.n6
    have m4 := W.m4
    have bw := bw_le n6 m4
    obtain ⟨h1, f1, f2, f3, f4, f5⟩ := b_mayBe W (c := c) (by omega)
    have s1 : Sm h h1 := ⟨fun k j q => by rw [f2 k (fun e => q (by unfold jq_s; omega)) (fun e => q (by unfold jq_s; omega))], f3⟩
    have W1 := W.sm s1
    have vle := vlc_le N M c
    have hnext : ∀ (h2 : jv_H) (s2 : Nat × Nat), Sm h h2 → s2.1 ≤ N + 1 → (0 < s2.1 → ∀ e, e < N → h2.1 56 e = nI (dg (M + 1) N s2.2 e)) → stp (okc D ht N M) (vlc N M) s c = s2 → ∃ h' f', g9_plan_40_b95 (f9_plan_40_l19 f) a1 (enc s2.1) (nI c) h2 = g9_plan_40_b19 f' a1 (enc (fc (okc D ht N M) (vlc N M) (m + 1) c s).1) (nI ((M + 1) ^ N)) h' ∧ Sm h h' ∧ (0 < (fc (okc D ht N M) (vlc N M) (m + 1) c s).1 → ∀ e, e < N → h'.1 56 e = nI (dg (M + 1) N (fc (okc D ht N M) (vlc N M) (m + 1) c s).2 e)) := by
      intro h2 s2 sm2 hs2 hm2 hst
      obtain ⟨h', f', i1, i2, i3⟩ := ih (c + 1) f h2 s2 (W.sm sm2) (by omega) (by omega) hs2 hm2
      have : fc (okc D ht N M) (vlc N M) (m + 1) c s = fc (okc D ht N M) (vlc N M) m (c + 1) s2 := by rw [← hst]; rfl
      rw [this]
      refine ⟨h', f', ?_, sm2.tr i2, i3⟩
      unfold g9_plan_40_b95
      rw [jl, w1, nI_add]
      exact i1
    show ∃ h' f', g9_plan_40_b19 (f9_plan_40_l19 f) a1 (enc s.1) (nI c) h = _ ∧ _
    conv => enter [1, h', 1, f', 1, 1]; unfold g9_plan_40_b19
    rw [b_ways W, ob, if_neg (by rw [q_le (by omega) (by omega)]; omega), f1, ob]
    cases hok : okr D ht N M (dg (M + 1) N c) N with
    | false =>
      rw [if_pos (show (if false = true then (1 : Int32) else 0, h1).1 = 0 from rfl)]
      exact hnext h1 s s1 hs (fun q e he => by rw [f2 56 (by omega) (by omega)]; exact h57 q e he) (by unfold stp okc; rw [hok]; rfl)
    | true =>
      have hbits : pc (sf N (dg (M + 1) N c) M 0) = cn (fun s => decide (dg (M + 1) N c s = M)) N := by
        unfold sf
        rw [pc_bs _ N n6]
        exact cn_cong (fun t _ => by simp)
      have hnot := cn_not (fun s => decide (dg (M + 1) N c s = M)) N
      have hvl : N - cn (fun s => decide (dg (M + 1) N c s = M)) N = vlc N M c := by
        unfold vlc
        omega
      have W57 : ∀ e, h1.1 56 e = h.1 56 e := fun e => by rw [f2 56 (by omega) (by omega)]
      rw [if_neg (show ¬ (if true = true then (1 : Int32) else 0, h1).1 = 0 from (by decide : ¬ (1 : Int32) = 0)), W1.nn, if_pos (by rw [q_ix (by omega)]; omega), q_cl (by omega), f5 M (Nat.le_refl _), q_bits (show sf N (dg (M + 1) N c) M 0 < 64 from bs_64 _ n6), ob, jl, hbits, W1.nt, pk_sub (by omega), hvl]
      by_cases q : s.1 ≤ vlc N M c
      · rw [if_neg (by rw [enc_ge (by omega) (by omega)]; omega), jl, jl, w0, q_pcopy n6 (f9_plan_40_l19 f) N 0 jv_fuel h1 W1.nt (by omega) (by unfold jv_fuel; omega)]
        exact hnext _ (vlc N M c + 1, c) (s1.s 56 _ (fun j => by unfold jq_s; omega)) (by show vlc N M c + 1 ≤ N + 1; omega) (fun _ e he => by rw [s_at, if_pos (by omega)]; exact f4 e he) (by unfold stp okc; rw [hok, Bool.true_and, if_pos (by simpa using q)])
      · rw [if_pos (by rw [enc_ge (by omega) (by omega)]; omega)]
        exact hnext h1 s s1 hs (fun q e he => by rw [W57]; exact h57 q e he) (by unfold stp okc; rw [hok, Bool.true_and, if_neg (by simpa using q)])
theorem okc_top (n6 : N ≤ 6) (CS : ∀ s t, s < N → t < N → (D 2 s).testBit t = (D 2 t).testBit s) : ∃ c, c < (M + 1) ^ N ∧ okc D ht N M c = true := by
  obtain ⟨c, c1, c2⟩ := dg_all (B := M + 1) (by omega) N (fun _ => M) (fun e _ => by omega)
  refine ⟨c, c1, ?_⟩
  rw [okc_iff n6 CS]
  intro e he hM
  rw [c2 e he] at hM
  omega
end PLN
theorem p_plan : ok_plan Inv := by
  intro a h hI
  obtain ⟨N, M, P, y, D, ht, pl, ow, V, W, CS, -⟩ := hI.vw
  have n6 := V.n6
  have m4 := V.m4
  have h10 : ¬ (1 : Int32) = 0 := by decide
  have bw := bw_le n6 m4
  obtain ⟨h1, f1, f2, L1, L2, L3, L4⟩ := b_findPlan V CS
  obtain ⟨h2, f', g1, g2, g3⟩ := q_mplan (a1 := a) ((M + 1) ^ N) 0 jv_fuel h1 (0, 0) (W.sm f2) (by omega) (by unfold jv_fuel; omega) (by show 0 ≤ N + 1; omega) (fun q => absurd q (by decide))
  obtain ⟨c, c1, c2⟩ := okc_top (M := M) (ht := ht) n6 CS
  have hpos := fc_pos (okc D ht N M) (vlc N M) ((M + 1) ^ N) 0 (0, 0) c (by omega) (by omega) c2
  have L4 := L4 hpos
  have g3 := g3 hpos
  have W2 : Vm h2 N M y D ht pl ow := (W.sm f2).sm g2
  have I2 : Inv h2 := (hI.sm f2).sm g2
  have g1 : f9_plan_40_l19 jv_fuel a (-1) 0 h1 = g9_plan_40_b19 f' a (enc (fc (okc D ht N M) (vlc N M) ((M + 1) ^ N) 0 (0, 0)).1) (nI ((M + 1) ^ N)) h2 := g1
  generalize fc (okc D ht N M) (vlc N M) ((M + 1) ^ N) 0 (0, 0) = s at *
  have fin : g9_plan_40_b15 a h1 = if a = -1 then some (enc s.1, h2) else if jv_ix a 6 then if h2.1 56 (Int32.toNatClampNeg a) = h2.1 40 1 then some (-9, h2) else if jv_ix a 6 then some (h2.1 56 (Int32.toNatClampNeg a), h2) else none else none := by
    unfold g9_plan_40_b15
    rw [jl, jl, g1]
    unfold g9_plan_40_b19
    rw [b_ways W2, ob, if_pos (by rw [q_le (by omega) (by omega)]; omega)]
  by_cases ha : a = -1
  · refine ⟨enc s.1, h1, h2, ?_, ?_, I2⟩
    · unfold f8_plan_0 g8_plan_0_b18
      rw [if_pos ha, f1, ob, if_pos ha, L3]
    · unfold f9_plan_40
      rw [if_pos ha, fin, if_pos ha]
  · rcases q_arg a N (by omega) with ⟨t, htN, rfl⟩ | hb
    · have hb : 0 ≤ (nI t).toInt ∧ (nI t).toInt < N := by rw [q_ti (by omega)]; omega
      have hdg : dg (M + 1) N s.2 t < M + 1 := dg_lt (by omega)
      refine ⟨cv M (dg (M + 1) N s.2 t), h1, h2, ?_, ?_, I2⟩
      · unfold f8_plan_0 g8_plan_0_b18
        simp only [if_neg ha, q_hasT _ V.nt n6, ob, if_pos hb, if_neg h10, f1]
        rw [if_pos (by rw [q_ix (by omega)]; omega), q_cl (by omega), L4 t htN]
      · unfold f9_plan_40
        have W1 := W.sm f2
        simp only [if_neg ha, q_isT _ W1.nt n6, ob, if_pos hb, if_neg h10, fin]
        rw [if_pos (by rw [q_ix (by omega)]; omega), q_cl (by omega), g3 t htN, W2.nn]
        unfold cv
        by_cases q : dg (M + 1) N s.2 t = M
        · rw [if_pos q, if_pos (show nI (dg (M + 1) N s.2 t) = nI M by rw [q])]
        · rw [if_neg q, if_neg (show ¬ nI (dg (M + 1) N s.2 t) = nI M by rw [q_eq (by omega) (by omega)]; exact q), if_pos (by rw [q_ix (by omega)]; omega)]
    · refine ⟨-1, h, h, ?_, ?_, hI⟩
      · unfold f8_plan_0
        simp only [if_neg ha, q_hasT _ V.nt n6, ob, if_neg hb]
        rfl
      · unfold f9_plan_40
        simp only [if_neg ha, q_isT _ W.nt n6, ob, if_neg hb]
        rfl
