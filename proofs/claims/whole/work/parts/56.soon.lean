/-! soonest; now -/
def ct (D : Nat → Nat → Nat) (ht : Nat → Nat) (M t n : Nat) : Nat := if n = M then (if ht t = 0 then 0 else 1000000) else if wb (D 0 t) (D 3 n) 100 0 (ht t) = -9 then 1000000 else (wb (D 0 t) (D 3 n) 100 0 (ht t)).toNatClampNeg
def mxc (c : Nat → Nat → Nat) (g : Nat → Nat) : Nat → Nat
  | 0 => 0
  | t + 1 => if mxc c g t < c t (g t) then c t (g t) else mxc c g t
theorem mxc_le (c : Nat → Nat → Nat) (g : Nat → Nat) (t : Nat) : ∀ d, mxc c g t ≤ mxc c g (t + d)
  | 0 => Nat.le_refl _
  | d + 1 => by
    have := mxc_le c g t d
    show _ ≤ if mxc c g (t + d) < c (t + d) (g (t + d)) then c (t + d) (g (t + d)) else mxc c g (t + d)
    split <;> omega
theorem mxc_ge (c : Nat → Nat → Nat) (g : Nat → Nat) {t N : Nat} (h : t < N) : c t (g t) ≤ mxc c g N := by
  have e := mxc_le c g (t + 1) (N - (t + 1))
  rw [show t + 1 + (N - (t + 1)) = N by omega] at e
  refine Nat.le_trans ?_ e
  show _ ≤ if mxc c g t < c t (g t) then c t (g t) else mxc c g t
  split <;> omega
theorem mxc_cong {c : Nat → Nat → Nat} {g g' : Nat → Nat} : ∀ {n}, (∀ t, t < n → g t = g' t) → mxc c g n = mxc c g' n
  | 0, _ => rfl
  | n + 1, h => by rw [mxc, mxc, mxc_cong (fun t ht => h t (by omega)), h n (by omega)]
theorem mxc_mono {c : Nat → Nat → Nat} {g g' : Nat → Nat} : ∀ {n}, (∀ t, t < n → c t (g t) ≤ c t (g' t)) → mxc c g n ≤ mxc c g' n
  | 0, _ => Nat.le_refl _
  | n + 1, h => by
    have e1 := mxc_mono (c := c) (g := g) (g' := g') (n := n) (fun t ht => h t (by omega))
    have e2 := h n (by omega)
    rw [mxc, mxc]
    split <;> split <;> omega
section SO
variable {N M P y : Nat} {D : Nat → Nat → Nat} {ht : Nat → Nat} {pl : Nat → Int32} {ow : Nat → Nat}
theorem ct_in (t n : Nat) : ct D ht M t n ≤ 99 ∨ ct D ht M t n = 1000000 := by
  unfold ct
  split
  · split <;> omega
  · rcases wb_in (D 0 t) (D 3 n) 100 0 (ht t) with q | ⟨k, k1, k2, q⟩
    · rw [if_pos q]; omega
    · rw [if_neg (by rw [q, q_m9 (by omega)]; exact fun h => h), q, q_cl (by omega)]; omega
theorem ct_z {t n : Nat} (h : ht t = 0) : ct D ht M t n = 0 := by
  unfold ct
  rw [if_pos h]
  split
  · rfl
  · have : wb (D 0 t) (D 3 n) 100 0 (ht t) = nI 0 := by
      show (if ht t = 0 then nI 0 else _) = nI 0
      rw [if_pos h]
    rw [this, if_neg (by decide)]
    rfl
theorem mx_in (g : Nat → Nat) : ∀ n, mxc (ct D ht M) g n ≤ 99 ∨ mxc (ct D ht M) g n = 1000000
  | 0 => Or.inl (by show 0 ≤ 99; omega)
  | n + 1 => by
    have e1 := mx_in g n
    have e2 := ct_in (D := D) (ht := ht) (M := M) n (g n)
    rw [mxc]
    split <;> omega
theorem Pg.cg {g g' : Nat → Nat} {t : Nat} (a : Pg D ht M g t) (h : ∀ e, e < t → g' e = g e) : Pg D ht M g' t := by
  intro e he hM
  rw [h e he] at hM ⊢
  have := a e he hM
  unfold pm at this ⊢
  rw [bs_cong (q := fun s => decide (g s = g e)) (fun s hs => by rw [h s (by omega)])]
  exact this
theorem cn_sub {p q : Nat → Bool} : ∀ {n}, (∀ t, t < n → p t = true → q t = true) → cn p n ≤ cn q n
  | 0, _ => Nat.le_refl _
  | n + 1, h => by
    have e1 := cn_sub (p := p) (q := q) (n := n) (fun t ht => h t (by omega))
    have e2 := h n (by omega)
    simp only [cn]
    cases hp : p n with
    | false => simp; omega
    | true => rw [e2 hp]; simp; exact e1
theorem Pg.drop (n6 : N ≤ 6) {g : Nat → Nat} {t : Nat} (a : Pg D ht M g N) : Pg D ht M (ext g t M) N := by
  intro e he hM
  by_cases q : e = t
  · subst q
    rw [ext_t] at hM
    omega
  · rw [ext_e g q] at hM ⊢
    have h0 := mj_iff.mp (a e he hM)
    have sub : ∀ s, s < e → decide (ext g t M s = g e) = true → decide (g s = g e) = true := by
      intro s hs hp
      have hp : ext g t M s = g e := by simpa using hp
      by_cases r : s = t
      · subst r
        rw [ext_t] at hp
        omega
      · rw [ext_e g r] at hp
        simpa using hp
    refine mj_iff.mpr ⟨h0.1, ?_, ?_⟩
    · have e1 : pc (pm (ext g t M) (g e) e) = cn (fun s => decide (ext g t M s = g e)) e := pc_bs _ e (by omega)
      have e2 : pc (pm g (g e) e) = cn (fun s => decide (g s = g e)) e := pc_bs _ e (by omega)
      have e3 := cn_sub (p := fun s => decide (ext g t M s = g e)) (q := fun s => decide (g s = g e)) (n := e) sub
      rw [e1]
      rw [e2] at h0
      exact Nat.lt_of_le_of_lt e3 h0.2.1
    · have h1 := h0.2.2
      unfold pm at h1 ⊢
      rw [and0_bs] at h1 ⊢
      exact fun s hs hp => h1 s hs (sub s hs hp)
def YL (h : jv_H) (N M : Nat) (D : Nat → Nat → Nat) (ht : Nat → Nat) (t : Nat) (g : Nat → Nat) (f : Nat) : Prop := (∀ n, n < M → h.1 25 n = nI (pm g n t)) ∧ (∀ n e, n < M → e < N → h.1 26 (n * 6 + e) = wb (D 0 e) (D 3 n) 100 0 (ht e)) ∧ h.1 23 4 = nI f
def Ye (N M : Nat) (D : Nat → Nat → Nat) (ht : Nat → Nat) (t : Nat) (g : Nat → Nat) (f f' : Nat) : Prop := f' ≤ f ∧ (∀ g' : Nat → Nat, (∀ e, e < t → g' e = g e) → (∀ e, e < N → g' e ≤ M) → Pg D ht M g' N → f' ≤ mxc (ct D ht M) g' N) ∧ (f' = f ∨ ∃ g' : Nat → Nat, (∀ e, e < N → g' e ≤ M) ∧ Pg D ht M g' N ∧ mxc (ct D ht M) g' N = f')
theorem q_ty (h6 : N ≤ 6) (m4 : M ≤ 4) : ∀ (d t fuel : Nat) (h : jv_H) (g : Nat → Nat) (f : Nat), Vc h N M P y D ht pl ow → t + d = N → d < fuel → (∀ e, e < t → g e ≤ M) → Pg D ht M g t → YL h N M D ht t g f → f ≤ 100 → mxc (ct D ht M) g t ≤ 1000000 → ∃ h' f', f6_tryYears_23 fuel (nI t) (nI (mxc (ct D ht M) g t)) h = some ((), h') ∧ Sm h h' ∧ YL h' N M D ht t g f' ∧ Ye N M D ht t g f f' := by
  intro d
  induction d with
  | zero =>
    intro t fuel h g f V htd hf hg hP hL hf1 hmx
    obtain ⟨u, rfl⟩ : ∃ n, fuel = n + 1 := ⟨fuel - 1, by omega⟩
    have : t = N := by omega
    subst this
    obtain ⟨L1, L2, L3⟩ := hL
    show ∃ h' f', g6_tryYears_23 (f6_tryYears_23 u) _ _ h = _ ∧ _
    unfold g6_tryYears_23
    rw [L3, V.nt]
    by_cases q : mxc (ct D ht M) g t < f
    · rw [if_pos (by rw [q_lt (by omega) (by omega)]; exact q), if_pos (by rw [q_le (by omega) (by omega)]; omega), jl]
      refine ⟨_, mxc (ct D ht M) g t, rfl, (Sm.rf h).p _ _ _ (by unfold jq_s; omega), ⟨fun n hn => by rw [q_p_k _ (by omega)]; exact L1 n hn, fun n e hn he => by rw [q_p_k _ (by omega)]; exact L2 n e hn he, q_p_same _ _ _ _⟩, by omega, fun g' e1 e2 e3 => by rw [mxc_cong e1]; exact Nat.le_refl _, Or.inr ⟨g, hg, hP, rfl⟩⟩
    · rw [if_neg (by rw [q_lt (by omega) (by omega)]; exact q)]
      refine ⟨h, f, rfl, Sm.rf h, ⟨L1, L2, L3⟩, Nat.le_refl _, fun g' e1 e2 e3 => by rw [mxc_cong e1]; omega, Or.inl rfl⟩
  | succ d ih =>
    intro t fuel h g f V htd hf hg hP hL hf1 hmx
    obtain ⟨u, rfl⟩ : ∃ n, fuel = n + 1 := ⟨fuel - 1, by omega⟩
    have hh := V.hea (show t < N by omega)
    have h9 := hh.1
    have prune : f ≤ mxc (ct D ht M) g t → Ye N M D ht t g f f := by
      intro q
      refine ⟨Nat.le_refl _, fun g' e1 e2 e3 => ?_, Or.inl rfl⟩
      have := mxc_le (ct D ht M) g' t (d + 1)
      rw [htd, mxc_cong (n := t) e1] at this
      omega
    -- the child with digit n
    have child : ∀ n (h : jv_H) (f : Nat), n ≤ M → (n < M → mj D ht t n (pm g n t) = true) → Vc h N M P y D ht pl ow → f ≤ 100 → YL h N M D ht (t + 1) (ext g t n) f → ∃ h' f', f6_tryYears_23 u (nI (t + 1)) (nI (if mxc (ct D ht M) g t < ct D ht M t n then ct D ht M t n else mxc (ct D ht M) g t)) h = some ((), h') ∧ Sm h h' ∧ YL h' N M D ht (t + 1) (ext g t n) f' ∧ Ye N M D ht (t + 1) (ext g t n) f f' := by
      intro n h f hn hmj V hs hL
      have hci := ct_in (D := D) (ht := ht) (M := M) t n
      have emx : mxc (ct D ht M) (ext g t n) (t + 1) = if mxc (ct D ht M) g t < ct D ht M t n then ct D ht M t n else mxc (ct D ht M) g t := by
        rw [mxc, ext_t, mxc_cong (g' := g) (fun e he => ext_e g (by omega))]
      have := ih (t + 1) u h (ext g t n) f V (by omega) (by omega) (fun e he => by
        by_cases q : e = t
        · subst q; rw [ext_t]; exact hn
        · rw [ext_e g q]; exact hg e (by omega)) (fun e he heM => by
        by_cases q : e = t
        · subst q
          rw [ext_t] at heM ⊢
          have := hmj heM
          unfold pm at this ⊢
          rw [bs_cong (q := fun s => decide (g s = n)) (fun s hs => by rw [ext_e g (by omega)])]
          exact this
        · rw [ext_e g q] at heM ⊢
          have := hP e (by omega) heM
          unfold pm at this ⊢
          rw [bs_cong (q := fun s => decide (g s = g e)) (fun s hs => by rw [ext_e g (by omega)])]
          exact this) hL hs (by rw [emx]; split <;> omega)
      rw [emx] at this
      exact this
    have loop : ¬ ht t = 0 → ∀ (j n fuel : Nat) (h : jv_H) (f0 f : Nat), n + j = M → j < fuel → Vc h N M P y D ht pl ow → f ≤ 100 → YL h N M D ht t g f → f ≤ f0 → (∀ g' : Nat → Nat, (∀ e, e < t → g' e = g e) → g' t < n → (∀ e, e < N → g' e ≤ M) → Pg D ht M g' N → f ≤ mxc (ct D ht M) g' N) → (f = f0 ∨ ∃ g' : Nat → Nat, (∀ e, e < N → g' e ≤ M) ∧ Pg D ht M g' N ∧ mxc (ct D ht M) g' N = f) → ∃ h' f', f6_tryYears_23_l60 (f6_tryYears_23 u) fuel (nI t) (nI (mxc (ct D ht M) g t)) (nI n) h = some ((), h') ∧ Sm h h' ∧ YL h' N M D ht t g f' ∧ Ye N M D ht t g f0 f' := by
      intro hh0 j
      induction j with
      | zero =>
        intro n fuel h f0 f hn hf V hs hL h1 h2 h3
        obtain ⟨u', rfl⟩ : ∃ n, fuel = n + 1 := ⟨fuel - 1, by omega⟩
        have : n = M := by omega
        subst this
        refine ⟨h, f, ?_, Sm.rf h, hL, h1, fun g' e1 e2 e3 => ?_, h3⟩
        · show g6_tryYears_23_b60 (f6_tryYears_23 u) (f6_tryYears_23_l60 (f6_tryYears_23 u) u') _ _ _ h = _
          unfold g6_tryYears_23_b60
          rw [V.nn, if_pos (by rw [q_le (by omega) (by omega)]; omega)]
        · by_cases q : g' t < n
          · exact h2 g' e1 q e2 e3
          · have hgt := e2 t (by omega)
            have : g' t = n := by omega
            have := mxc_ge (ct D ht n) g' (t := t) (N := N) (by omega)
            rw [‹g' t = n›] at this
            have hc : ct D ht n t n = 1000000 := by
              unfold ct
              rw [if_pos rfl, if_neg hh0]
            omega
      | succ j ihj =>
        intro n fuel h f0 f hn hf V hs hL h1 h2 h3
        obtain ⟨u', rfl⟩ : ∃ n, fuel = n + 1 := ⟨fuel - 1, by omega⟩
        obtain ⟨L1, L2, L3⟩ := id hL
        have p64 : pm g n t < 64 := bs_64 _ (by omega)
        have hnM : n < M := by omega
        -- skipping n
        have skip : (∀ g' : Nat → Nat, (∀ e, e < t → g' e = g e) → g' t = n → (∀ e, e < N → g' e ≤ M) → Pg D ht M g' N → f ≤ mxc (ct D ht M) g' N) → ∃ h' f', f6_tryYears_23_l60 (f6_tryYears_23 u) u' (nI t) (nI (mxc (ct D ht M) g t)) (nI (n + 1)) h = some ((), h') ∧ Sm h h' ∧ YL h' N M D ht t g f' ∧ Ye N M D ht t g f0 f' := by
          intro hq
          exact ihj (n + 1) u' h f0 f (by omega) (by omega) V hs hL h1 (fun g' e1 e2 e3 e4 => by
            by_cases q : g' t = n
            · exact hq g' e1 q e3 e4
            · exact h2 g' e1 (by omega) e3 e4) h3
        have hci := ct_in (D := D) (ht := ht) (M := M) t n
        have hct : ct D ht M t n = if wb (D 0 t) (D 3 n) 100 0 (ht t) = -9 then 1000000 else (wb (D 0 t) (D 3 n) 100 0 (ht t)).toNatClampNeg := by
          unfold ct
          rw [if_neg (by omega)]
        show ∃ h' f', g6_tryYears_23_b60 (f6_tryYears_23 u) (f6_tryYears_23_l60 (f6_tryYears_23 u) u') _ _ _ h = _ ∧ _
        unfold g6_tryYears_23_b60 g6_tryYears_23_b162
        rw [V.nn, if_neg (by rw [q_le (by omega) (by omega)]; omega), if_pos (by rw [q_ix (by omega)]; omega), q_cl (by omega), L1 n (by omega)]
        simp only [jl]
        rw [show nI n * (6 : Int32) + nI t = nI (n * 6 + t) from by rw [w6, pk_mul, nI_add], if_pos (by rw [q_ix (by omega)]; omega), q_cl (by omega), L2 n t hnM (by omega), show nI n + (1 : Int32) = nI (n + 1) from by rw [w1, nI_add]]
        rcases wb_in (D 0 t) (D 3 n) 100 0 (ht t) with q | ⟨x, x1, x2, q⟩
        · rw [if_pos q]
          rw [if_pos q] at hct
          apply skip
          intro g' e1 e2 e3 e4
          have := mxc_ge (ct D ht M) g' (t := t) (N := N) (by omega)
          rw [e2] at this
          omega
        · rw [if_neg (by rw [q, q_m9 (by omega)]; exact fun h => h), q, q_cl (by omega)] at hct
          rw [q, if_neg (by rw [q_m9 (by omega)]; exact fun h => h), L3]
          by_cases q2 : f ≤ x
          · rw [if_pos (by rw [q_le (by omega) (by omega)]; exact q2)]
            apply skip
            intro g' e1 e2 e3 e4
            have := mxc_ge (ct D ht M) g' (t := t) (N := N) (by omega)
            rw [e2] at this
            omega
          · rw [if_neg (by rw [q_le (by omega) (by omega)]; exact q2), b_mayJoin V (by omega) (by omega) p64, ob]
            cases hmj : mj D ht t n (pm g n t) with
            | false =>
              rw [if_pos (show (if false = true then (1 : Int32) else 0, h).1 = 0 from rfl)]
              apply skip
              intro g' e1 e2 e3 e4
              have := e4 t (by omega) (by omega)
              rw [e2] at this
              unfold pm at this hmj
              rw [bs_cong (q := fun s => decide (g s = n)) (fun s hs => by rw [e1 s (by omega)]), hmj] at this
              exact absurd this (by decide)
            | true =>
              rw [if_neg (show ¬ (if true = true then (1 : Int32) else 0, h).1 = 0 from (by decide : ¬ (1 : Int32) = 0)), q_bit, ob, if_pos (by rw [q_ix (by omega)]; omega), q_or t (by omega) _ p64 (pm_lt g n t)]
              have s1 : Sm h (jv_p h 25 n (nI (pm g n t + 2 ^ t))) := (Sm.rf h).p _ _ _ (by unfold jq_s; omega)
              obtain ⟨h1', f1, c1, c2, ⟨M1, M2, M3⟩, ⟨E1, E2, E3⟩⟩ := child n (jv_p h 25 n (nI (pm g n t + 2 ^ t))) f (by omega) (fun _ => hmj) (V.sm s1) hs ⟨fun n' hn' => by
                  rw [q_p_if, pm_ext]
                  by_cases q : n' = n
                  · rw [if_pos q, if_pos q.symm, q]
                  · rw [if_neg q, if_neg (fun e => q e.symm), Nat.add_zero, L1 n' hn'], fun n' e hn' he => by rw [q_p_k _ (by omega)]; exact L2 n' e hn' he, by rw [q_p_k _ (by omega)]; exact L3⟩
              have s2 : Sm h (jv_p h1' 25 n (nI (pm g n t))) := (s1.tr c2).p _ _ _ (by unfold jq_s; omega)
              obtain ⟨h', f', i1, i2, i3, i4⟩ := ihj (n + 1) u' (jv_p h1' 25 n (nI (pm g n t))) f0 f1 (by omega) (by omega) (V.sm s2) (by omega) ⟨fun n' hn' => by
                  rw [q_p_if]
                  by_cases q : n' = n
                  · rw [if_pos q, q]
                  · rw [if_neg q, M1 n' hn', pm_ext, if_neg (fun e => q e.symm), Nat.add_zero], fun n' e hn' he => by rw [q_p_k _ (by omega)]; exact M2 n' e hn' he, by rw [q_p_k _ (by omega)]; exact M3⟩ (by omega) (fun g' e1 e2 e3 e4 => by
                  by_cases q : g' t = n
                  · exact E2 g' (fun e he => by
                      by_cases r : e = t
                      · subst r; rw [ext_t]; exact q
                      · rw [ext_e g r]; exact e1 e (by omega)) e3 e4
                  · have := h2 g' e1 (by omega) e3 e4
                    omega) (by
                  rcases E3 with E3 | E3
                  · rw [E3]; exact h3
                  · exact Or.inr E3)
              refine ⟨h', f', ?_, s2.tr i2, i3, i4⟩
              rw [hct] at c1
              rw [show nI t + (1 : Int32) = nI (t + 1) from by rw [w1, nI_add], show (if nI (mxc (ct D ht M) g t) < nI x then nI x else nI (mxc (ct D ht M) g t)) = nI (if mxc (ct D ht M) g t < x then x else mxc (ct D ht M) g t) from by
                by_cases r : mxc (ct D ht M) g t < x
                · rw [if_pos r, if_pos (by rw [q_lt (by omega) (by omega)]; exact r)]
                · rw [if_neg r, if_neg (by rw [q_lt (by omega) (by omega)]; exact r)], c1, ob, if_pos (by rw [q_ix (by omega)]; omega)]
              exact i1
    show ∃ h' f', g6_tryYears_23 (f6_tryYears_23 u) _ _ h = _ ∧ _
    unfold g6_tryYears_23
    rw [hL.2.2, V.nt]
    by_cases q : mxc (ct D ht M) g t < f
    · rw [if_pos (by rw [q_lt (by omega) (by omega)]; exact q), if_neg (by rw [q_le (by omega) (by omega)]; omega), if_pos (by rw [w6, q_lt (by omega) (by omega)]; omega), q_heat V.p V.p10 (by omega), hh.2, ob]
      by_cases hh0 : ht t = 0
      · rw [if_pos (by rw [q_eq0 (by omega)]; exact hh0)]
        obtain ⟨h', f', c1, c2, ⟨M1, M2, M3⟩, ⟨E1, E2, E3⟩⟩ := child M h f (Nat.le_refl _) (fun q => by omega) V hf1 ⟨fun n' hn' => by rw [hL.1 n' hn', pm_ext, if_neg (by omega), Nat.add_zero], hL.2.1, hL.2.2⟩
        rw [ct_z hh0, if_neg (by omega)] at c1
        refine ⟨h', f', ?_, c2, ⟨fun n' hn' => by rw [M1 n' hn', pm_ext, if_neg (by omega), Nat.add_zero], M2, M3⟩, E1, fun g' e1 e2 e3 => ?_, E3⟩
        · rw [show nI t + (1 : Int32) = nI (t + 1) from by rw [w1, nI_add], c1, ob]
        · refine Nat.le_trans (E2 (ext g' t M) (fun e he => ?_) (fun e he => ?_) (e3.drop h6)) (mxc_mono (fun e he => ?_))
          · by_cases r : e = t
            · subst r; rw [ext_t, ext_t]
            · rw [ext_e _ r, ext_e _ r]; exact e1 e (by omega)
          · by_cases r : e = t
            · subst r; rw [ext_t]; exact Nat.le_refl _
            · rw [ext_e _ r]; exact e2 e he
          · by_cases r : e = t
            · subst r; rw [ext_t, ct_z hh0]; exact Nat.zero_le _
            · rw [ext_e _ r]; exact Nat.le_refl _
      · rw [if_neg (by rw [q_eq0 (by omega)]; exact hh0), jl]
        exact loop hh0 M 0 jv_fuel h f f (by omega) (by unfold jv_fuel; omega) V hf1 hL (Nat.le_refl _) (fun g' _ q => by omega) (Or.inl rfl)
    · rw [if_neg (by rw [q_lt (by omega) (by omega)]; exact q)]
      exact ⟨h, f, rfl, Sm.rf h, hL, prune (by omega)⟩
theorem q_so1 (h6 : N ≤ 6) (m4 : M ≤ 4) (k2 : Int32 → jv_H → Option (Int32 × jv_H)) {t : Nat} (htN : t < N) : ∀ (j n fuel : Nat) (h : jv_H), Vc h N M P y D ht pl ow → n + j = M → j < fuel → (∀ n' e, n' < M → e < N → (e < t ∨ (e = t ∧ n' < n)) → h.1 26 (n' * 6 + e) = wb (D 0 e) (D 3 n') 100 0 (ht e)) → ∃ h', f6_soonest_23_l18 k2 fuel (nI t) (nI n) h = k2 (nI (t + 1)) h' ∧ Sm h h' ∧ ∀ n' e, n' < M → e < N → e < t + 1 → h'.1 26 (n' * 6 + e) = wb (D 0 e) (D 3 n') 100 0 (ht e) := by
  intro j
  induction j with
  | zero =>
    intro n fuel h V hn hf hq
    obtain ⟨u, rfl⟩ : ∃ n, fuel = n + 1 := ⟨fuel - 1, by omega⟩
    refine ⟨h, ?_, Sm.rf h, fun n' e h1 h2 h3 => hq n' e h1 h2 (by omega)⟩
    show g6_soonest_23_b18 k2 (f6_soonest_23_l18 k2 u) _ _ h = _
    unfold g6_soonest_23_b18
    rw [V.nn, if_pos (by rw [q_le (by omega) (by omega)]; omega), jl, w1, nI_add]
  | succ j ih =>
    intro n fuel h V hn hf hq
    obtain ⟨u, rfl⟩ : ∃ n, fuel = n + 1 := ⟨fuel - 1, by omega⟩
    have s1 : Sm h (jv_p h 26 (n * 6 + t) (wb (D 0 t) (D 3 n) 100 0 (ht t))) := (Sm.rf h).p _ _ _ (by unfold jq_s; omega)
    obtain ⟨h', i1, i2, i3⟩ := ih (n + 1) u _ (V.sm s1) (by omega) (by omega) (fun n' e h1 h2 h3 => by
      rw [q_p_if]
      by_cases r : n' * 6 + e = n * 6 + t
      · have e1 : n' = n := by omega
        have e2 : e = t := by omega
        rw [if_pos r, e1, e2]
      · rw [if_neg r]
        exact hq n' e h1 h2 (by omega))
    refine ⟨h', ?_, s1.tr i2, i3⟩
    show g6_soonest_23_b18 k2 (f6_soonest_23_l18 k2 u) _ _ h = _
    unfold g6_soonest_23_b18
    rw [V.nn, if_neg (by rw [q_le (by omega) (by omega)]; omega), b_till V htN (by omega), ob, show nI n * (6 : Int32) + nI t = nI (n * 6 + t) from by rw [w6, pk_mul, nI_add], if_pos (by rw [q_ix (by omega)]; omega), q_cl (by omega), jl, jl, w1, nI_add]
    exact i1
theorem q_so2 (h6 : N ≤ 6) (m4 : M ≤ 4) : ∀ (j t fuel : Nat) (h : jv_H), Vc h N M P y D ht pl ow → t + j = N → j < fuel → (∀ n' e, n' < M → e < N → e < t → h.1 26 (n' * 6 + e) = wb (D 0 e) (D 3 n') 100 0 (ht e)) → ∃ h' f', f6_soonest_23_l2 fuel (nI t) h = some (if f' = 100 then -9 else nI f', h') ∧ Sm h h' ∧ Ye N M D ht 0 (fun _ => 0) 100 f' := by
  intro j
  induction j with
  | zero =>
    intro t fuel h V hn hf hq
    obtain ⟨u, rfl⟩ : ∃ n, fuel = n + 1 := ⟨fuel - 1, by omega⟩
    have s1 : Sm h (jv_s (jv_p h 23 4 100) 25 (fun i => if 0 ≤ i ∧ i < 4 then 0 else (jv_p h 23 4 100).1 25 i)) := ((Sm.rf h).p _ _ _ (by unfold jq_s; omega)).s 25 _ (fun j => by unfold jq_s; omega)
    obtain ⟨h', f', g1, g2, g3, g4⟩ := q_ty h6 m4 N 0 jv_deep _ (fun _ => 0) 100 (V.sm s1) (by omega) (by unfold jv_deep; omega) (fun e he => by omega) (fun e he => by omega) ⟨fun n hn => by rw [s_at, if_pos (by omega)]; rfl, fun n e h1 h2 => by rw [s_ne _ _ (by omega), q_p_k _ (by omega)]; exact hq n e h1 h2 (by omega), by rw [s_ne _ _ (by omega), q_p_same]; rfl⟩ (by omega) (by show 0 ≤ 1000000; omega)
    have g1 : f6_tryYears_23 jv_deep 0 0 (jv_s (jv_p h 23 4 100) 25 (fun i => if 0 ≤ i ∧ i < 4 then 0 else (jv_p h 23 4 100).1 25 i)) = some ((), h') := g1
    refine ⟨h', f', ?_, s1.tr g2, g4⟩
    show g6_soonest_23_b2 (f6_soonest_23_l2 u) _ h = _
    unfold g6_soonest_23_b2
    have fle := g4.1
    rw [V.nt, if_pos (by rw [q_le (by omega) (by omega)]; omega), jl, q_fill25, ob, g1, ob, g3.2.2]
    by_cases r : f' = 100
    · rw [if_pos r, if_pos (by rw [r]; rfl)]
    · rw [if_neg r, if_neg (by rw [w100, q_eq (by omega) (by omega)]; exact r)]
  | succ j ih =>
    intro t fuel h V hn hf hq
    obtain ⟨u, rfl⟩ : ∃ n, fuel = n + 1 := ⟨fuel - 1, by omega⟩
    obtain ⟨h1, i1, i2, i3⟩ := q_so1 h6 m4 (f6_soonest_23_l2 u) (t := t) (by omega) M 0 jv_fuel h V (by omega) (by unfold jv_fuel; omega) (fun n' e q1 q2 q3 => hq n' e q1 q2 (by omega))
    obtain ⟨h', f', j1, j2, j3⟩ := ih (t + 1) u h1 (V.sm i2) (by omega) (by omega) i3
    refine ⟨h', f', ?_, i2.tr j2, j3⟩
    show g6_soonest_23_b2 (f6_soonest_23_l2 u) _ h = _
    unfold g6_soonest_23_b2
    rw [V.nt, if_neg (by rw [q_le (by omega) (by omega)]; omega), jl, w0, i1, j1]
theorem b_soonest {h : jv_H} (V : Vc h N M P y D ht pl ow) : ∃ h' f', f6_soonest_23 h = some (if f' = 100 then -9 else nI f', h') ∧ Sm h h' ∧ Ye N M D ht 0 (fun _ => 0) 100 f' := by
  have n6 := V.n6
  unfold f6_soonest_23
  rw [jl]
  exact q_so2 n6 V.m4 N 0 jv_fuel h V (by omega) (by unfold jv_fuel; omega) (fun n' e _ _ q => by omega)
-- the reference
def Yc (N M : Nat) (D : Nat → Nat → Nat) (ht : Nat → Nat) (c0 b b' : Nat) : Prop := b' ≤ b ∧ (∀ c, c0 ≤ c → c < (M + 1) ^ N → okc D ht N M c = true → b' ≤ mxc (ct D ht M) (dg (M + 1) N c) N) ∧ (b' = b ∨ ∃ c, okc D ht N M c = true ∧ mxc (ct D ht M) (dg (M + 1) N c) N = b')
theorem q_ms3 (k94 : Int32 → Int32 → jv_H → Option (Int32 × jv_H)) {h : jv_H} (W : Vm h N M y D ht pl ow) {g : Nat → Nat} {b : Nat} {c : Int32} (hb : b ≤ 1000000) (hg : ∀ e, e < N → g e ≤ M) (h56 : ∀ e, e < N → h.1 55 e = nI (g e)) (h59 : ∀ e n, e < N → n ≤ M → h.1 58 (5 * e + n) = nI (ct D ht M e n)) : ∀ (j t fuel : Nat), t + j = N → j < fuel → f9_soonest_40_l115 k94 fuel (nI b) c (nI (mxc (ct D ht M) g t)) (nI t) h = k94 (nI (if b ≤ mxc (ct D ht M) g N then b else mxc (ct D ht M) g N)) (c + 1) h := by
  have n6 := W.n6
  have m4 := W.m4
  intro j
  induction j with
  | zero =>
    intro t fuel ht' hf
    obtain ⟨u, rfl⟩ : ∃ n, fuel = n + 1 := ⟨fuel - 1, by omega⟩
    have : t = N := by omega
    subst this
    have hmi := mx_in (D := D) (ht := ht) (M := M) g t
    show g9_soonest_40_b115 k94 (f9_soonest_40_l115 k94 u) _ _ _ _ h = _
    unfold g9_soonest_40_b115 g9_soonest_40_b172 g9_soonest_40_b173
    rw [W.nt, if_pos (by rw [q_le (by omega) (by omega)]; omega)]
    simp only [jl]
    by_cases q : b ≤ mxc (ct D ht M) g t
    · rw [if_pos (by rw [q_le (by omega) (by omega)]; exact q), if_pos q]
    · rw [if_neg (by rw [q_le (by omega) (by omega)]; exact q), if_neg q]
  | succ j ih =>
    intro t fuel ht' hf
    obtain ⟨u, rfl⟩ : ∃ n, fuel = n + 1 := ⟨fuel - 1, by omega⟩
    have hgt := hg t (by omega)
    have hmi := mx_in (D := D) (ht := ht) (M := M) g t
    have hci := ct_in (D := D) (ht := ht) (M := M) t (g t)
    have ih := ih (t + 1) u (by omega) (by omega)
    show g9_soonest_40_b115 k94 (f9_soonest_40_l115 k94 u) _ _ _ _ h = _
    unfold g9_soonest_40_b115 g9_soonest_40_b155
    rw [W.nt, if_neg (by rw [q_le (by omega) (by omega)]; omega), if_pos (by rw [q_ix (by omega)]; omega), q_cl (by omega), h56 t (by omega), show (5 : Int32) * nI t + nI (g t) = nI (5 * t + g t) from by rw [w5, pk_mul, nI_add], if_pos (by rw [q_ix (by omega)]; omega), q_cl (by omega), h59 t (g t) (by omega) hgt]
    simp only [jl]
    rw [show nI t + (1 : Int32) = nI (t + 1) from by rw [w1, nI_add]]
    rw [mxc] at ih
    by_cases q : mxc (ct D ht M) g t < ct D ht M t (g t)
    · rw [if_pos q] at ih
      rw [if_neg (by rw [q_le (by omega) (by omega)]; omega), ih]
    · rw [if_neg q] at ih
      rw [if_pos (by rw [q_le (by omega) (by omega)]; omega), ih]
theorem q_ms2 (CS : ∀ s t, s < N → t < N → (D 2 s).testBit t = (D 2 t).testBit s) : ∀ (m c fuel : Nat) (h : jv_H) (b : Nat), Vm h N M y D ht pl ow → b ≤ 1000000 → (∀ e n, e < N → n ≤ M → h.1 58 (5 * e + n) = nI (ct D ht M e n)) → c + m = (M + 1) ^ N → m < fuel → ∃ h' b', f9_soonest_40_l94 fuel (nI b) (nI c) h = some (if b' = 1000000 then -9 else nI b', h') ∧ Sm h h' ∧ Yc N M D ht c b b' := by
  intro m
  induction m with
  | zero =>
    intro c fuel h b W hb h59 hc hf
    obtain ⟨u, rfl⟩ : ∃ n, fuel = n + 1 := ⟨fuel - 1, by omega⟩
    have bw := bw_le W.n6 W.m4
    refine ⟨h, b, ?_, Sm.rf h, Nat.le_refl _, fun c' c1 c2 => by omega, Or.inl rfl⟩
    show g9_soonest_40_b94 (f9_soonest_40_l94 u) _ _ h = _
    unfold g9_soonest_40_b94
    rw [b_ways W, ob, if_pos (by rw [q_le (by omega) (by omega)]; omega)]
    by_cases q : b = 1000000
    · rw [if_pos q, if_pos (by rw [q]; rfl)]
    · rw [if_neg q, if_neg (by rw [show (1000000 : Int32) = nI 1000000 from rfl, q_eq (by omega) (by omega)]; exact q)]
  | succ m ih =>
    intro c fuel h b W hb h59 hc hf
    obtain ⟨u, rfl⟩ : ∃ n, fuel = n + 1 := ⟨fuel - 1, by omega⟩
    have n6 := W.n6
    have bw := bw_le W.n6 W.m4
    obtain ⟨h1, f1, f2, f3, f4, f5⟩ := b_mayBe W (c := c) (by omega)
    have s1 : Sm h h1 := ⟨fun k j q => by rw [f2 k (fun e => q (by unfold jq_s; omega)) (fun e => q (by unfold jq_s; omega))], f3⟩
    have W1 := W.sm s1
    have h59' : ∀ e n, e < N → n ≤ M → h1.1 58 (5 * e + n) = nI (ct D ht M e n) := fun e n h1 h2 => by rw [f2 58 (by omega) (by omega)]; exact h59 e n h1 h2
    show ∃ h' b', g9_soonest_40_b94 (f9_soonest_40_l94 u) _ _ h = _ ∧ _
    unfold g9_soonest_40_b94 g9_soonest_40_b173
    rw [b_ways W, ob, if_neg (by rw [q_le (by omega) (by omega)]; omega), f1, ob]
    simp only [jl]
    cases hok : okr D ht N M (dg (M + 1) N c) N with
    | false =>
      rw [if_pos (show (if false = true then (1 : Int32) else 0, h1).1 = 0 from rfl), w1, nI_add]
      obtain ⟨h', b', i1, i2, i3, i4, i5⟩ := ih (c + 1) u h1 b W1 hb h59' (by omega) (by omega)
      refine ⟨h', b', i1, s1.tr i2, i3, fun c' c1 c2 c3 => ?_, i5⟩
      by_cases q : c' = c
      · subst q
        unfold okc at c3
        rw [hok] at c3
        exact absurd c3 (by decide)
      · exact i4 c' (by omega) c2 c3
    | true =>
      have hmi := mx_in (D := D) (ht := ht) (M := M) (dg (M + 1) N c) N
      have q3 := q_ms3 (f9_soonest_40_l94 u) W1 (g := dg (M + 1) N c) (c := nI c) hb (fun e _ => Nat.le_of_lt_succ (dg_lt (by omega))) f4 h59' N 0 jv_fuel (by omega) (by unfold jv_fuel; omega)
      obtain ⟨h', b', i1, i2, i3, i4, i5⟩ := ih (c + 1) u h1 (if b ≤ mxc (ct D ht M) (dg (M + 1) N c) N then b else mxc (ct D ht M) (dg (M + 1) N c) N) W1 (by split <;> omega) h59' (by omega) (by omega)
      have q3 : f9_soonest_40_l115 (f9_soonest_40_l94 u) jv_fuel (nI b) (nI c) 0 0 h1 = f9_soonest_40_l94 u (nI (if b ≤ mxc (ct D ht M) (dg (M + 1) N c) N then b else mxc (ct D ht M) (dg (M + 1) N c) N)) (nI c + 1) h1 := q3
      rw [if_neg (show ¬ (if true = true then (1 : Int32) else 0, h1).1 = 0 from (by decide : ¬ (1 : Int32) = 0)), q3, w1, nI_add]
      refine ⟨h', b', i1, s1.tr i2, ?_, fun c' c1 c2 c3 => ?_, ?_⟩
      · split at i3 <;> omega
      · by_cases q : c' = c
        · subst q
          split at i3 <;> omega
        · exact i4 c' (by omega) c2 c3
      · rcases i5 with i5 | i5
        · by_cases q : b ≤ mxc (ct D ht M) (dg (M + 1) N c) N
          · rw [if_pos q] at i5; exact Or.inl i5
          · rw [if_neg q] at i5; exact Or.inr ⟨c, hok, i5.symm⟩
        · exact Or.inr i5
theorem q_ms1 (k5 : Int32 → Int32 → jv_H → Option (Int32 × jv_H)) {t : Nat} {b : Int32} (htN : t < N) : ∀ (j n fuel : Nat) (h : jv_H), Vm h N M y D ht pl ow → n + j = M + 1 → j < fuel → (∀ e n', e < N → n' ≤ M → (e < t ∨ (e = t ∧ n' < n)) → h.1 58 (5 * e + n') = nI (ct D ht M e n')) → ∃ h', f9_soonest_40_l15 k5 fuel b (nI t) (nI n) h = k5 b (nI (t + 1)) h' ∧ Sm h h' ∧ ∀ e n', e < N → n' ≤ M → e < t + 1 → h'.1 58 (5 * e + n') = nI (ct D ht M e n') := by
  intro j
  induction j with
  | zero =>
    intro n fuel h W hn hf hq
    obtain ⟨u, rfl⟩ : ∃ n, fuel = n + 1 := ⟨fuel - 1, by omega⟩
    have m4 := W.m4
    refine ⟨h, ?_, Sm.rf h, fun e n' h1 h2 h3 => hq e n' h1 h2 (by omega)⟩
    show g9_soonest_40_b15 k5 (f9_soonest_40_l15 k5 u) _ _ _ h = _
    unfold g9_soonest_40_b15
    rw [W.nn, if_pos (by rw [q_lt (by omega) (by omega)]; omega), jl, w1, nI_add]
  | succ j ih =>
    intro n fuel h W hn hf hq
    obtain ⟨u, rfl⟩ : ∃ n, fuel = n + 1 := ⟨fuel - 1, by omega⟩
    have m4 := W.m4
    have n6 := W.n6
    have hh := W.hea htN
    have h9 := hh.1
    have s1 : Sm h (jv_p h 58 (5 * t + n) (nI (ct D ht M t n))) := (Sm.rf h).p _ _ _ (by unfold jq_s; omega)
    obtain ⟨h', i1, i2, i3⟩ := ih (n + 1) u _ (W.sm s1) (by omega) (by omega) (fun e n' h1 h2 h3 => by
      rw [q_p_if]
      by_cases r : 5 * e + n' = 5 * t + n
      · have e1 : n' = n := by omega
        have e2 : e = t := by omega
        rw [if_pos r, e1, e2]
      · rw [if_neg r]
        exact hq e n' h1 h2 (by omega))
    refine ⟨h', ?_, s1.tr i2, i3⟩
    have b79 : ∀ v, v = nI (ct D ht M t n) → g9_soonest_40_b79 k5 (f9_soonest_40_l15 k5 u) b (nI t) (nI n) ((5 : Int32) * nI t + nI n) v h = k5 b (nI (t + 1)) h' := by
      intro v hv
      unfold g9_soonest_40_b79
      rw [show (5 : Int32) * nI t + nI n = nI (5 * t + n) from by rw [w5, pk_mul, nI_add], if_pos (by rw [q_ix (by omega)]; omega), q_cl (by omega), jl, jl, w1, nI_add, hv]
      exact i1
    show g9_soonest_40_b15 k5 (f9_soonest_40_l15 k5 u) _ _ _ h = _
    unfold g9_soonest_40_b15 g9_soonest_40_b54
    simp only [jl]
    rw [W.nn, if_neg (by rw [q_lt (by omega) (by omega)]; omega)]
    by_cases q : n = M
    · rw [if_pos (by rw [q_le (by omega) (by omega)]; omega), q_mheat (by omega), hh.2, ob]
      have hc : ct D ht M t n = if ht t = 0 then 0 else 1000000 := by unfold ct; rw [if_pos q]
      by_cases r : ht t = 0
      · rw [if_pos r] at hc
        rw [if_pos (by rw [q_eq0 (by omega)]; exact r), if_neg (by decide)]
        exact b79 _ (by rw [hc]; rfl)
      · rw [if_neg r] at hc
        rw [if_neg (by rw [q_eq0 (by omega)]; exact r), if_pos trivial]
        exact b79 _ (by rw [hc]; rfl)
    · rw [if_neg (by rw [q_le (by omega) (by omega)]; omega), b_mtill W htN (by omega), ob]
      have hc : ct D ht M t n = if wb (D 0 t) (D 3 n) 100 0 (ht t) = -9 then 1000000 else (wb (D 0 t) (D 3 n) 100 0 (ht t)).toNatClampNeg := by unfold ct; rw [if_neg q]
      rcases wb_in (D 0 t) (D 3 n) 100 0 (ht t) with r | ⟨x, x1, x2, r⟩
      · rw [if_pos r] at hc
        rw [if_pos r]
        exact b79 _ (by rw [hc]; rfl)
      · have r' : ¬ wb (D 0 t) (D 3 n) 100 0 (ht t) = -9 := by rw [r, q_m9 (by omega)]; exact fun h => h
        rw [if_neg r', r, q_cl (by omega)] at hc
        rw [if_neg r']
        exact b79 _ (by rw [hc, r])
theorem q_ms0 (CS : ∀ s t, s < N → t < N → (D 2 s).testBit t = (D 2 t).testBit s) : ∀ (j t fuel : Nat) (h : jv_H), Vm h N M y D ht pl ow → t + j = N → j < fuel → (∀ e n', e < N → n' ≤ M → e < t → h.1 58 (5 * e + n') = nI (ct D ht M e n')) → ∃ h' b', f9_soonest_40_l5 fuel (nI 1000000) (nI t) h = some (if b' = 1000000 then -9 else nI b', h') ∧ Sm h h' ∧ Yc N M D ht 0 1000000 b' := by
  intro j
  induction j with
  | zero =>
    intro t fuel h W hn hf hq
    obtain ⟨u, rfl⟩ : ∃ n, fuel = n + 1 := ⟨fuel - 1, by omega⟩
    have n6 := W.n6
    have bw := bw_le W.n6 W.m4
    obtain ⟨h', b', i1, i2⟩ := q_ms2 CS ((M + 1) ^ N) 0 jv_fuel h 1000000 W (by omega) (fun e n' h1 h2 => hq e n' h1 h2 (by omega)) (by omega) (by unfold jv_fuel; omega)
    refine ⟨h', b', ?_, i2⟩
    show g9_soonest_40_b5 (f9_soonest_40_l5 u) _ _ h = _
    unfold g9_soonest_40_b5
    rw [W.nt, if_pos (by rw [q_le (by omega) (by omega)]; omega), jl]
    exact i1
  | succ j ih =>
    intro t fuel h W hn hf hq
    obtain ⟨u, rfl⟩ : ∃ n, fuel = n + 1 := ⟨fuel - 1, by omega⟩
    have n6 := W.n6
    have m4 := W.m4
    obtain ⟨h1, i1, i2, i3⟩ := q_ms1 (f9_soonest_40_l5 u) (t := t) (b := nI 1000000) (by omega) (M + 1) 0 jv_fuel h W (by omega) (by unfold jv_fuel; omega) (fun e n' q1 q2 q3 => hq e n' q1 q2 (by omega))
    obtain ⟨h', b', j1, j2, j3⟩ := ih (t + 1) u h1 (W.sm i2) (by omega) (by omega) i3
    refine ⟨h', b', ?_, i2.tr j2, j3⟩
    show g9_soonest_40_b5 (f9_soonest_40_l5 u) _ _ h = _
    unfold g9_soonest_40_b5
    rw [W.nt, if_neg (by rw [q_le (by omega) (by omega)]; omega), jl, w0, i1, j1]
theorem b_msoonest {h : jv_H} (W : Vm h N M y D ht pl ow) (CS : ∀ s t, s < N → t < N → (D 2 s).testBit t = (D 2 t).testBit s) : ∃ h' b', f9_soonest_40 h = some (if b' = 1000000 then -9 else nI b', h') ∧ Sm h h' ∧ Yc N M D ht 0 1000000 b' := by
  have n6 := W.n6
  unfold f9_soonest_40
  rw [jl, jl]
  exact q_ms0 CS N 0 jv_fuel h W (by omega) (by unfold jv_fuel; omega) (fun e n' _ _ q => by omega)
theorem so_eq (n6 : N ≤ 6) (CS : ∀ s t, s < N → t < N → (D 2 s).testBit t = (D 2 t).testBit s) {f b : Nat} (hf : Ye N M D ht 0 (fun _ => 0) 100 f) (hb : Yc N M D ht 0 1000000 b) : (if f = 100 then (-9 : Int32) else nI f) = if b = 1000000 then -9 else nI b := by
  obtain ⟨f1, f2, f3⟩ := hf
  obtain ⟨b1, b2, b3⟩ := hb
  have fb : b = 1000000 ∨ (f ≤ b ∧ b ≤ 99) := by
    rcases b3 with b3 | ⟨c, c1, c2⟩
    · exact Or.inl b3
    · have := f2 (dg (M + 1) N c) (fun e he => by omega) (fun e _ => Nat.le_of_lt_succ (dg_lt (by omega))) ((okc_iff n6 CS c).mp c1)
      have hmi := mx_in (D := D) (ht := ht) (M := M) (dg (M + 1) N c) N
      omega
  by_cases q : f = 100
  · rw [if_pos q, if_pos (by omega)]
  · rcases f3 with f3 | ⟨g, g1, g2, g3⟩
    · omega
    · obtain ⟨c, c1, c2⟩ := dg_all (B := M + 1) (by omega) N g (fun e he => by have := g1 e he; omega)
      have ho : okc D ht N M c = true := (okc_iff n6 CS c).mpr (g2.cg c2)
      have := b2 c (by omega) c1 ho
      rw [mxc_cong c2, g3] at this
      rw [if_neg q, if_neg (by omega), show f = b by omega]
def hs (ht : Nat → Nat) : Nat → Nat
  | 0 => 0
  | t + 1 => hs ht t + ht t
theorem b_hoa {h : jv_H} (V : Vc h N M P y D ht pl ow) : f3_heatOfAll_22 h = some (nI (hs ht N), h) := by
  have n6 := V.n6
  have key : ∀ (m t fuel : Nat), t + m = N → m < fuel → f3_heatOfAll_22_l4 fuel (nI (hs ht t)) (nI t) h = some (nI (hs ht N), h) := by
    intro m
    induction m with
    | zero =>
      intro t fuel hi hf
      obtain ⟨u, rfl⟩ : ∃ n, fuel = n + 1 := ⟨fuel - 1, by omega⟩
      have : t = N := by omega
      subst this
      show g3_heatOfAll_22_b4 (f3_heatOfAll_22_l4 u) _ _ h = _
      unfold g3_heatOfAll_22_b4
      rw [V.nt, if_pos (by rw [q_le (by omega) (by omega)]; omega)]
    | succ m ih =>
      intro t fuel hi hf
      obtain ⟨u, rfl⟩ : ∃ n, fuel = n + 1 := ⟨fuel - 1, by omega⟩
      show g3_heatOfAll_22_b4 (f3_heatOfAll_22_l4 u) _ _ h = _
      unfold g3_heatOfAll_22_b4
      rw [V.nt, if_neg (by rw [q_le (by omega) (by omega)]; omega), q_heat V.p V.p10 (by omega), (V.hea (show t < N by omega)).2, ob, jl, jl, w1, nI_add, nI_add]
      exact ih (t + 1) u (by omega) (by omega)
  unfold f3_heatOfAll_22
  rw [jl, jl]
  exact key N 0 jv_fuel (by omega) (by unfold jv_fuel; omega)
theorem b_mnow {h : jv_H} (W : Vm h N M y D ht pl ow) (a : Int32) : f9_now_40 a h = if a = 0 then some (nI y, h) else if a = 1 then (f9_broken_40 h).bind fun q2 => some (q2.1, q2.2) else if a = 2 then (f9_right_40 h).bind fun q4 => some (q4.1, q4.2) else if a = 3 then (f9_soonest_40 h).bind fun q6 => some (q6.1, q6.2) else if a = 4 then some (nI (hs ht N), h) else some ((-1 : Int32), h) := by
  have n6 := W.n6
  have key : ∀ (m t fuel : Nat), t + m = N → m < fuel → f9_now_40_l4 fuel a (nI (hs ht t)) (nI t) h = if a = 0 then some (nI y, h) else if a = 1 then (f9_broken_40 h).bind fun q2 => some (q2.1, q2.2) else if a = 2 then (f9_right_40 h).bind fun q4 => some (q4.1, q4.2) else if a = 3 then (f9_soonest_40 h).bind fun q6 => some (q6.1, q6.2) else if a = 4 then some (nI (hs ht N), h) else some ((-1 : Int32), h) := by
    intro m
    induction m with
    | zero =>
      intro t fuel hi hf
      obtain ⟨u, rfl⟩ : ∃ n, fuel = n + 1 := ⟨fuel - 1, by omega⟩
      have : t = N := by omega
      subst this
      have yr : h.1 47 0 = nI y := W.yr.2
      show g9_now_40_b4 (f9_now_40_l4 u) _ _ _ h = _
      unfold g9_now_40_b4
      rw [W.nt, if_pos (by rw [q_le (by omega) (by omega)]; omega), if_pos (show jv_ix (0 : Int32) 210 by decide), show Int32.toNatClampNeg (0 : Int32) = 0 from rfl, yr]
    | succ m ih =>
      intro t fuel hi hf
      obtain ⟨u, rfl⟩ : ∃ n, fuel = n + 1 := ⟨fuel - 1, by omega⟩
      show g9_now_40_b4 (f9_now_40_l4 u) _ _ _ h = _
      unfold g9_now_40_b4
      rw [W.nt, if_neg (by rw [q_le (by omega) (by omega)]; omega), q_mheat (by omega), (W.hea (show t < N by omega)).2, ob, jl, jl, show nI t + (1 : Int32) = nI (t + 1) from by rw [w1, nI_add], nI_add]
      exact ih (t + 1) u (by omega) (by omega)
  unfold f9_now_40
  rw [jl, jl]
  exact key N 0 jv_fuel (by omega) (by unfold jv_fuel; omega)
end SO
theorem p_now : ok_now Inv := by
  intro a h hI
  obtain ⟨N, M, P, y, D, ht, pl, ow, V, W, CS, -⟩ := hI.vw
  have n6 := V.n6
  by_cases a0 : a = 0
  · refine ⟨nI y, h, h, ?_, ?_, hI⟩
    · unfold f8_now_0
      rw [if_pos a0, q_year V.p V.p10, V.yr.2, ob]
    · rw [b_mnow W, if_pos a0]
  by_cases a1 : a = 1
  · refine ⟨nI (bs (fun t => decide (ht t = 0)) N), h, h, ?_, ?_, hI⟩
    · unfold f8_now_0
      rw [if_neg a0, if_pos a1, b_broken V, ob]
    · rw [b_mnow W, if_neg a0, if_pos a1, b_mbroken W, ob]
  by_cases a2 : a = 2
  · refine ⟨nI (cn (fun t => !low ow t) N), h, h, ?_, ?_, hI⟩
    · unfold f8_now_0
      rw [if_neg a0, if_neg a1, if_pos a2, V.nt, b_mixes V, ob]
    · rw [b_mnow W, if_neg a0, if_neg a1, if_pos a2, b_right W, ob]
  by_cases a3 : a = 3
  · obtain ⟨h1, f, f1, f2, f3⟩ := b_soonest V
    obtain ⟨h2, b, g1, g2, g3⟩ := b_msoonest (W.sm f2) CS
    refine ⟨if f = 100 then -9 else nI f, h1, h2, ?_, ?_, (hI.sm f2).sm g2⟩
    · unfold f8_now_0
      rw [if_neg a0, if_neg a1, if_neg a2, if_pos a3, f1, ob]
    · rw [b_mnow (W.sm f2), if_neg a0, if_neg a1, if_neg a2, if_pos a3, g1, ob, so_eq n6 CS f3 g3]
  by_cases a4 : a = 4
  · refine ⟨nI (hs ht N), h, h, ?_, ?_, hI⟩
    · unfold f8_now_0
      rw [if_neg a0, if_neg a1, if_neg a2, if_neg a3, if_pos a4, b_hoa V, ob]
    · rw [b_mnow W, if_neg a0, if_neg a1, if_neg a2, if_neg a3, if_pos a4]
  · refine ⟨-1, h, h, ?_, ?_, hI⟩
    · unfold f8_now_0
      rw [if_neg a0, if_neg a1, if_neg a2, if_neg a3, if_neg a4]
    · rw [b_mnow W, if_neg a0, if_neg a1, if_neg a2, if_neg a3, if_neg a4]
