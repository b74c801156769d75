/-! beds -/
def bd (D : Nat → Nat → Nat) (ht : Nat → Nat) (L a b : Nat) : Bool := !decide (a = b) && (!(D 2 a).testBit b && decide (ht a + ht b ≤ L))
theorem bd_iff {D : Nat → Nat → Nat} {ht : Nat → Nat} {L a b : Nat} : bd D ht L a b = true ↔ ¬ a = b ∧ (D 2 a).testBit b = false ∧ ht a + ht b ≤ L := by
  unfold bd
  simp only [Bool.and_eq_true, Bool.not_eq_true', decide_eq_true_iff, decide_eq_false_iff_not]
def bok (D : Nat → Nat → Nat) (ht : Nat → Nat) (L N : Nat) (g : Nat → Nat) : Nat → Nat → Bool
  | 0, _ => true
  | m + 1, a => (decide (N ≤ g a) || (decide (g (g a) = a) && bd D ht L a (g a))) && bok D ht L N g m (a + 1)
theorem bok_iff {D : Nat → Nat → Nat} {ht : Nat → Nat} {L N : Nat} {g : Nat → Nat} : ∀ (m a : Nat), bok D ht L N g m a = true ↔ ∀ e, a ≤ e → e < a + m → g e < N → g (g e) = e ∧ bd D ht L e (g e) = true
  | 0, a => ⟨fun _ e h1 h2 => by omega, fun _ => rfl⟩
  | m + 1, a => by
    unfold bok
    rw [Bool.and_eq_true, bok_iff m (a + 1), Bool.or_eq_true, Bool.and_eq_true, decide_eq_true_iff, decide_eq_true_iff]
    constructor
    · rintro ⟨h1, h2⟩ e e1 e2 e3
      by_cases q : e = a
      · subst q
        rcases h1 with h1 | h1
        · omega
        · exact h1
      · exact h2 e (by omega) (by omega) e3
    · intro h
      refine ⟨?_, fun e e1 e2 e3 => h e (by omega) (by omega) e3⟩
      by_cases q : N ≤ g a
      · exact Or.inl q
      · exact Or.inr (h a (by omega) (by omega) (by omega))
def okb (D : Nat → Nat → Nat) (ht : Nat → Nat) (L N c : Nat) : Bool := bok D ht L N (dg (N + 1) N c) N 0
def bp (N : Nat) (g : Nat → Nat) (e : Nat) : Bool := decide (e < g e) && decide (g e < N)
def vlb (N c : Nat) : Nat := cn (bp N (dg (N + 1) N c)) N
theorem vlb_le (N c : Nat) : vlb N c ≤ N := cn_le _ _
theorem okb_iff {D : Nat → Nat → Nat} {ht : Nat → Nat} {L N c : Nat} : okb D ht L N c = true ↔ ∀ e, e < N → dg (N + 1) N c e < N → dg (N + 1) N c (dg (N + 1) N c e) = e ∧ bd D ht L e (dg (N + 1) N c e) = true := by
  unfold okb
  rw [bok_iff]
  exact ⟨fun h e h1 => h e (by omega) (by omega), fun h e _ h2 => h e (by omega)⟩
/-- who below t points at e, or N -/
def fi (N : Nat) (g : Nat → Nat) : Nat → Nat → Nat
  | 0, _ => N
  | t + 1, e => if g t = e then t else fi N g t e
theorem fi_some (N : Nat) (g : Nat → Nat) (e : Nat) : ∀ t, fi N g t e = N ∨ (fi N g t e < t ∧ g (fi N g t e) = e)
  | 0 => Or.inl rfl
  | t + 1 => by
    unfold fi
    by_cases q : g t = e
    · rw [if_pos q]; exact Or.inr ⟨by omega, q⟩
    · rw [if_neg q]
      rcases fi_some N g e t with r | ⟨r1, r2⟩
      · exact Or.inl r
      · exact Or.inr ⟨by omega, r2⟩
theorem fi_none {N : Nat} {g : Nat → Nat} {e : Nat} : ∀ {t}, t ≤ N → fi N g t e = N → ∀ e', e' < t → ¬ g e' = e
  | 0, _, _, _, h => by omega
  | t + 1, ht, hf, e', he => by
    unfold fi at hf
    by_cases q : g t = e
    · rw [if_pos q] at hf; omega
    · rw [if_neg q] at hf
      by_cases r : e' = t
      · subst r; exact q
      · exact fi_none (by omega) hf e' (by omega)
theorem fi_cong {N : Nat} {g g' : Nat → Nat} {e : Nat} : ∀ {t}, (∀ e', e' < t → g e' = g' e') → fi N g t e = fi N g' t e
  | 0, _ => rfl
  | t + 1, h => by rw [fi, fi, fi_cong (fun e' he => h e' (by omega)), h t (by omega)]
def pt (N : Nat) (g : Nat → Nat) (t e : Nat) : Nat := if e < t then g e else fi N g t e
theorem fi_le {N : Nat} {g : Nat → Nat} {t e : Nat} (h : t ≤ N) : fi N g t e ≤ N := by
  rcases fi_some N g e t with r | ⟨r1, _⟩ <;> omega
theorem pt_ext {N : Nat} {g : Nat → Nat} {t n e : Nat} : pt N (ext g t n) (t + 1) e = if e = t then n else if t < e ∧ n = e then t else pt N g t e := by
  unfold pt
  by_cases q : e = t
  · subst q
    rw [if_pos (by omega), if_pos rfl, ext_t]
  · rw [if_neg q]
    by_cases r : e < t
    · rw [if_pos (by omega), if_neg (by omega), if_pos r, ext_e g q]
    · rw [if_neg (by omega), if_neg r, fi, ext_t, fi_cong (g' := g) (fun e' he => ext_e g (by omega))]
      by_cases u : n = e
      · rw [if_pos u, if_pos ⟨by omega, u⟩]
      · rw [if_neg u, if_neg (fun x => u x.2)]
theorem cv_9 {N x : Nat} (hx : x < 2000000) : (cv N x = -9) = (x = N) := by
  unfold cv
  by_cases q : x = N
  · rw [if_pos q]; exact propext ⟨fun _ => q, fun _ => rfl⟩
  · rw [if_neg q, q_m9 (by omega)]; exact propext ⟨fun h => h.elim, fun h => absurd h q⟩
def Bg (D : Nat → Nat → Nat) (ht : Nat → Nat) (L N : Nat) (g : Nat → Nat) (t : Nat) : Prop := (∀ e, e < t → g e ≤ N) ∧ (∀ e, e < t → g e < N → bd D ht L e (g e) = true ∧ (g e < t → g (g e) = e)) ∧ ∀ e1 e2, e1 < t → e2 < t → g e1 = g e2 → g e1 < N → e1 = e2
theorem fcs (ok : Nat → Bool) (val : Nat → Nat) {X k B : Nat} : ∀ (j n : Nat) (s : Nat × Nat), (∀ n', n ≤ n' → n' < n + j → fc ok val X ((k * B + n') * X) s = s) → fc ok val (j * X) ((k * B + n) * X) s = s
  | 0, n, s, _ => by rw [Nat.zero_mul]; rfl
  | j + 1, n, s, h => by
    rw [show (j + 1) * X = X + j * X from by rw [Nat.succ_mul, Nat.add_comm], fc_add, h n (by omega) (by omega), show (k * B + n) * X + X = (k * B + (n + 1)) * X from by rw [← Nat.add_assoc, Nat.succ_mul]]
    exact fcs ok val j (n + 1) s (fun n' h1 h2 => h n' (by omega) (by omega))
section BE
variable {N M P y L : Nat} {D : Nat → Nat → Nat} {ht : Nat → Nat} {pl : Nat → Int32} {ow : Nat → Nat}
def BL (h : jv_H) (N L t : Nat) (g : Nat → Nat) (s : Nat × Nat) : Prop := (∀ e, e < N → h.1 29 e = cv N (pt N g t e)) ∧ h.1 28 2 = nI L ∧ h.1 28 4 = enc s.1 ∧ (0 < s.1 → ∀ e, e < N → h.1 30 e = cv N (dg (N + 1) N s.2 e))
theorem b_mayShare {h : jv_H} (V : Vc h N M P y D ht pl ow) {a b : Nat} (ha : a < N) (hb : b < N) (hab : ¬ a = b) (hL : h.1 28 2 = nI L) (hL8 : L ≤ 198) : f0_mayShare_28 (nI a) (nI b) h = some (if bd D ht L a b then 1 else 0, h) := by
  have n6 := V.n6
  have hc := V.cl ha
  have h1 := V.hea ha
  have h2 := V.hea hb
  have h1' := h1.1
  have h2' := h2.1
  unfold f0_mayShare_28 bd
  rw [if_pos (by rw [q_ix (by omega)]; omega), q_bit, ob, q_cl (by omega), hc.1]
  simp only [q_tb b (show b < 6 by omega) (D 2 a) hc.2]
  simp only [q_heat V.p V.p10 (show a < 6 by omega), q_heat V.p V.p10 (show b < 6 by omega), ob, h1.2, h2.2, hL, nI_add]
  cases hq : (D 2 a).testBit b with
  | true => rw [if_neg (by decide)]; simp
  | false =>
    rw [if_pos rfl]
    by_cases r : ht a + ht b ≤ L
    · rw [if_neg (by rw [q_lt (by omega) (by omega)]; omega)]
      simp [hab, r]
    · rw [if_pos (by rw [q_lt (by omega) (by omega)]; omega)]
      simp [r]
theorem q_to (n6 : N ≤ 6) (hL8 : L ≤ 198) (CS : ∀ s t, s < N → t < N → (D 2 s).testBit t = (D 2 t).testBit s) : ∀ (d t fuel : Nat) (h : jv_H) (k : Nat) (g : Nat → Nat) (s : Nat × Nat), Vc h N M P y D ht pl ow → t + d = N → d < fuel → Bg D ht L N g t → BL h N L t g s → s.1 ≤ N + 1 → (∀ c, k * (N + 1) ^ d ≤ c → c < k * (N + 1) ^ d + (N + 1) ^ d → ∀ e, e < t → dg (N + 1) N c e = g e) → ∃ h', f0_tryOthers_28 fuel (nI t) (nI (cn (bp N g) t)) h = some ((), h') ∧ Sm h h' ∧ BL h' N L t g (fc (okb D ht L N) (vlb N) ((N + 1) ^ d) (k * (N + 1) ^ d) s) := by
  intro d
  induction d with
  | zero =>
    intro t fuel h k g s V htd hf hB hL hs hiv
    obtain ⟨f, rfl⟩ : ∃ n, fuel = n + 1 := ⟨fuel - 1, by omega⟩
    have : t = N := by omega
    subst this
    obtain ⟨L1, L2, L3, L4⟩ := hL
    have hcn := cn_le (bp t g) t
    rw [Nat.pow_zero, Nat.mul_one] at hiv ⊢
    have hgk := hiv k (Nat.le_refl _) (by omega)
    have hok : okb D ht L t k = true := by
      rw [okb_iff]
      intro e he hM
      rw [hgk e he] at hM ⊢
      have := hB.2.1 e he hM
      rw [hgk (g e) hM]
      exact ⟨this.2 hM, this.1⟩
    have hval : vlb t k = cn (bp t g) t := cn_cong (fun e he => by unfold bp; rw [hgk e he])
    show ∃ h', g0_tryOthers_28 (f0_tryOthers_28 f) _ _ h = _ ∧ _ ∧ BL h' t L t g (stp (okb D ht L t) (vlb t) s k)
    unfold g0_tryOthers_28 g0_tryOthers_28_b20 stp
    rw [V.nt, L3, if_pos (by rw [q_le (by omega) (by omega)]; omega), hok, hval, Bool.true_and]
    by_cases q : s.1 ≤ cn (bp t g) t
    · rw [if_neg (by rw [enc_ge (by omega) (by omega)]; omega), if_pos (by simpa using q)]
      simp only [jl]
      rw [if_pos (by decide)]
      refine ⟨_, rfl, ((Sm.rf h).p _ _ _ (by unfold jq_s; omega)).y _ _ _ _ _ (fun j => by unfold jq_s; omega), fun e he => ?_, ?_, ?_, fun _ e he => ?_⟩
      · rw [q_y_k _ (by omega), q_p_k _ (by omega)]; exact L1 e he
      · rw [q_y_k _ (by omega), q_p_j _ (by omega)]; exact L2
      · rw [q_y_k _ (by omega), q_p_same, enc_s]
      · rw [q_y_b, show Int32.toNatClampNeg (0 : Int32) = 0 from rfl, show Int32.toNatClampNeg (6 : Int32) = 6 from rfl, if_pos (by omega), q_p_k _ (by omega), show 0 + (e - 0) = e by omega, L1 e he, hgk e he]
        unfold pt
        rw [if_pos he]
    · rw [if_pos (by rw [enc_ge (by omega) (by omega)]; omega), if_neg (by simpa using q)]
      exact ⟨h, rfl, Sm.rf h, L1, L2, L3, L4⟩
  | succ d ih =>
    intro t fuel h k g s V htd hf hB hL hs hiv
    obtain ⟨f, rfl⟩ : ∃ n, fuel = n + 1 := ⟨fuel - 1, by omega⟩
    have hcn := cn_le (bp N g) t
    have hB0 : 0 < N + 1 := by omega
    have htN : t < N := by omega
    obtain ⟨B1, B2, B3⟩ := id hB
    have hivc : ∀ n, n < N + 1 → ∀ c, (k * (N + 1) + n) * (N + 1) ^ d ≤ c → c < (k * (N + 1) + n) * (N + 1) ^ d + (N + 1) ^ d → ∀ e, e < t + 1 → dg (N + 1) N c e = ext g t n e := by
      intro n hn c c1 c2 e he
      by_cases q : e = t
      · subst q
        rw [ext_t]
        exact dg_in hB0 hn (by omega) c1 c2
      · rw [ext_e g q]
        have := iv_sub hn c1 c2
        exact hiv c this.1 this.2 e (by omega)
    have hsk : ∀ n s, n < N + 1 → (∀ c, (∀ e, e < t + 1 → dg (N + 1) N c e = ext g t n e) → okb D ht L N c = true → False) → fc (okb D ht L N) (vlb N) ((N + 1) ^ d) ((k * (N + 1) + n) * (N + 1) ^ d) s = s := by
      intro n s hn hno
      apply fc_skip
      intro c c1 c2
      have hno : okb D ht L N c = false := by
        cases hq : okb D ht L N c with
        | false => rfl
        | true => exact (hno c (hivc n hn c c1 c2) hq).elim
      unfold stp
      rw [hno]
      rfl
    -- the child with digit n
    have child : ∀ n (h : jv_H) (s : Nat × Nat), n ≤ N → Bg D ht L N (ext g t n) (t + 1) → Vc h N M P y D ht pl ow → s.1 ≤ N + 1 → BL h N L (t + 1) (ext g t n) s → ∃ h', f0_tryOthers_28 f (nI (t + 1)) (nI (cn (bp N g) t + if t < n ∧ n < N then 1 else 0)) h = some ((), h') ∧ Sm h h' ∧ BL h' N L (t + 1) (ext g t n) (fc (okb D ht L N) (vlb N) ((N + 1) ^ d) ((k * (N + 1) + n) * (N + 1) ^ d) s) := by
      intro n h s hn hBg V hs hL
      have := ih (t + 1) f h (k * (N + 1) + n) (ext g t n) s V (by omega) (by omega) hBg hL hs (hivc n (by omega))
      rw [show cn (bp N (ext g t n)) (t + 1) = cn (bp N g) t + if t < n ∧ n < N then 1 else 0 from by
        rw [cn, cn_cong (q := bp N g) (fun e he => by unfold bp; rw [ext_e g (by omega)])]
        unfold bp
        rw [ext_t]
        by_cases q : t < n ∧ n < N
        · rw [if_pos q]; simp [q.1, q.2]
        · rw [if_neg q]
          by_cases r : t < n
          · have : ¬ n < N := fun u => q ⟨r, u⟩
            simp [this]
          · simp [r]] at this
      exact this
    have ptle : pt N g t t ≤ N := by
      unfold pt
      rw [if_neg (by omega)]
      exact fi_le (by omega)
    have ptt : pt N g t t = fi N g t t := by
      unfold pt
      rw [if_neg (by omega)]
    show ∃ h', g0_tryOthers_28 (f0_tryOthers_28 f) _ _ h = _ ∧ _
    unfold g0_tryOthers_28
    rw [V.nt, if_neg (by rw [q_le (by omega) (by omega)]; omega), if_pos (by rw [w6, q_lt (by omega) (by omega)]; omega), if_pos (by rw [q_ix (by omega)]; omega), q_cl (by omega), hL.1 t htN]
    by_cases q : pt N g t t = N
    · -- nobody's
      rw [if_pos (by rw [cv_9 (by omega)]; exact q), jl]
      have nob : ∀ e, e < t → ¬ g e = t := fi_none (N := N) (t := t) (by omega) (by rw [← ptt]; exact q)
      have loop : ∀ (j n fuel : Nat) (h : jv_H) (s : Nat × Nat), n + j = N → t < n → j < fuel → Vc h N M P y D ht pl ow → s.1 ≤ N + 1 → BL h N L t g s → ∃ h', f0_tryOthers_28_l73 (f0_tryOthers_28 f) fuel (nI t) (nI (cn (bp N g) t)) (nI n) h = some ((), h') ∧ Sm h h' ∧ BL h' N L t g (fc (okb D ht L N) (vlb N) ((j + 1) * (N + 1) ^ d) ((k * (N + 1) + n) * (N + 1) ^ d) s) := by
        intro j
        induction j with
        | zero =>
          intro n fuel h s hn htn hf V hs hL
          obtain ⟨u, rfl⟩ : ∃ n, fuel = n + 1 := ⟨fuel - 1, by omega⟩
          have : n = N := by omega
          subst this
          obtain ⟨L1, L2, L3, L4⟩ := hL
          have pe : ∀ e, e < n → pt n (ext g t n) (t + 1) e = pt n g t e := fun e he => by
            rw [pt_ext]
            by_cases r : e = t
            · rw [if_pos r, r, q]
            · rw [if_neg r, if_neg (by omega)]
          obtain ⟨h', c1, c2, M1, M2, M3, M4⟩ := child n h s (Nat.le_refl _) ⟨fun e he => by
              by_cases r : e = t
              · subst r; rw [ext_t]; exact Nat.le_refl _
              · rw [ext_e g r]; exact B1 e (by omega), fun e he hlt => by
              by_cases r : e = t
              · subst r; rw [ext_t] at hlt; omega
              · rw [ext_e g r] at hlt ⊢
                have := B2 e (by omega) hlt
                refine ⟨this.1, fun h1 => ?_⟩
                by_cases u : g e = t
                · exact absurd u (nob e (by omega))
                · rw [ext_e g u]; exact this.2 (by omega), fun e1 e2 h1 h2 h3 h4 => by
              by_cases r1 : e1 = t
              · subst r1; rw [ext_t] at h4; omega
              · rw [ext_e g r1] at h3 h4
                by_cases r2 : e2 = t
                · subst r2; rw [ext_t] at h3; omega
                · rw [ext_e g r2] at h3
                  exact B3 e1 e2 (by omega) (by omega) h3 h4⟩ V hs ⟨fun e he => by rw [pe e he]; exact L1 e he, L2, L3, L4⟩
          rw [Nat.zero_add, Nat.one_mul]
          rw [if_neg (by omega)] at c1
          have c1 : f0_tryOthers_28 f (nI (t + 1)) (nI (cn (bp n g) t)) h = some ((), h') := c1
          refine ⟨h', ?_, c2, fun e he => by rw [M1 e he, pe e he], M2, M3, M4⟩
          show g0_tryOthers_28_b73 (f0_tryOthers_28 f) (f0_tryOthers_28_l73 (f0_tryOthers_28 f) u) _ _ _ h = _
          unfold g0_tryOthers_28_b73
          rw [V.nt, if_pos (by rw [q_le (by omega) (by omega)]; omega), show nI t + (1 : Int32) = nI (t + 1) from by rw [w1, nI_add], c1, ob]
        | succ j ihj =>
          intro n fuel h s hn htn hf V hs hL
          obtain ⟨u, rfl⟩ : ∃ n, fuel = n + 1 := ⟨fuel - 1, by omega⟩
          obtain ⟨L1, L2, L3, L4⟩ := id hL
          have hnN : n < N := by omega
          have esp : fc (okb D ht L N) (vlb N) ((j + 1 + 1) * (N + 1) ^ d) ((k * (N + 1) + n) * (N + 1) ^ d) s = fc (okb D ht L N) (vlb N) ((j + 1) * (N + 1) ^ d) ((k * (N + 1) + (n + 1)) * (N + 1) ^ d) (fc (okb D ht L N) (vlb N) ((N + 1) ^ d) ((k * (N + 1) + n) * (N + 1) ^ d) s) := by
            rw [show (j + 1 + 1) * (N + 1) ^ d = (N + 1) ^ d + (j + 1) * (N + 1) ^ d from by rw [Nat.succ_mul, Nat.add_comm], fc_add, show (k * (N + 1) + n) * (N + 1) ^ d + (N + 1) ^ d = (k * (N + 1) + (n + 1)) * (N + 1) ^ d from by rw [← Nat.add_assoc, Nat.succ_mul]]
          rw [esp]
          have ptn : pt N g t n = fi N g t n := by
            unfold pt
            rw [if_neg (by omega)]
          have ptnle : pt N g t n ≤ N := by rw [ptn]; exact fi_le (by omega)
          show ∃ h', g0_tryOthers_28_b73 (f0_tryOthers_28 f) (f0_tryOthers_28_l73 (f0_tryOthers_28 f) u) _ _ _ h = _ ∧ _
          unfold g0_tryOthers_28_b73 g0_tryOthers_28_b150
          rw [V.nt, if_neg (by rw [q_le (by omega) (by omega)]; omega), if_pos (by rw [q_ix (by omega)]; omega), q_cl (by omega), L1 n hnN]
          simp only [jl]
          rw [show nI n + (1 : Int32) = nI (n + 1) from by rw [w1, nI_add]]
          by_cases r : pt N g t n = N
          · rw [if_pos (by rw [cv_9 (by omega)]; exact r), b_mayShare V htN hnN (by omega) L2 hL8, ob]
            have non : ∀ e, e < t → ¬ g e = n := fi_none (N := N) (t := t) (by omega) (by rw [← ptn]; exact r)
            cases hbd : bd D ht L t n with
            | false =>
              rw [if_pos (show (if false = true then (1 : Int32) else 0, h).1 = 0 from rfl), hsk n s (by omega) (fun c c1 c2 => by
                rw [okb_iff] at c2
                have e1 := c1 t (by omega)
                rw [ext_t] at e1
                have := (c2 t htN (by omega)).2
                rw [e1, hbd] at this
                exact absurd this (by decide))]
              exact ihj (n + 1) u h s (by omega) (by omega) (by omega) V hs hL
            | true =>
              rw [if_neg (show ¬ (if true = true then (1 : Int32) else 0, h).1 = 0 from (by decide : ¬ (1 : Int32) = 0)), if_pos (show jv_ix (nI t) 6 by rw [q_ix (by omega)]; omega), if_pos (by rw [q_ix (by omega)]; omega), q_cl (show t < 2147483648 by omega)]
              have s1 : Sm h (jv_p (jv_p h 29 t (nI n)) 29 n (nI t)) := ((Sm.rf h).p _ _ _ (by unfold jq_s; omega)).p _ _ _ (by unfold jq_s; omega)
              obtain ⟨h1, c1, c2, M1, M2, M3, M4⟩ := child n (jv_p (jv_p h 29 t (nI n)) 29 n (nI t)) s (by omega) ⟨fun e he => by
                  by_cases r : e = t
                  · subst r; rw [ext_t]; omega
                  · rw [ext_e g r]; exact B1 e (by omega), fun e he hlt => by
                  by_cases r : e = t
                  · subst r
                    rw [ext_t] at hlt ⊢
                    exact ⟨hbd, fun h1 => by omega⟩
                  · rw [ext_e g r] at hlt ⊢
                    have := B2 e (by omega) hlt
                    refine ⟨this.1, fun h1 => ?_⟩
                    by_cases u : g e = t
                    · exact absurd u (nob e (by omega))
                    · rw [ext_e g u]; exact this.2 (by omega), fun e1 e2 h1 h2 h3 h4 => by
                  by_cases r1 : e1 = t
                  · subst r1
                    rw [ext_t] at h3
                    by_cases r2 : e2 = e1
                    · exact r2.symm
                    · rw [ext_e g r2] at h3
                      exact absurd h3.symm (non e2 (by omega))
                  · rw [ext_e g r1] at h3 h4
                    by_cases r2 : e2 = t
                    · subst r2
                      rw [ext_t] at h3
                      exact absurd h3 (non e1 (by omega))
                    · rw [ext_e g r2] at h3
                      exact B3 e1 e2 (by omega) (by omega) h3 h4⟩ (V.sm s1) hs ⟨fun e he => by
                  rw [q_p_if, q_p_if, pt_ext]
                  by_cases r1 : e = n
                  · rw [if_pos r1, if_neg (by omega), if_pos (by omega)]
                    exact (if_neg (by omega)).symm
                  · rw [if_neg r1]
                    by_cases r2 : e = t
                    · rw [if_pos r2, if_pos r2]
                      exact (if_neg (by omega)).symm
                    · rw [if_neg r2, if_neg r2, if_neg (by omega)]
                      exact L1 e he, by rw [q_p_k _ (by omega), q_p_k _ (by omega)]; exact L2, by rw [q_p_k _ (by omega), q_p_k _ (by omega)]; exact L3, fun q e he => by rw [q_p_k _ (by omega), q_p_k _ (by omega)]; exact L4 q e he⟩
              rw [if_pos (show t < n ∧ n < N by omega)] at c1
              have s2 : Sm h (jv_p (jv_p h1 29 t (-9)) 29 n (-9)) := ((s1.tr c2).p _ _ _ (by unfold jq_s; omega)).p _ _ _ (by unfold jq_s; omega)
              obtain ⟨h', i1, i2, i3⟩ := ihj (n + 1) u (jv_p (jv_p h1 29 t (-9)) 29 n (-9)) (fc (okb D ht L N) (vlb N) ((N + 1) ^ d) ((k * (N + 1) + n) * (N + 1) ^ d) s) (by omega) (by omega) (by omega) (V.sm s2) (fc_b _ _ (fun c => vlb_le N c) _ _ _ hs) ⟨fun e he => by
                  rw [q_p_if, q_p_if]
                  by_cases r1 : e = n
                  · rw [if_pos r1, r1, r]
                    exact (if_pos rfl).symm
                  · rw [if_neg r1]
                    by_cases r2 : e = t
                    · rw [if_pos r2, r2, q]
                      exact (if_pos rfl).symm
                    · rw [if_neg r2, M1 e he, pt_ext, if_neg r2, if_neg (by omega)], by rw [q_p_k _ (by omega), q_p_k _ (by omega)]; exact M2, by rw [q_p_k _ (by omega), q_p_k _ (by omega)]; exact M3, fun q e he => by rw [q_p_k _ (by omega), q_p_k _ (by omega)]; exact M4 q e he⟩
              refine ⟨h', ?_, s2.tr i2, i3⟩
              rw [show nI t + (1 : Int32) = nI (t + 1) from by rw [w1, nI_add], show nI (cn (bp N g) t) + (1 : Int32) = nI (cn (bp N g) t + 1) from by rw [w1, nI_add], c1, ob, if_pos (show jv_ix (nI t) 6 by rw [q_ix (by omega)]; omega), if_pos (by rw [q_ix (by omega)]; omega)]
              exact i1
          · rw [if_neg (by rw [cv_9 (by omega)]; exact r)]
            have som : fi N g t n < t ∧ g (fi N g t n) = n := by
              rcases fi_some N g n t with v | v
              · rw [← ptn] at v; exact absurd v r
              · exact v
            rw [hsk n s (by omega) (fun c c1 c2 => by
              rw [okb_iff] at c2
              have e1 := c1 t (by omega)
              rw [ext_t] at e1
              have e2 := c1 (fi N g t n) (by omega)
              rw [ext_e g (by omega), som.2] at e2
              have a1 := (c2 t htN (by omega)).1
              have a2 := (c2 (fi N g t n) (by omega) (by omega)).1
              rw [e1] at a1
              rw [e2, a1] at a2
              omega)]
            exact ihj (n + 1) u h s (by omega) (by omega) (by omega) V hs hL
      rw [show nI t + (1 : Int32) = nI (t + 1) from by rw [w1, nI_add]]
      have hl := loop (N - (t + 1)) (t + 1) jv_fuel h s (by omega) (by omega) (by unfold jv_fuel; omega) V hs hL
      have hz := fcs (okb D ht L N) (vlb N) (X := (N + 1) ^ d) (k := k) (B := N + 1) (t + 1) 0 s (fun n _ hn => hsk n s (by omega) (fun c c1 c2 => by
        rw [okb_iff] at c2
        have e1 := c1 t (by omega)
        rw [ext_t] at e1
        have a1 := c2 t htN (by omega)
        rw [e1] at a1
        by_cases v : n = t
        · exact (bd_iff.mp a1.2).1 v.symm
        · have e2 := c1 n (by omega)
          rw [ext_e g v, a1.1] at e2
          exact nob n (by omega) e2.symm))
      have tot : fc (okb D ht L N) (vlb N) ((N + 1) ^ (d + 1)) (k * (N + 1) ^ (d + 1)) s = fc (okb D ht L N) (vlb N) ((N - (t + 1) + 1) * (N + 1) ^ d) ((k * (N + 1) + (t + 1)) * (N + 1) ^ d) s := by
        have e1 : (N + 1) ^ (d + 1) = (t + 1) * (N + 1) ^ d + (N - (t + 1) + 1) * (N + 1) ^ d := by
          rw [← Nat.add_mul, show t + 1 + (N - (t + 1) + 1) = N + 1 by omega, Nat.pow_succ, Nat.mul_comm]
        have e2 : k * (N + 1) ^ (d + 1) = (k * (N + 1) + 0) * (N + 1) ^ d := by
          show k * (N + 1) ^ (d + 1) = (k * (N + 1)) * (N + 1) ^ d
          rw [Nat.pow_succ, Nat.mul_assoc, Nat.mul_comm (N + 1)]
        rw [e2, e1, fc_add, hz, ← Nat.add_mul]
        rfl
      rw [tot]
      exact hl
    · -- somebody's
      rw [if_neg (by rw [cv_9 (by omega)]; exact q)]
      have som : fi N g t t < t ∧ g (fi N g t t) = t := by
        rcases fi_some N g t t with v | v
        · rw [← ptt] at v; exact absurd v q
        · exact v
      generalize hE : fi N g t t = E at *
      have bsy := B2 E som.1 (by omega)
      rw [som.2] at bsy
      have pe : ∀ e, e < N → pt N (ext g t E) (t + 1) e = pt N g t e := fun e he => by
        rw [pt_ext]
        by_cases r : e = t
        · rw [if_pos r, r, ptt]
        · rw [if_neg r, if_neg (by omega)]
      have skE : ∀ n, n < N + 1 → ¬ n = E → ∀ s, fc (okb D ht L N) (vlb N) ((N + 1) ^ d) ((k * (N + 1) + n) * (N + 1) ^ d) s = s := fun n hn hne s => hsk n s hn (fun c c1 c2 => by
        rw [okb_iff] at c2
        have e1 := c1 t (by omega)
        rw [ext_t] at e1
        have e2 := c1 E (by omega)
        rw [ext_e g (by omega), som.2] at e2
        have a2 := (c2 E (by omega) (by omega)).1
        rw [e2, e1] at a2
        exact hne a2)
      obtain ⟨L1, L2, L3, L4⟩ := hL
      obtain ⟨h', c1, c2, M1, M2, M3, M4⟩ := child E h s (by omega) ⟨fun e he => by
          by_cases r : e = t
          · subst r; rw [ext_t]; omega
          · rw [ext_e g r]; exact B1 e (by omega), fun e he hlt => by
          by_cases r : e = t
          · subst r
            rw [ext_t]
            refine ⟨?_, fun _ => by rw [ext_e g (by omega)]; exact som.2⟩
            have := bd_iff.mp bsy.1
            refine bd_iff.mpr ⟨by omega, ?_, by omega⟩
            rw [CS e E htN (by omega)]
            exact this.2.1
          · rw [ext_e g r] at hlt ⊢
            have := B2 e (by omega) hlt
            refine ⟨this.1, fun h1 => ?_⟩
            by_cases u : g e = t
            · rw [u, ext_t]
              exact B3 E e som.1 (by omega) (by rw [som.2, u]) (by omega)
            · rw [ext_e g u]; exact this.2 (by omega), fun e1 e2 h1 h2 h3 h4 => by
          have noE : ∀ e, e < t → ¬ g e = E := fun e he v => by
            have := (B2 e he (by omega)).2 (by omega)
            rw [v, som.2] at this
            omega
          by_cases r1 : e1 = t
          · subst r1
            rw [ext_t] at h3
            by_cases r2 : e2 = e1
            · exact r2.symm
            · rw [ext_e g r2] at h3
              exact absurd h3.symm (noE e2 (by omega))
          · rw [ext_e g r1] at h3 h4
            by_cases r2 : e2 = t
            · subst r2
              rw [ext_t] at h3
              exact absurd h3 (noE e1 (by omega))
            · rw [ext_e g r2] at h3
              exact B3 e1 e2 (by omega) (by omega) h3 h4⟩ V hs ⟨fun e he => by rw [pe e he]; exact L1 e he, L2, L3, L4⟩
      rw [if_neg (show ¬ (t < E ∧ E < N) by omega)] at c1
      have c1 : f0_tryOthers_28 f (nI (t + 1)) (nI (cn (bp N g) t)) h = some ((), h') := c1
      have tot : fc (okb D ht L N) (vlb N) ((N + 1) ^ (d + 1)) (k * (N + 1) ^ (d + 1)) s = fc (okb D ht L N) (vlb N) ((N + 1) ^ d) ((k * (N + 1) + E) * (N + 1) ^ d) s := by
        have e1 : (N + 1) ^ (d + 1) = E * (N + 1) ^ d + ((N + 1) ^ d + (N - E) * (N + 1) ^ d) := by
          rw [show (N + 1) ^ d + (N - E) * (N + 1) ^ d = (N - E + 1) * (N + 1) ^ d from by rw [Nat.succ_mul, Nat.add_comm], ← Nat.add_mul, show E + (N - E + 1) = N + 1 by omega, Nat.pow_succ, Nat.mul_comm]
        have e2 : k * (N + 1) ^ (d + 1) = (k * (N + 1) + 0) * (N + 1) ^ d := by
          show k * (N + 1) ^ (d + 1) = (k * (N + 1)) * (N + 1) ^ d
          rw [Nat.pow_succ, Nat.mul_assoc, Nat.mul_comm (N + 1)]
        rw [e2, e1, fc_add, fcs _ _ E 0 s (fun n _ hn => skE n (by omega) (by omega) s), fc_add, show (k * (N + 1) + 0) * (N + 1) ^ d + E * (N + 1) ^ d = (k * (N + 1) + E) * (N + 1) ^ d from by rw [← Nat.add_mul]; rfl, show (k * (N + 1) + E) * (N + 1) ^ d + (N + 1) ^ d = (k * (N + 1) + (E + 1)) * (N + 1) ^ d from by rw [← Nat.add_assoc, Nat.succ_mul], fcs _ _ (N - E) (E + 1) _ (fun n hn1 hn => skE n (by omega) (by omega) _)]
      rw [tot]
      refine ⟨h', ?_, c2, fun e he => by rw [M1 e he, pe e he], M2, M3, M4⟩
      rw [show nI t + (1 : Int32) = nI (t + 1) from by rw [w1, nI_add], c1, ob]
theorem q_fill29 (v : Int32) (h : jv_H) : fj7_fill_53178_29 v h = some ((), jv_s h 29 (fun i => if 0 ≤ i ∧ i < 6 then v else h.1 29 i)) := by
  unfold fj7_fill_53178_29
  simp only [jl]
  exact fill_gen fj7_fill_53178_29_l5 29 6 (by omega) v (fun f a2 a3 h => by show gj7_fill_53178_29_b5 (fj7_fill_53178_29_l5 f) _ _ _ h = _; unfold gj7_fill_53178_29_b5; simp only [jl]) 6 0 jv_fuel h (by omega) (by unfold jv_fuel; omega)
theorem b_makeBeds {h : jv_H} (V : Vc h N M P y D ht pl ow) (hL8 : L ≤ 198) (CS : ∀ s t, s < N → t < N → (D 2 s).testBit t = (D 2 t).testBit s) : ∃ h', f0_makeBeds_28 (nI L) h = some ((), h') ∧ Sm h h' ∧ BL h' N L 0 (fun _ => 0) (fc (okb D ht L N) (vlb N) ((N + 1) ^ N) 0 (0, 0)) := by
  have n6 := V.n6
  have s1 : Sm h (jv_s (jv_p (jv_p h 28 2 (nI L)) 28 4 (-1)) 29 (fun i => if 0 ≤ i ∧ i < 6 then -9 else (jv_p (jv_p h 28 2 (nI L)) 28 4 (-1)).1 29 i)) := (((Sm.rf h).p _ _ _ (by unfold jq_s; omega)).p _ _ _ (by unfold jq_s; omega)).s 29 _ (fun j => by unfold jq_s; omega)
  obtain ⟨h', g1, g2, g3⟩ := q_to n6 hL8 CS N 0 jv_deep _ 0 (fun _ => 0) (0, 0) (V.sm s1) (by omega) (by unfold jv_deep; omega) ⟨fun e he => by omega, fun e he => by omega, fun e1 e2 he => by omega⟩ ⟨fun e he => by
      rw [s_at, if_pos (by omega)]
      exact (if_pos (by unfold pt; rw [if_neg (by omega)]; rfl)).symm, by rw [s_ne _ _ (by omega), q_p_j _ (by omega), q_p_same], by rw [s_ne _ _ (by omega), q_p_same]; rfl, fun q => absurd q (by decide)⟩ (by show 0 ≤ N + 1; omega) (fun c _ _ e he => by omega)
  rw [Nat.zero_mul] at g3
  refine ⟨h', ?_, s1.tr g2, g3⟩
  unfold f0_makeBeds_28
  simp only [jl]
  rw [q_fill29, ob]
  have g1 : f0_tryOthers_28 jv_deep 0 0 (jv_s (jv_p (jv_p h 28 2 (nI L)) 28 4 (-1)) 29 (fun i => if 0 ≤ i ∧ i < 6 then -9 else (jv_p (jv_p h 28 2 (nI L)) 28 4 (-1)).1 29 i)) = some ((), h') := g1
  rw [g1, ob]
-- the reference
theorem b_isBed {h : jv_H} (W : Vm h N M y D ht pl ow) {a b : Nat} (ha : a < N) (hb : b < N) (hL8 : L ≤ 198) : f9_isBed_40 (nI a) (nI b) (nI L) h = some (if bd D ht L a b then 1 else 0, h) := by
  have n6 := W.n6
  have hc := W.cl ha
  have h1 := W.hea ha
  have h2 := W.hea hb
  have h1' := h1.1
  have h2' := h2.1
  unfold f9_isBed_40 bd
  by_cases q : a = b
  · rw [if_pos (by rw [q])]
    simp [q]
  · rw [if_neg (by rw [q_eq (by omega) (by omega)]; exact q), if_pos (by rw [q_ix (by omega)]; omega), q_cl (by omega), hc.1, q_has (by omega) hc.2, ob]
    simp only [q_mheat (show a < 6 by omega), q_mheat (show b < 6 by omega), ob, h1.2, h2.2, nI_add]
    cases hq : (D 2 a).testBit b with
    | true => rw [if_neg (by decide)]; simp
    | false =>
      rw [if_pos (by decide)]
      by_cases r : ht a + ht b ≤ L
      · rw [if_neg (by rw [q_lt (by omega) (by omega)]; omega)]
        simp [q, r]
      · rw [if_pos (by rw [q_lt (by omega) (by omega)]; omega)]
        simp [r]
theorem q_bb2 {h : jv_H} (W : Vm h N M y D ht pl ow) (hL8 : L ≤ 198) {g : Nat → Nat} (hg : ∀ e, e < N → g e ≤ N) (h60 : ∀ e, e < N → h.1 59 e = nI (g e)) : ∀ (m a fuel : Nat), a + m = N → m < fuel → f9_bedsBy_40_l51 fuel (nI L) (nI (cn (bp N g) a)) (nI a) h = some (if bok D ht L N g m a then nI (cn (bp N g) N) else -9, h) := by
  have n6 := W.n6
  intro m
  induction m with
  | zero =>
    intro a fuel ha hf
    obtain ⟨u, rfl⟩ : ∃ n, fuel = n + 1 := ⟨fuel - 1, by omega⟩
    have : a = N := by omega
    subst this
    show g9_bedsBy_40_b51 (f9_bedsBy_40_l51 u) _ _ _ h = _
    unfold g9_bedsBy_40_b51
    rw [W.nt, if_pos (by rw [q_le (by omega) (by omega)]; omega)]
    rfl
  | succ m ih =>
    intro a fuel ha hf
    obtain ⟨u, rfl⟩ : ∃ n, fuel = n + 1 := ⟨fuel - 1, by omega⟩
    have ih := ih (a + 1) u (by omega) (by omega)
    have hga := hg a (by omega)
    simp only [cn] at ih
    show g9_bedsBy_40_b51 (f9_bedsBy_40_l51 u) _ _ _ h = _
    unfold g9_bedsBy_40_b51 g9_bedsBy_40_b119 g9_bedsBy_40_b122 bok
    rw [W.nt, if_neg (by rw [q_le (by omega) (by omega)]; omega), if_pos (by rw [q_ix (by omega)]; omega), q_cl (by omega), h60 a (by omega)]
    simp only [jl]
    rw [show nI a + (1 : Int32) = nI (a + 1) from by rw [w1, nI_add]]
    by_cases q : N ≤ g a
    · rw [if_pos (by rw [q_le (by omega) (by omega)]; exact q)]
      rw [show bp N g a = false from by unfold bp; simp [show ¬ g a < N by omega]] at ih
      simp only [Bool.false_eq_true, if_false, Nat.add_zero] at ih
      rw [ih]
      simp [q]
    · have hgg := hg (g a) (by omega)
      rw [if_neg (by rw [q_le (by omega) (by omega)]; exact q), if_pos (by rw [q_ix (by omega)]; omega), q_cl (by omega), h60 (g a) (by omega)]
      by_cases r : g (g a) = a
      · rw [if_pos (by rw [r]), b_isBed W (by omega) (by omega) hL8, ob]
        cases hbd : bd D ht L a (g a) with
        | false =>
          rw [if_pos (show (if false = true then (1 : Int32) else 0, h).1 = 0 from rfl)]
          simp [q]
        | true =>
          rw [if_neg (show ¬ (if true = true then (1 : Int32) else 0, h).1 = 0 from (by decide : ¬ (1 : Int32) = 0))]
          by_cases v : a < g a
          · rw [if_neg (by rw [q_le (by omega) (by omega)]; omega), w1, nI_add]
            rw [show bp N g a = true from by unfold bp; simp [v, show g a < N by omega]] at ih
            simp only [if_true] at ih
            rw [ih]
            simp [r]
          · rw [if_pos (by rw [q_le (by omega) (by omega)]; omega), w0, nI_add]
            rw [show bp N g a = false from by unfold bp; simp [v]] at ih
            simp only [Bool.false_eq_true, if_false] at ih
            rw [ih]
            simp [r]
      · rw [if_neg (by rw [q_eq (by omega) (by omega)]; exact r)]
        simp [q, r]
theorem q_bb1 (n6 : N ≤ 6) (hL8 : L ≤ 198) {c : Nat} (hc : c < 2000000) : ∀ (m fuel : Nat) (h : jv_H), Vm h N M y D ht pl ow → m ≤ N → m < fuel → (∀ e, m ≤ e → e < N → h.1 59 e = nI (dg (N + 1) N c e)) → ∃ h', f9_bedsBy_40_l13 fuel (nI L) (nI (c / (N + 1) ^ (N - m))) (nI 0) (enc m) h = some (if okb D ht L N c then nI (vlb N c) else -9, h') ∧ (∀ k, ¬ k = 59 → h'.1 k = h.1 k) ∧ h'.2 = h.2 ∧ ∀ e, e < N → h'.1 59 e = nI (dg (N + 1) N c e) := by
  intro m
  induction m with
  | zero =>
    intro fuel h W hm hf h60
    obtain ⟨u, rfl⟩ : ∃ n, fuel = n + 1 := ⟨fuel - 1, by omega⟩
    have hq := fun e he => h60 e (by omega) he
    refine ⟨h, ?_, fun _ _ => rfl, rfl, hq⟩
    show g9_bedsBy_40_b13 (f9_bedsBy_40_l13 u) _ _ _ _ h = _
    unfold g9_bedsBy_40_b13
    rw [if_pos (by rw [enc_neg (by omega)]), jl]
    exact q_bb2 W hL8 (fun e _ => Nat.le_of_lt_succ (dg_lt (by omega))) hq N 0 jv_fuel (by omega) (by unfold jv_fuel; omega)
  | succ m ih =>
    intro fuel h W hm hf h60
    obtain ⟨u, rfl⟩ : ∃ n, fuel = n + 1 := ⟨fuel - 1, by omega⟩
    have hmod : c / (N + 1) ^ (N - (m + 1)) % (N + 1) = dg (N + 1) N c m := by
      unfold dg
      rw [show N - (m + 1) = N - 1 - m by omega]
    have hdiv : c / (N + 1) ^ (N - (m + 1)) / (N + 1) = c / (N + 1) ^ (N - m) := by
      rw [Nat.div_div_eq_div_mul, ← Nat.pow_succ, show (N - (m + 1)).succ = N - m by omega]
    have hcl : c / (N + 1) ^ (N - (m + 1)) ≤ c := Nat.div_le_self _ _
    have hB : nI N + (1 : Int32) = nI (N + 1) := by rw [w1, nI_add]
    have hB0 : ¬ nI (N + 1) = 0 := by rw [q_eq0 (by omega)]; omega
    have W1 : Vm (jv_p h 59 m (nI (dg (N + 1) N c m))) N M y D ht pl ow := W.fr (fun k hk => by rw [q_p_k _ (by omega)])
    obtain ⟨h', g1, g2, g3, g4⟩ := ih u _ W1 (by omega) (by omega) (fun e e1 e2 => by
      rw [q_p_if]
      by_cases q : e = m
      · rw [if_pos q, q]
      · rw [if_neg q]; exact h60 e (by omega) e2)
    refine ⟨h', ?_, fun k k1 => by rw [g2 k k1, q_p_k _ k1], by rw [g3, q_p_2], g4⟩
    show g9_bedsBy_40_b13 (f9_bedsBy_40_l13 u) _ _ _ _ h = _
    unfold g9_bedsBy_40_b13
    rw [W.nt, hB, enc_s, if_neg (by rw [q_lt0 (by omega)]; exact fun h => h), if_neg hB0, if_pos (by rw [q_ix (by omega)]; omega), q_mod (by omega) (by omega) (by omega), hmod, q_cl (by omega), jl, W1.nt, hB, if_neg hB0, pk_div (by omega) (by omega) (by omega), hdiv, jl, jl, nI_m1]
    exact g1
theorem b_bedsBy {h : jv_H} (W : Vm h N M y D ht pl ow) (hL8 : L ≤ 198) {c : Nat} (hc : c < 2000000) : ∃ h', f9_bedsBy_40 (nI c) (nI L) h = some (if okb D ht L N c then nI (vlb N c) else -9, h') ∧ (∀ k, ¬ k = 59 → h'.1 k = h.1 k) ∧ h'.2 = h.2 ∧ ∀ e, e < N → h'.1 59 e = nI (dg (N + 1) N c e) := by
  have n6 := W.n6
  obtain ⟨h', g1, g2⟩ := q_bb1 n6 hL8 hc N jv_fuel h W (Nat.le_refl _) (by unfold jv_fuel; omega) (fun e e1 e2 => by omega)
  refine ⟨h', ?_, g2⟩
  unfold f9_bedsBy_40
  rw [jl, jl, jl, W.nt, nI_s1]
  rw [Nat.sub_self, Nat.pow_zero, Nat.div_one] at g1
  exact g1
theorem q_bcopy (n6 : N ≤ 6) (k62 : Int32 → Int32 → Int32 → Int32 → Int32 → jv_H → Option (Int32 × jv_H)) {a1 a2 a3 a4 a5 : Int32} : ∀ (d i fuel : Nat) (h : jv_H), h.1 40 0 = nI N → i + d = N → d < fuel → f9_beds_40_l91 k62 fuel a1 a2 a3 a4 a5 (nI i) h = g9_beds_40_b120 k62 a1 a2 a3 a4 a5 (jv_s h 60 (fun j => if i ≤ j ∧ j < N then h.1 59 j else h.1 60 j)) := by
  intro d
  induction d with
  | zero =>
    intro i fuel h hN hi hf
    obtain ⟨f, rfl⟩ : ∃ n, fuel = n + 1 := ⟨fuel - 1, by omega⟩
    show g9_beds_40_b91 k62 (f9_beds_40_l91 k62 f) _ _ _ _ _ _ h = _
    unfold g9_beds_40_b91
    rw [hN, if_pos (by rw [q_le (by omega) (by omega)]; omega)]
    have : (fun j => if i ≤ j ∧ j < N then h.1 59 j else h.1 60 j) = h.1 60 := by
      funext j
      rw [if_neg (by omega)]
    rw [this]
    congr 1
    unfold jv_s
    ext a : 1
    · funext a
      by_cases ha : a = 60 <;> simp [ha]
    · rfl
  | succ d ih =>
    intro i fuel h hN hi hf
    obtain ⟨f, rfl⟩ : ∃ n, fuel = n + 1 := ⟨fuel - 1, by omega⟩
    show g9_beds_40_b91 k62 (f9_beds_40_l91 k62 f) _ _ _ _ _ _ h = _
    unfold g9_beds_40_b91
    rw [hN, if_neg (by rw [q_le (by omega) (by omega)]; omega), if_pos (by rw [q_ix (by omega)]; omega), if_pos (by rw [q_ix (by omega)]; omega), q_cl (by omega)]
    simp only [jl]
    rw [w1, nI_add, ih (i + 1) f _ (by rw [q_p_k _ (by omega)]; exact hN) (by omega) (by omega), s_p]
    congr 2
    funext j
    by_cases hj : j = i
    · subst hj
      simp (disch := omega) only [if_neg, if_pos, q_p_same]
    · by_cases h2 : i ≤ j ∧ j < N
      · simp (disch := omega) only [if_pos, q_p_k]
      · simp (disch := omega) only [if_neg, q_p_j]
theorem bb_le (n6 : N ≤ 6) : (N + 1) ^ N ≤ 117649 := Nat.le_trans (Nat.pow_le_pow_left (show N + 1 ≤ 7 by omega) N) (Nat.le_trans (Nat.pow_le_pow_right (by omega) n6) (by decide))
theorem enc_m9 {b : Nat} (hb : b < 2000000) : (-9 : Int32) ≤ enc b := by
  rw [Int32.le_iff_toInt_le, enc_ti hb, show (-9 : Int32).toInt = -9 from by decide]
  omega
theorem q_mbeds (hL8 : L ≤ 198) {a2 : Int32} : ∀ (m c fuel : Nat) (h : jv_H) (s : Nat × Nat), Vm h N M y D ht pl ow → c + m = (N + 1) ^ N → m < fuel → s.1 ≤ N + 1 → (0 < s.1 → ∀ e, e < N → h.1 60 e = nI (dg (N + 1) N s.2 e)) → ∃ h' f', f9_beds_40_l62 fuel (nI L) a2 (nI ((N + 1) ^ N)) (enc s.1) (nI c) h = g9_beds_40_b62 f' (nI L) a2 (nI ((N + 1) ^ N)) (enc (fc (okb D ht L N) (vlb N) m c s).1) (nI ((N + 1) ^ N)) h' ∧ Sm h h' ∧ (0 < (fc (okb D ht L N) (vlb N) m c s).1 → ∀ e, e < N → h'.1 60 e = nI (dg (N + 1) N (fc (okb D ht L N) (vlb N) m c s).2 e)) := by
  intro m
  induction m with
  | zero =>
    intro c fuel h s W hc hf hs h61
    obtain ⟨f, rfl⟩ : ∃ n, fuel = n + 1 := ⟨fuel - 1, by omega⟩
    have : c = (N + 1) ^ N := by omega
    subst this
    exact ⟨h, f9_beds_40_l62 f, rfl, Sm.rf h, h61⟩
  | succ m ih =>
    intro c fuel h s W hc hf hs h61
    obtain ⟨f, rfl⟩ : ∃ n, fuel = n + 1 := ⟨fuel - 1, by omega⟩
    have n6 := W.n6
    have bw := bb_le n6
    obtain ⟨h1, f1, f2, f3, f4⟩ := b_bedsBy W hL8 (c := c) (by omega)
    have s1 : Sm h h1 := ⟨fun k j q => by rw [f2 k (fun e => q (by unfold jq_s; omega))], f3⟩
    have W1 := W.sm s1
    have vle := vlb_le N c
    have hnext : ∀ (h2 : jv_H) (s2 : Nat × Nat), Sm h h2 → s2.1 ≤ N + 1 → (0 < s2.1 → ∀ e, e < N → h2.1 60 e = nI (dg (N + 1) N s2.2 e)) → stp (okb D ht L N) (vlb N) s c = s2 → ∃ h' f', g9_beds_40_b120 (f9_beds_40_l62 f) (nI L) a2 (nI ((N + 1) ^ N)) (enc s2.1) (nI c) h2 = g9_beds_40_b62 f' (nI L) a2 (nI ((N + 1) ^ N)) (enc (fc (okb D ht L N) (vlb N) (m + 1) c s).1) (nI ((N + 1) ^ N)) h' ∧ Sm h h' ∧ (0 < (fc (okb D ht L N) (vlb N) (m + 1) c s).1 → ∀ e, e < N → h'.1 60 e = nI (dg (N + 1) N (fc (okb D ht L N) (vlb N) (m + 1) c s).2 e)) := by
      intro h2 s2 sm2 hs2 hm2 hst
      obtain ⟨h', f', i1, i2, i3⟩ := ih (c + 1) f h2 s2 (W.sm sm2) (by omega) (by omega) hs2 hm2
      have : fc (okb D ht L N) (vlb N) (m + 1) c s = fc (okb D ht L N) (vlb N) m (c + 1) s2 := by rw [← hst]; rfl
      rw [this]
      refine ⟨h', f', ?_, sm2.tr i2, i3⟩
      unfold g9_beds_40_b120
      rw [jl, w1, nI_add]
      exact i1
    have W61 : ∀ e, h1.1 60 e = h.1 60 e := fun e => by rw [f2 60 (by omega)]
    show ∃ h' f', g9_beds_40_b62 (f9_beds_40_l62 f) (nI L) a2 (nI ((N + 1) ^ N)) (enc s.1) (nI c) h = _ ∧ _
    conv => enter [1, h', 1, f', 1, 1]; unfold g9_beds_40_b62
    rw [if_neg (by rw [q_le (by omega) (by omega)]; omega), f1, ob, jl]
    cases hok : okb D ht L N c with
    | false =>
      rw [if_pos (show (if false = true then nI (vlb N c) else -9, h1).1 ≤ enc s.1 from enc_m9 (by omega))]
      exact hnext h1 s s1 hs (fun q e he => by rw [W61]; exact h61 q e he) (by unfold stp; rw [hok]; rfl)
    | true =>
      by_cases q : s.1 ≤ vlb N c
      · rw [if_neg (show ¬ (if true = true then nI (vlb N c) else -9, h1).1 ≤ enc s.1 from by show ¬ nI (vlb N c) ≤ enc s.1; rw [enc_ge (by omega) (by omega)]; omega), jl, jl, w0, q_bcopy n6 (f9_beds_40_l62 f) N 0 jv_fuel _ W1.nt (by omega) (by unfold jv_fuel; omega)]
        exact hnext _ (vlb N c + 1, c) (s1.s 60 _ (fun j => by unfold jq_s; omega)) (by show vlb N c + 1 ≤ N + 1; omega) (fun _ e he => by rw [s_at, if_pos (by omega)]; exact f4 e he) (by unfold stp; rw [hok, Bool.true_and, if_pos (by simpa using q)])
      · rw [if_pos (show (if true = true then nI (vlb N c) else -9, h1).1 ≤ enc s.1 from by show nI (vlb N c) ≤ enc s.1; rw [enc_ge (by omega) (by omega)]; omega)]
        exact hnext h1 s s1 hs (fun q e he => by rw [W61]; exact h61 q e he) (by unfold stp; rw [hok, Bool.true_and, if_neg (by simpa using q)])
theorem q_bways {h : jv_H} (W : Vm h N M y D ht pl ow) {a1 a2 a4 : Int32} : ∀ (d i fuel : Nat), i + d = N → d < fuel → f9_beds_40_l35 fuel a1 a2 (nI ((N + 1) ^ i)) a4 (nI i) h = f9_beds_40_l62 jv_fuel a1 a2 (nI ((N + 1) ^ N)) a4 0 h := by
  have n6 := W.n6
  intro d
  induction d with
  | zero =>
    intro i fuel hi hf
    obtain ⟨f, rfl⟩ : ∃ n, fuel = n + 1 := ⟨fuel - 1, by omega⟩
    have : i = N := by omega
    subst this
    show g9_beds_40_b35 (f9_beds_40_l35 f) _ _ _ _ _ h = _
    unfold g9_beds_40_b35
    rw [W.nt, if_pos (by rw [q_le (by omega) (by omega)]; omega), jl]
  | succ d ih =>
    intro i fuel hi hf
    obtain ⟨f, rfl⟩ : ∃ n, fuel = n + 1 := ⟨fuel - 1, by omega⟩
    show g9_beds_40_b35 (f9_beds_40_l35 f) _ _ _ _ _ h = _
    unfold g9_beds_40_b35
    rw [W.nt, if_neg (by rw [q_le (by omega) (by omega)]; omega), jl, jl, w1, nI_add, nI_add, pk_mul, ← Nat.pow_succ]
    exact ih (i + 1) f (by omega) (by omega)
theorem okb_top : ∃ c, c < (N + 1) ^ N ∧ okb D ht L N c = true := by
  obtain ⟨c, c1, c2⟩ := dg_all (B := N + 1) (by omega) N (fun _ => N) (fun e _ => by omega)
  refine ⟨c, c1, ?_⟩
  rw [okb_iff]
  intro e he hM
  rw [c2 e he] at hM
  omega
end BE
theorem p_beds : ok_beds Inv := by
  intro l a h hI
  obtain ⟨N, M, P, y, D, ht, pl, ow, V, W, CS, -⟩ := hI.vw
  have n6 := V.n6
  have h10 : ¬ (1 : Int32) = 0 := by decide
  have bw := bb_le n6
  by_cases hl : (0 : Int) ≤ l.toInt ∧ l.toInt ≤ 198
  · obtain ⟨L, hL, rfl⟩ : ∃ t, t < 199 ∧ l = nI t := by
      rcases q_arg l 199 (by omega) with q | q
      · exact q
      · exact absurd hl (by omega)
    obtain ⟨h1, f1, f2, L1, L2, L3, L4⟩ := b_makeBeds V (L := L) (by omega) CS
    have W1 := W.sm f2
    obtain ⟨h2, f', g1, g2, g3⟩ := q_mbeds (L := L) (by omega) (a2 := a) ((N + 1) ^ N) 0 jv_fuel h1 (0, 0) W1 (by omega) (by unfold jv_fuel; omega) (by show 0 ≤ N + 1; omega) (fun q => absurd q (by decide))
    obtain ⟨c, c1, c2⟩ := okb_top (N := N) (D := D) (ht := ht) (L := L)
    have hpos := fc_pos (okb D ht L N) (vlb N) ((N + 1) ^ N) 0 (0, 0) c (by omega) (by omega) c2
    have L4 := L4 hpos
    have g3 := g3 hpos
    have W2 : Vm h2 N M y D ht pl ow := W1.sm g2
    have I2 : Inv h2 := (hI.sm f2).sm g2
    have g1 : f9_beds_40_l62 jv_fuel (nI L) a (nI ((N + 1) ^ N)) (-1) 0 h1 = g9_beds_40_b62 f' (nI L) a (nI ((N + 1) ^ N)) (enc (fc (okb D ht L N) (vlb N) ((N + 1) ^ N) 0 (0, 0)).1) (nI ((N + 1) ^ N)) h2 := g1
    generalize fc (okb D ht L N) (vlb N) ((N + 1) ^ N) 0 (0, 0) = s at *
    have fin : g9_beds_40_b27 (nI L) a h1 = if a = -1 then some (enc s.1, h2) else if jv_ix a 6 then if h2.1 60 (Int32.toNatClampNeg a) = h2.1 40 0 then some (-9, h2) else if jv_ix a 6 then some (h2.1 60 (Int32.toNatClampNeg a), h2) else none else none := by
      unfold g9_beds_40_b27
      rw [jl, jl, jl]
      have := q_bways W1 (a1 := nI L) (a2 := a) (a4 := -1) N 0 jv_fuel (by omega) (by unfold jv_fuel; omega)
      have this : f9_beds_40_l35 jv_fuel (nI L) a 1 (-1) 0 h1 = f9_beds_40_l62 jv_fuel (nI L) a (nI ((N + 1) ^ N)) (-1) 0 h1 := this
      rw [this, g1]
      unfold g9_beds_40_b62
      rw [if_pos (by rw [q_le (by omega) (by omega)]; omega)]
    by_cases ha : a = -1
    · refine ⟨enc s.1, h1, h2, ?_, ?_, I2⟩
      · unfold f8_beds_0 g8_beds_0_b31
        simp only [q_within, show (0 : Int32).toInt = 0 from rfl, show (198 : Int32).toInt = 198 from rfl, if_pos hl, ob, if_neg h10, if_pos ha, f1, L3]
      · unfold f9_beds_40
        simp only [q_in, show (0 : Int64).toInt = 0 from rfl, show (198 : Int64).toInt = 198 from rfl, if_pos hl, ob, if_neg h10, if_pos ha, fin]
    · rcases q_arg a N (by omega) with ⟨t, htN, rfl⟩ | hb
      · have hb : 0 ≤ (nI t).toInt ∧ (nI t).toInt < N := by rw [q_ti (by omega)]; omega
        have hdg : dg (N + 1) N s.2 t < N + 1 := dg_lt (by omega)
        refine ⟨cv N (dg (N + 1) N s.2 t), h1, h2, ?_, ?_, I2⟩
        · unfold f8_beds_0 g8_beds_0_b31
          simp only [q_within, show (0 : Int32).toInt = 0 from rfl, show (198 : Int32).toInt = 198 from rfl, if_pos hl, ob, if_neg h10, if_neg ha, q_hasT _ V.nt n6, if_pos hb, f1]
          rw [if_pos (by rw [q_ix (by omega)]; omega), q_cl (by omega), L4 t htN]
        · unfold f9_beds_40
          simp only [q_in, show (0 : Int64).toInt = 0 from rfl, show (198 : Int64).toInt = 198 from rfl, if_pos hl, ob, if_neg h10, if_neg ha, q_isT _ W1.nt n6, if_pos hb, fin]
          rw [if_pos (by rw [q_ix (by omega)]; omega), q_cl (by omega), g3 t htN, W2.nt]
          unfold cv
          by_cases q : dg (N + 1) N s.2 t = N
          · rw [if_pos q, if_pos (show nI (dg (N + 1) N s.2 t) = nI N by rw [q])]
          · rw [if_neg q, if_neg (show ¬ nI (dg (N + 1) N s.2 t) = nI N by rw [q_eq (by omega) (by omega)]; exact q), if_pos (by rw [q_ix (by omega)]; omega)]
      · refine ⟨-1, h, h, ?_, ?_, hI⟩
        · unfold f8_beds_0
          simp only [q_within, show (0 : Int32).toInt = 0 from rfl, show (198 : Int32).toInt = 198 from rfl, if_pos hl, ob, if_neg h10, if_neg ha, q_hasT _ V.nt n6, if_neg hb]
          rfl
        · unfold f9_beds_40
          simp only [q_in, show (0 : Int64).toInt = 0 from rfl, show (198 : Int64).toInt = 198 from rfl, if_pos hl, ob, if_neg h10, if_neg ha, q_isT _ W.nt n6, if_neg hb]
          rfl
  · refine ⟨-1, h, h, ?_, ?_, hI⟩
    · unfold f8_beds_0
      simp only [q_within, show (0 : Int32).toInt = 0 from rfl, show (198 : Int32).toInt = 198 from rfl, if_neg hl, ob]
      rfl
    · unfold f9_beds_40
      simp only [q_in, show (0 : Int64).toInt = 0 from rfl, show (198 : Int64).toInt = 198 from rfl, if_neg hl, ob]
      rfl
