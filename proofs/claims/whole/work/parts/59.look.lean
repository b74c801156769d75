/-! hill: the reference's tokens -/
def Tm (h : jv_H) (T : Nat → Nat) (L : Nat) : Prop := L ≤ 120 ∧ h.1 40 16 = nI L ∧ (∀ j, j < L → h.1 52 j = nI (T j)) ∧ ∀ j, T j ≤ 255
def R41 (h0 h : jv_H) (a b c d : Int32) : Prop := (∀ k, ¬ k = 40 → h.1 k = h0.1 k) ∧ (∀ j, ¬ j = 17 → ¬ j = 18 → ¬ j = 19 → ¬ j = 20 → h.1 40 j = h0.1 40 j) ∧ h.2 = h0.2 ∧ h.1 40 17 = a ∧ h.1 40 18 = b ∧ h.1 40 19 = c ∧ h.1 40 20 = d
theorem R41.w17 {h0 h : jv_H} {a b c d : Int32} (r : R41 h0 h a b c d) (v : Int32) : R41 h0 (jv_p h 40 17 v) v b c d := by
  obtain ⟨r1, r2, r3, r4, r5, r6, r7⟩ := r
  exact ⟨fun k hk => by rw [q_p_k _ hk]; exact r1 k hk, fun j h1 h2 h3 h4 => by rw [q_p_j _ (by omega)]; exact r2 j h1 h2 h3 h4, r3, q_p_same _ _ _ _, by rw [q_p_j _ (by omega)]; exact r5, by rw [q_p_j _ (by omega)]; exact r6, by rw [q_p_j _ (by omega)]; exact r7⟩
theorem R41.w18 {h0 h : jv_H} {a b c d : Int32} (r : R41 h0 h a b c d) (v : Int32) : R41 h0 (jv_p h 40 18 v) a v c d := by
  obtain ⟨r1, r2, r3, r4, r5, r6, r7⟩ := r
  exact ⟨fun k hk => by rw [q_p_k _ hk]; exact r1 k hk, fun j h1 h2 h3 h4 => by rw [q_p_j _ (by omega)]; exact r2 j h1 h2 h3 h4, r3, by rw [q_p_j _ (by omega)]; exact r4, q_p_same _ _ _ _, by rw [q_p_j _ (by omega)]; exact r6, by rw [q_p_j _ (by omega)]; exact r7⟩
theorem R41.w19 {h0 h : jv_H} {a b c d : Int32} (r : R41 h0 h a b c d) (v : Int32) : R41 h0 (jv_p h 40 19 v) a b v d := by
  obtain ⟨r1, r2, r3, r4, r5, r6, r7⟩ := r
  exact ⟨fun k hk => by rw [q_p_k _ hk]; exact r1 k hk, fun j h1 h2 h3 h4 => by rw [q_p_j _ (by omega)]; exact r2 j h1 h2 h3 h4, r3, by rw [q_p_j _ (by omega)]; exact r4, by rw [q_p_j _ (by omega)]; exact r5, q_p_same _ _ _ _, by rw [q_p_j _ (by omega)]; exact r7⟩
theorem R41.w20 {h0 h : jv_H} {a b c d : Int32} (r : R41 h0 h a b c d) (v : Int32) : R41 h0 (jv_p h 40 20 v) a b c v := by
  obtain ⟨r1, r2, r3, r4, r5, r6, r7⟩ := r
  exact ⟨fun k hk => by rw [q_p_k _ hk]; exact r1 k hk, fun j h1 h2 h3 h4 => by rw [q_p_j _ (by omega)]; exact r2 j h1 h2 h3 h4, r3, by rw [q_p_j _ (by omega)]; exact r4, by rw [q_p_j _ (by omega)]; exact r5, by rw [q_p_j _ (by omega)]; exact r6, q_p_same _ _ _ _⟩
theorem Tm.r {h0 h : jv_H} {a b c d : Int32} {T : Nat → Nat} {L : Nat} (t : Tm h0 T L) (r : R41 h0 h a b c d) : Tm h T L := ⟨t.1, by rw [r.2.1 16 (by omega) (by omega) (by omega) (by omega)]; exact t.2.1, fun j hj => by rw [r.1 52 (by omega)]; exact t.2.2.1 j hj, t.2.2.2⟩
section MT
variable {h : jv_H} {T : Nat → Nat} {L : Nat}
theorem q_btw (t : Tm h T L) {x lo hi : Nat} (hx : x ≤ L) (hl : lo < 1000) (hh : hi < 1000) : f9_isBetween_40 (nI x) (nI lo) (nI hi) h = some (if decide (x < L) && (decide (lo ≤ T x) && decide (T x ≤ hi)) then 1 else 0, h) := by
  have h1 := t.1
  have h2 := t.2.2.2 x
  unfold f9_isBetween_40
  rw [t.2.1]
  by_cases c : x < L
  · have hix : jv_ix (nI x) 120 := by rw [q_ix (by omega)]; omega
    rw [if_neg (by rw [q_le (by omega) (by omega)]; omega)]
    simp only [if_pos hix]
    rw [q_cl (by omega), t.2.2.1 x c]
    by_cases d : lo ≤ T x
    · rw [if_neg (by rw [q_lt (by omega) (by omega)]; omega)]
      by_cases e : T x ≤ hi
      · rw [if_neg (by rw [q_lt (by omega) (by omega)]; omega)]; simp [c, d, e]
      · rw [if_pos (by rw [q_lt (by omega) (by omega)]; omega)]; simp [e]
    · rw [if_pos (by rw [q_lt (by omega) (by omega)]; omega)]; simp [d]
  · rw [if_pos (by rw [q_le (by omega) (by omega)]; omega)]; simp [c]
theorem q_msp (t : Tm h T L) : ∀ (m x fuel : Nat), x + m = L → m < fuel → f9_lookAt_40_l2 fuel (nI x) h = g9_lookAt_40_b27 (nI (rn isS T m x)) h := by
  have hL := t.1
  intro m
  induction m with
  | zero =>
    intro x fuel hx hf
    obtain ⟨u, rfl⟩ : ∃ n, fuel = n + 1 := ⟨fuel - 1, by omega⟩
    show g9_lookAt_40_b2 (f9_lookAt_40_l2 u) _ h = _
    unfold g9_lookAt_40_b2
    rw [t.2.1, if_pos (by rw [q_le (by omega) (by omega)]; omega)]
    rfl
  | succ m ih =>
    intro x fuel hx hf
    obtain ⟨u, rfl⟩ : ∃ n, fuel = n + 1 := ⟨fuel - 1, by omega⟩
    have hb := t.2.2.2 x
    show g9_lookAt_40_b2 (f9_lookAt_40_l2 u) _ h = _
    unfold g9_lookAt_40_b2 rn
    rw [t.2.1, if_neg (by rw [q_le (by omega) (by omega)]; omega), if_pos (by rw [q_ix (by omega)]; omega), q_cl (by omega), t.2.2.1 x (by omega)]
    by_cases c : T x = 32
    · rw [if_pos (show nI (T x) = 32 by rw [c]; rfl), if_pos (by unfold isS; simp [c]), jl, w1, nI_add]
      exact ih (x + 1) u (by omega) (by omega)
    · rw [if_neg (show ¬ nI (T x) = 32 by rw [show (32 : Int32) = nI 32 from rfl, q_eq (by omega) (by omega)]; exact c), if_neg (by unfold isS; simp [c])]
theorem q_mrl (t : Tm h T L) {b d : Int32} : ∀ (m x fuel : Nat) (h1 : jv_H), R41 h h1 1 b (nI x) d → x + m = L → m < fuel → ∃ h2, f9_lookAt_40_l108 fuel h1 = g9_lookAt_40_b167 h2 ∧ R41 h h2 1 b (nI (rn isL T m x)) d := by
  have hL := t.1
  intro m
  induction m with
  | zero =>
    intro x fuel h1 r hx hf
    obtain ⟨u, rfl⟩ : ∃ n, fuel = n + 1 := ⟨fuel - 1, by omega⟩
    refine ⟨h1, ?_, r⟩
    show g9_lookAt_40_b108 (f9_lookAt_40_l108 u) h1 = _
    unfold g9_lookAt_40_b108 g9_lookAt_40_b131
    rw [r.2.2.2.1, if_pos rfl, r.2.2.2.2.2.1, w97, w122, q_btw (t.r r) (by omega) (by omega) (by omega), ob]
    rw [show (decide (x < L) && (decide (97 ≤ T x) && decide (T x ≤ 122))) = false from by simp [show ¬ x < L by omega], if_pos (show (if false = true then (1 : Int32) else 0, h1).1 = 0 from rfl)]
    show (if h1.1 40 17 = 2 then _ else g9_lookAt_40_b167 h1) = _
    rw [r.2.2.2.1, if_neg (by decide)]
  | succ m ih =>
    intro x fuel h1 r hx hf
    obtain ⟨u, rfl⟩ : ∃ n, fuel = n + 1 := ⟨fuel - 1, by omega⟩
    show ∃ h2, g9_lookAt_40_b108 (f9_lookAt_40_l108 u) h1 = _ ∧ _
    unfold g9_lookAt_40_b108 g9_lookAt_40_b131 g9_lookAt_40_b154 rn
    rw [r.2.2.2.1, if_pos rfl, r.2.2.2.2.2.1, w97, w122, q_btw (t.r r) (by omega) (by omega) (by omega), ob]
    rw [show (decide (x < L) && (decide (97 ≤ T x) && decide (T x ≤ 122))) = isL (T x) from by simp [show x < L by omega, isL]]
    cases c : isL (T x) with
    | true =>
      rw [if_neg (show ¬ (if true = true then (1 : Int32) else 0, h1).1 = 0 from (by decide : ¬ (1 : Int32) = 0)), jl, if_pos rfl, r.2.2.2.2.2.1, w1, nI_add]
      exact ih (x + 1) u _ (r.w19 _) (by omega) (by omega)
    | false =>
      rw [if_pos (show (if false = true then (1 : Int32) else 0, h1).1 = 0 from rfl), if_neg (by decide : ¬ false = true)]
      refine ⟨h1, ?_, r⟩
      show (if h1.1 40 17 = 2 then _ else g9_lookAt_40_b167 h1) = _
      rw [r.2.2.2.1, if_neg (by decide)]
theorem q_mrd (t : Tm h T L) {b d : Int32} : ∀ (m x fuel : Nat) (h1 : jv_H), R41 h h1 2 b (nI x) d → x + m = L → m < fuel → ∃ h2, f9_lookAt_40_l108 fuel h1 = g9_lookAt_40_b167 h2 ∧ R41 h h2 2 b (nI (rn isD T m x)) d := by
  have hL := t.1
  intro m
  induction m with
  | zero =>
    intro x fuel h1 r hx hf
    obtain ⟨u, rfl⟩ : ∃ n, fuel = n + 1 := ⟨fuel - 1, by omega⟩
    refine ⟨h1, ?_, r⟩
    show g9_lookAt_40_b108 (f9_lookAt_40_l108 u) h1 = _
    unfold g9_lookAt_40_b108 g9_lookAt_40_b131
    rw [r.2.2.2.1, if_neg (by decide), if_pos rfl, r.2.2.2.2.2.1, show (48 : Int32) = nI 48 from rfl, show (57 : Int32) = nI 57 from rfl, q_btw (t.r r) (by omega) (by omega) (by omega), ob]
    rw [show (decide (x < L) && (decide (48 ≤ T x) && decide (T x ≤ 57))) = false from by simp [show ¬ x < L by omega], if_pos (show (if false = true then (1 : Int32) else 0, h1).1 = 0 from rfl)]
  | succ m ih =>
    intro x fuel h1 r hx hf
    obtain ⟨u, rfl⟩ : ∃ n, fuel = n + 1 := ⟨fuel - 1, by omega⟩
    show ∃ h2, g9_lookAt_40_b108 (f9_lookAt_40_l108 u) h1 = _ ∧ _
    unfold g9_lookAt_40_b108 g9_lookAt_40_b131 g9_lookAt_40_b154 rn
    rw [r.2.2.2.1, if_neg (by decide), if_pos rfl, r.2.2.2.2.2.1, show (48 : Int32) = nI 48 from rfl, show (57 : Int32) = nI 57 from rfl, q_btw (t.r r) (by omega) (by omega) (by omega), ob]
    rw [show (decide (x < L) && (decide (48 ≤ T x) && decide (T x ≤ 57))) = isD (T x) from by simp [show x < L by omega, isD]]
    cases c : isD (T x) with
    | true =>
      rw [if_neg (show ¬ (if true = true then (1 : Int32) else 0, h1).1 = 0 from (by decide : ¬ (1 : Int32) = 0)), jl, if_pos rfl, r.2.2.2.2.2.1, w1, nI_add]
      exact ih (x + 1) u _ (r.w19 _) (by omega) (by omega)
    | false =>
      rw [if_pos (show (if false = true then (1 : Int32) else 0, h1).1 = 0 from rfl), if_neg (by decide : ¬ false = true)]
      exact ⟨h1, rfl, r⟩
theorem q_mdv (t : Tm h T L) {b : Int32} : ∀ (m x fuel : Nat) (h1 : jv_H) (v : Nat), v ≤ 999 → ∀ e, e = rn isD T m x → R41 h h1 2 b (nI e) (nI v) → x + m = L → m < fuel → ∃ h2, f9_lookAt_40_l172 fuel (nI x) h1 = g9_lookAt_40_b231 h2 ∧ R41 h h2 2 b (nI e) (nI (dvr T m x v)) := by
  have hL := t.1
  intro m
  induction m with
  | zero =>
    intro x fuel h1 v hv e he r hx hf
    obtain ⟨u, rfl⟩ : ∃ n, fuel = n + 1 := ⟨fuel - 1, by omega⟩
    have he : e = x := he
    refine ⟨h1, ?_, r⟩
    show g9_lookAt_40_b172 (f9_lookAt_40_l172 u) _ h1 = _
    unfold g9_lookAt_40_b172
    rw [r.2.2.2.2.2.1, if_pos (by rw [q_le (by omega) (by omega)]; omega)]
  | succ m ih =>
    intro x fuel h1 v hv e he r hx hf
    obtain ⟨u, rfl⟩ : ∃ n, fuel = n + 1 := ⟨fuel - 1, by omega⟩
    have hb := t.2.2.2 x
    have r20 := r.2.2.2.2.2.2
    have t53 : h1.1 52 x = nI (T x) := (t.r r).2.2.1 x (by omega)
    show ∃ h2, g9_lookAt_40_b172 (f9_lookAt_40_l172 u) _ h1 = _ ∧ _
    unfold g9_lookAt_40_b172 g9_lookAt_40_b222 dvr
    unfold rn at he
    cases c : isD (T x) with
    | true =>
      have c' : 48 ≤ T x ∧ T x ≤ 57 := by
        unfold isD at c
        simpa only [Bool.and_eq_true, decide_eq_true_eq] using c
      rw [c, if_pos rfl] at he
      have hge := rn_ge isD T m (x + 1)
      have hix : jv_ix (nI x) 120 := by rw [q_ix (by omega)]; omega
      rw [r.2.2.2.2.2.1, if_neg (by rw [q_le (by omega) (by omega)]; omega), r.2.2.2.1, if_pos rfl, r20, if_pos hix, q_cl (by omega), t53]
      simp only [jl]
      rw [show nI x + (1 : Int32) = nI (x + 1) from by rw [w1, nI_add], if_pos trivial]
      by_cases g : 99 < v
      · rw [if_neg (by rw [w99, q_le (by omega) (by omega)]; omega), if_pos g]
        exact ih (x + 1) u _ v hv e he (r.w20 _) (by omega) (by omega)
      · rw [if_pos (by rw [w99, q_le (by omega) (by omega)]; omega), if_neg g, show (10 : Int32) * nI v + nI (T x) - 48 = nI (v * 10 + T x - 48) from by rw [w10, pk_mul, nI_add, show (48 : Int32) = nI 48 from rfl, pk_sub (by omega), Nat.mul_comm 10 v]]
        exact ih (x + 1) u _ _ (by omega) e he (r.w20 _) (by omega) (by omega)
    | false =>
      rw [c, if_neg (by decide)] at he
      refine ⟨h1, ?_, ?_⟩
      · rw [r.2.2.2.2.2.1, if_pos (by rw [q_le (by omega) (by omega)]; omega)]
      · rw [if_neg (by decide)]; exact r
def tu (T : Nat → Nat) (L q : Nat) : Nat := if q = L then 0 else if isL (T q) then 0 else if isD (T q) then tv T L q else 0
theorem q_mskip (t : Tm h T L) {k : Int32} {b c d : Int32} (k1 : ¬ k = 1) (k2 : ¬ k = 2) {h1 : jv_H} (r : R41 h h1 k b c d) {x e : Nat} (hb : b = nI x) (hc : c = nI e) (hx : x ≤ 120) (he : x < e) (he2 : e ≤ 121) (u : Nat) (hu : 0 < u) : f9_lookAt_40_l108 u h1 = some ((), h1) := by
  obtain ⟨u, rfl⟩ : ∃ n, u = n + 1 := ⟨u - 1, by omega⟩
  show g9_lookAt_40_b108 (f9_lookAt_40_l108 u) h1 = _
  unfold g9_lookAt_40_b108 g9_lookAt_40_b131 g9_lookAt_40_b167
  rw [r.2.2.2.1, if_neg k1, if_neg k2, jl, r.2.2.2.2.1]
  show g9_lookAt_40_b172 (f9_lookAt_40_l172 199999) _ h1 = _
  unfold g9_lookAt_40_b172 g9_lookAt_40_b231
  rw [r.2.2.2.2.2.1, hb, hc, if_neg (by rw [q_le (by omega) (by omega)]; omega), r.2.2.2.1, if_neg k2, if_neg k2]
theorem m_tok (t : Tm h T L) {p : Nat} (hp : p ≤ L) : ∃ h', f9_lookAt_40 (nI p) h = some ((), h') ∧ R41 h h' (nI (tk T L (tq T L p))) (nI (tq T L p)) (nI (if tq T L p = L then L + 1 else te T L (tq T L p))) (nI (tu T L (tq T L p))) := by
  have hL := t.1
  have hq := tq_in (T := T) hp
  unfold f9_lookAt_40
  rw [jl, q_msp t (L - p) p jv_fuel (by omega) (by unfold jv_fuel; omega), show rn isS T (L - p) p = tq T L p from rfl]
  generalize tq T L p = q at *
  unfold g9_lookAt_40_b27 g9_lookAt_40_b98
  simp only [jl]
  have r0 : R41 h h (h.1 40 17) (h.1 40 18) (h.1 40 19) (h.1 40 20) := ⟨fun _ _ => rfl, fun _ _ _ _ _ => rfl, rfl, rfl, rfl, rfl, rfl⟩
  have r2 := (r0.w18 (nI q)).w20 0
  generalize jv_p (jv_p h 40 18 (nI q)) 40 20 0 = h2 at *
  have t2 := t.r r2
  have t255 := t.2.2.2 q
  rw [t2.2.1]
  have hq1 : nI q + (1 : Int32) = nI (q + 1) := by rw [w1, nI_add]
  by_cases c0 : q = L
  · have r3 := (r2.w17 0).w19 (nI (q + 1))
    rw [if_pos (show nI q = nI L by rw [c0]), hq1, q_mskip t (by decide) (by decide) r3 rfl rfl (by omega) (by omega) (by omega) jv_fuel (by unfold jv_fuel; omega)]
    refine ⟨_, rfl, ?_⟩
    unfold tk tu
    rw [if_pos c0, if_pos c0, if_pos c0]
    rw [c0] at r3 ⊢
    exact r3
  · have hte := te_in (T := T) (show q < L by omega)
    rw [if_neg (show ¬ nI q = nI L by rw [q_eq (by omega) (by omega)]; exact c0), w97, w122, q_btw t2 (by omega) (by omega) (by omega), ob]
    unfold tk tu
    rw [if_neg c0, if_neg c0, if_neg c0]
    rw [show (decide (q < L) && (decide (97 ≤ T q) && decide (T q ≤ 122))) = isL (T q) from by simp [show q < L by omega, isL]]
    cases cL : isL (T q) with
    | true =>
      rw [if_neg (show ¬ (if true = true then (1 : Int32) else 0, h2).1 = 0 from (by decide : ¬ (1 : Int32) = 0)), if_pos rfl, if_pos rfl]
      have r3 := (r2.w17 1).w19 (nI (q + 1))
      obtain ⟨h4, e4, r4⟩ := q_mrl t (L - (q + 1)) (q + 1) jv_fuel _ r3 (by omega) (by unfold jv_fuel; omega)
      have ete : te T L q = rn isL T (L - (q + 1)) (q + 1) := by
        unfold te
        rw [if_neg c0, if_pos cL, show L - q = (L - (q + 1)) + 1 by omega]
        show (if isL (T q) then _ else _) = _
        rw [if_pos cL]
      rw [← ete] at r4
      refine ⟨h4, ?_, r4⟩
      show f9_lookAt_40_l108 jv_fuel (jv_p (jv_p h2 40 17 1) 40 19 (nI q + 1)) = _
      rw [hq1, e4]
      unfold g9_lookAt_40_b167
      rw [jl, r4.2.2.2.2.1]
      show g9_lookAt_40_b172 (f9_lookAt_40_l172 199999) _ h4 = _
      unfold g9_lookAt_40_b172 g9_lookAt_40_b231
      rw [r4.2.2.2.2.2.1, if_neg (by rw [q_le (by omega) (by omega)]; omega), r4.2.2.2.1, if_neg (by decide), if_neg (by decide)]
    | false =>
      rw [if_pos (show (if false = true then (1 : Int32) else 0, h2).1 = 0 from rfl), if_neg (by decide : ¬ false = true), if_neg (by decide : ¬ false = true)]
      show ∃ h', ((f9_isBetween_40 (nI q) (48 : Int32) (57 : Int32) h2).bind fun q4 => if q4.1 = 0 then if jv_ix (nI q) 120 then if (q4.2.1 52 (Int32.toNatClampNeg (nI q))) = (59 : Int32) then f9_lookAt_40_l108 jv_fuel (jv_p (jv_p q4.2 40 17 3) 40 19 (nI q + 1)) else f9_lookAt_40_l108 jv_fuel (jv_p (jv_p q4.2 40 17 4) 40 19 (nI q + 1)) else none else f9_lookAt_40_l108 jv_fuel (jv_p (jv_p q4.2 40 17 2) 40 19 (nI q + 1))) = _ ∧ _
      rw [show (48 : Int32) = nI 48 from rfl, show (57 : Int32) = nI 57 from rfl, q_btw t2 (by omega) (by omega) (by omega), ob]
      rw [show (decide (q < L) && (decide (48 ≤ T q) && decide (T q ≤ 57))) = isD (T q) from by simp [show q < L by omega, isD]]
      cases cD : isD (T q) with
      | true =>
        rw [if_neg (show ¬ (if true = true then (1 : Int32) else 0, h2).1 = 0 from (by decide : ¬ (1 : Int32) = 0)), if_pos rfl, if_pos rfl]
        have r3 := (r2.w17 2).w19 (nI (q + 1))
        obtain ⟨h4, e4, r4⟩ := q_mrd t (L - (q + 1)) (q + 1) jv_fuel _ r3 (by omega) (by unfold jv_fuel; omega)
        have ern : rn isD T (L - q) q = rn isD T (L - (q + 1)) (q + 1) := by
          rw [show L - q = (L - (q + 1)) + 1 by omega]
          show (if isD (T q) then _ else _) = _
          rw [if_pos cD]
        have ete : te T L q = rn isD T (L - q) q := by unfold te; rw [if_neg c0, if_neg (by rw [cL]; decide), if_pos cD]
        rw [← ern] at r4
        obtain ⟨h5, e5, r5⟩ := q_mdv t (L - q) q jv_fuel h4 0 (by omega) _ rfl r4 (by omega) (by unfold jv_fuel; omega)
        have hv : tv T L q ≤ 999 := dvr_le T t.2.2.2 _ _ _ (by omega)
        rw [← ete, show dvr T (L - q) q 0 = tv T L q from rfl] at r5
        show ∃ h', f9_lookAt_40_l108 jv_fuel (jv_p (jv_p h2 40 17 2) 40 19 (nI q + 1)) = _ ∧ _
        rw [hq1, e4]
        unfold g9_lookAt_40_b167
        rw [jl, r4.2.2.2.2.1, e5]
        unfold g9_lookAt_40_b231
        rw [r5.2.2.2.1, if_pos rfl, r5.2.2.2.2.2.2, r5.2.2.2.2.1, r5.2.2.2.2.2.1, pk_sub (by omega)]
        simp only [jl]
        by_cases u : 99 < tv T L q
        · rw [if_pos (by rw [w99, q_lt (by omega) (by omega)]; exact u), if_pos (Or.inl u)]
          exact ⟨_, rfl, r5.w17 4⟩
        · rw [if_neg (by rw [w99, q_lt (by omega) (by omega)]; exact u)]
          by_cases v : te T L q - q ≤ 1
          · rw [if_pos (by rw [w1, q_le (by omega) (by omega)]; exact v), if_neg (by omega)]
            exact ⟨_, rfl, r5⟩
          · rw [if_neg (by rw [w1, q_le (by omega) (by omega)]; exact v), if_pos (by rw [q_ix (by omega)]; omega), q_cl (by omega), (t.r r5).2.2.1 q (by omega)]
            by_cases w : T q = 48
            · rw [if_pos (show nI (T q) = 48 by rw [w]; rfl), if_pos (Or.inr ⟨by omega, w⟩)]
              exact ⟨_, rfl, r5.w17 4⟩
            · rw [if_neg (show ¬ nI (T q) = 48 by rw [show (48 : Int32) = nI 48 from rfl, q_eq (by omega) (by omega)]; exact w), if_neg (by omega)]
              exact ⟨_, rfl, r5⟩
      | false =>
        rw [if_pos (show (if false = true then (1 : Int32) else 0, h2).1 = 0 from rfl), if_neg (by decide : ¬ false = true), if_neg (by decide : ¬ false = true)]
        have ete : te T L q = q + 1 := by unfold te; rw [if_neg c0, if_neg (by rw [cL]; decide), if_neg (by rw [cD]; decide)]
        show ∃ h', (if jv_ix (nI q) 120 then if (h2.1 52 (Int32.toNatClampNeg (nI q))) = (59 : Int32) then f9_lookAt_40_l108 jv_fuel (jv_p (jv_p h2 40 17 3) 40 19 (nI q + 1)) else f9_lookAt_40_l108 jv_fuel (jv_p (jv_p h2 40 17 4) 40 19 (nI q + 1)) else none) = _ ∧ _
        rw [if_pos (by rw [q_ix (by omega)]; omega), q_cl (by omega), t2.2.2.1 q (by omega), hq1, ete]
        by_cases u : T q = 59
        · have r3 := (r2.w17 3).w19 (nI (q + 1))
          rw [if_pos (show nI (T q) = 59 by rw [u]; rfl), if_pos u, q_mskip t (by decide) (by decide) r3 rfl rfl (by omega) (by omega) (by omega) jv_fuel (by unfold jv_fuel; omega)]
          exact ⟨_, rfl, r3⟩
        · have r3 := (r2.w17 4).w19 (nI (q + 1))
          rw [if_neg (show ¬ nI (T q) = 59 by rw [show (59 : Int32) = nI 59 from rfl, q_eq (by omega) (by omega)]; exact u), if_neg u, q_mskip t (by decide) (by decide) r3 rfl rfl (by omega) (by omega) (by omega) jv_fuel (by unfold jv_fuel; omega)]
          exact ⟨_, rfl, r3⟩
end MT
