/-! hill: tokens -/
def isS (c : Nat) : Bool := decide (c = 32)
def isL (c : Nat) : Bool := decide (97 ≤ c) && decide (c ≤ 122)
def isD (c : Nat) : Bool := decide (48 ≤ c) && decide (c ≤ 57)
def rn (f : Nat → Bool) (T : Nat → Nat) : Nat → Nat → Nat
  | 0, p => p
  | m + 1, p => if f (T p) then rn f T m (p + 1) else p
def dvr (T : Nat → Nat) : Nat → Nat → Nat → Nat
  | 0, _, v => v
  | m + 1, p, v => if isD (T p) then dvr T m (p + 1) (if 99 < v then v else v * 10 + T p - 48) else v
theorem rn_ge (f : Nat → Bool) (T : Nat → Nat) : ∀ m p, p ≤ rn f T m p ∧ rn f T m p ≤ p + m
  | 0, p => ⟨Nat.le_refl _, Nat.le_refl _⟩
  | m + 1, p => by
    have := rn_ge f T m (p + 1)
    unfold rn
    split <;> omega
theorem rn_gt {f : Nat → Bool} {T : Nat → Nat} {m p : Nat} (hm : 0 < m) (hf : f (T p) = true) : p < rn f T m p := by
  obtain ⟨m, rfl⟩ : ∃ k, m = k + 1 := ⟨m - 1, by omega⟩
  have := rn_ge f T m (p + 1)
  unfold rn
  rw [if_pos hf]
  omega
theorem dvr_le (T : Nat → Nat) (hT : ∀ j, T j ≤ 255) : ∀ m p v, v ≤ 999 → dvr T m p v ≤ 999
  | 0, _, _, h => h
  | m + 1, p, v, h => by
    unfold dvr
    by_cases q : isD (T p) = true
    · rw [if_pos q]
      apply dvr_le T hT
      unfold isD at q
      simp only [Bool.and_eq_true, decide_eq_true_eq] at q
      split <;> omega
    · rw [if_neg q]; exact h
section TK
variable (T : Nat → Nat) (L : Nat)
def tq (p : Nat) : Nat := rn isS T (L - p) p
def te (q : Nat) : Nat := if q = L then q else if isL (T q) then rn isL T (L - q) q else if isD (T q) then rn isD T (L - q) q else q + 1
def tv (q : Nat) : Nat := dvr T (L - q) q 0
def tk (q : Nat) : Nat := if q = L then 0 else if isL (T q) then 1 else if isD (T q) then (if 99 < tv T L q ∨ (1 < te T L q - q ∧ T q = 48) then 4 else 2) else if T q = 59 then 3 else 4
/-- what the class calls the token's value -/
def tw (q : Nat) : Nat := if q = L then 0 else if isL (T q) then (if te T L q - q = 1 then T q else 0) else if isD (T q) then tv T L q else 0
end TK
theorem tq_in {T : Nat → Nat} {L p : Nat} (hp : p ≤ L) : p ≤ tq T L p ∧ tq T L p ≤ L := by
  have := rn_ge isS T (L - p) p
  unfold tq
  omega
theorem te_in {T : Nat → Nat} {L q : Nat} (hq : q < L) : q < te T L q ∧ te T L q ≤ L := by
  unfold te
  rw [if_neg (by omega)]
  by_cases c : isL (T q) = true
  · rw [if_pos c]
    have h1 := rn_gt (m := L - q) (by omega) c
    have h2 := rn_ge isL T (L - q) q
    omega
  · rw [if_neg c]
    by_cases d : isD (T q) = true
    · rw [if_pos d]
      have h1 := rn_gt (m := L - q) (by omega) d
      have h2 := rn_ge isD T (L - q) q
      omega
    · rw [if_neg d]; omega
theorem tk_0 {T : Nat → Nat} {L q : Nat} : tk T L q = 0 ↔ q = L := by
  unfold tk
  constructor
  · intro h
    by_cases c : q = L
    · exact c
    · rw [if_neg c] at h
      split at h
      · omega
      · split at h
        · split at h <;> omega
        · split at h <;> omega
  · intro h; rw [if_pos h]
theorem q_wb {a lo hi : Nat} (ha : a < 2147483648) (hl : lo < 2147483648) (hh : hi < 2147483648) (h : jv_H) : f8_isWithin (nI a) (nI lo) (nI hi) h = some (if decide (lo ≤ a) && decide (a ≤ hi) then 1 else 0, h) := by
  rw [q_within, q_ti ha, q_ti hl, q_ti hh]
  by_cases c : lo ≤ a
  · by_cases d : a ≤ hi
    · rw [if_pos (by omega)]; simp [c, d]
    · rw [if_neg (by omega)]; simp [d]
  · rw [if_neg (by omega)]; simp [c]
/-- class text: length and bytes -/
def Tc (h : jv_H) (T : Nat → Nat) (L : Nat) : Prop := L ≤ 120 ∧ h.1 9 1 = nI L ∧ (∀ j, j < L → h.1 18 j = nI (T j)) ∧ ∀ j, T j ≤ 255
def R9 (h0 h : jv_H) (a b c d : Int32) : Prop := (∀ k, ¬ k = 9 → h.1 k = h0.1 k) ∧ (∀ j, ¬ j = 3 → ¬ j = 4 → ¬ j = 5 → ¬ j = 6 → h.1 9 j = h0.1 9 j) ∧ h.2 = h0.2 ∧ h.1 9 3 = a ∧ h.1 9 4 = b ∧ h.1 9 5 = c ∧ h.1 9 6 = d
theorem R9.w3 {h0 h : jv_H} {a b c d : Int32} (r : R9 h0 h a b c d) (v : Int32) : R9 h0 (jv_p h 9 3 v) v b c d := by
  obtain ⟨r1, r2, r3, r4, r5, r6, r7⟩ := r
  exact ⟨fun k hk => by rw [q_p_k _ hk]; exact r1 k hk, fun j h1 h2 h3 h4 => by rw [q_p_j _ (by omega)]; exact r2 j h1 h2 h3 h4, r3, q_p_same _ _ _ _, by rw [q_p_j _ (by omega)]; exact r5, by rw [q_p_j _ (by omega)]; exact r6, by rw [q_p_j _ (by omega)]; exact r7⟩
theorem R9.w4 {h0 h : jv_H} {a b c d : Int32} (r : R9 h0 h a b c d) (v : Int32) : R9 h0 (jv_p h 9 4 v) a v c d := by
  obtain ⟨r1, r2, r3, r4, r5, r6, r7⟩ := r
  exact ⟨fun k hk => by rw [q_p_k _ hk]; exact r1 k hk, fun j h1 h2 h3 h4 => by rw [q_p_j _ (by omega)]; exact r2 j h1 h2 h3 h4, r3, by rw [q_p_j _ (by omega)]; exact r4, q_p_same _ _ _ _, by rw [q_p_j _ (by omega)]; exact r6, by rw [q_p_j _ (by omega)]; exact r7⟩
theorem R9.w5 {h0 h : jv_H} {a b c d : Int32} (r : R9 h0 h a b c d) (v : Int32) : R9 h0 (jv_p h 9 5 v) a b v d := by
  obtain ⟨r1, r2, r3, r4, r5, r6, r7⟩ := r
  exact ⟨fun k hk => by rw [q_p_k _ hk]; exact r1 k hk, fun j h1 h2 h3 h4 => by rw [q_p_j _ (by omega)]; exact r2 j h1 h2 h3 h4, r3, by rw [q_p_j _ (by omega)]; exact r4, by rw [q_p_j _ (by omega)]; exact r5, q_p_same _ _ _ _, by rw [q_p_j _ (by omega)]; exact r7⟩
theorem R9.w6 {h0 h : jv_H} {a b c d : Int32} (r : R9 h0 h a b c d) (v : Int32) : R9 h0 (jv_p h 9 6 v) a b c v := by
  obtain ⟨r1, r2, r3, r4, r5, r6, r7⟩ := r
  exact ⟨fun k hk => by rw [q_p_k _ hk]; exact r1 k hk, fun j h1 h2 h3 h4 => by rw [q_p_j _ (by omega)]; exact r2 j h1 h2 h3 h4, r3, by rw [q_p_j _ (by omega)]; exact r4, by rw [q_p_j _ (by omega)]; exact r5, by rw [q_p_j _ (by omega)]; exact r6, q_p_same _ _ _ _⟩
theorem Tc.r {h0 h : jv_H} {a b c d : Int32} {T : Nat → Nat} {L : Nat} (t : Tc h0 T L) (r : R9 h0 h a b c d) : Tc h T L := ⟨t.1, by rw [r.2.1 1 (by omega) (by omega) (by omega) (by omega)]; exact t.2.1, fun j hj => by rw [r.1 18 (by omega)]; exact t.2.2.1 j hj, t.2.2.2⟩
theorem q_byte {h : jv_H} {T : Nat → Nat} {L : Nat} (t : Tc h T L) {x : Nat} (hx : x < L) : f7_byteAt_9 (nI x) h = some (nI (T x), h) := by
  have h1 := t.1
  unfold f7_byteAt_9
  rw [w0, w119, q_wb (by omega) (by omega) (by omega), ob]
  simp only [show 0 ≤ x by omega, show x ≤ 119 by omega, decide_true, Bool.and_self, if_true]
  rw [if_neg (show ¬ (1 : Int32) = nI 0 by decide), if_pos (by rw [q_ix (by omega)]; omega), q_cl (by omega), t.2.2.1 x hx]
theorem q_isL {h : jv_H} {T : Nat → Nat} {L : Nat} (t : Tc h T L) {x : Nat} (hx : x < L) : f7_isLetter_9 (nI x) h = some (if isL (T x) then 1 else 0, h) := by
  have h1 := t.2.2.2 x
  unfold f7_isLetter_9
  rw [q_byte t hx, ob, w97, w122, q_wb (by omega) (by omega) (by omega), ob]
  unfold isL
  split
  · rename_i q; rw [if_pos (Or.inr rfl)]
  · rename_i q; rw [if_pos (Or.inl rfl)]
theorem q_isD {h : jv_H} {T : Nat → Nat} {L : Nat} (t : Tc h T L) {x : Nat} (hx : x < L) : f7_isDigit_9 (nI x) h = some (if isD (T x) then 1 else 0, h) := by
  have h1 := t.2.2.2 x
  unfold f7_isDigit_9
  rw [q_byte t hx, ob, show (48 : Int32) = nI 48 from rfl, show (57 : Int32) = nI 57 from rfl, q_wb (by omega) (by omega) (by omega), ob]
  unfold isD
  split
  · rename_i q; rw [if_pos (Or.inr rfl)]
  · rename_i q; rw [if_pos (Or.inl rfl)]
section CT
variable {h : jv_H} {T : Nat → Nat} {L : Nat}
theorem q_sp (t : Tc h T L) {a c d : Int32} : ∀ (m x fuel : Nat) (h1 : jv_H), R9 h h1 a (nI x) c d → x + m = L → m < fuel → ∃ h2, f7_readToken_9_l8 fuel h1 = g7_readToken_9_b45 h2 ∧ R9 h h2 a (nI (rn isS T m x)) c d := by
  have hL := t.1
  intro m
  induction m with
  | zero =>
    intro x fuel h1 r hx hf
    obtain ⟨u, rfl⟩ : ∃ n, fuel = n + 1 := ⟨fuel - 1, by omega⟩
    refine ⟨h1, ?_, r⟩
    show g7_readToken_9_b8 (f7_readToken_9_l8 u) h1 = _
    unfold g7_readToken_9_b8
    rw [(t.r r).2.1, r.2.2.2.2.1, if_pos (by rw [q_le (by omega) (by omega)]; omega)]
  | succ m ih =>
    intro x fuel h1 r hx hf
    obtain ⟨u, rfl⟩ : ∃ n, fuel = n + 1 := ⟨fuel - 1, by omega⟩
    have hb := t.2.2.2 x
    show ∃ h2, g7_readToken_9_b8 (f7_readToken_9_l8 u) h1 = _ ∧ _
    unfold g7_readToken_9_b8 rn
    rw [(t.r r).2.1, r.2.2.2.2.1, if_neg (by rw [q_le (by omega) (by omega)]; omega), q_byte (t.r r) (by omega), ob]
    by_cases c : T x = 32
    · rw [if_pos (show nI (T x) = 32 by rw [c]; rfl), if_pos (by unfold isS; simp [c]), jl, r.2.2.2.2.1, w1, nI_add]
      exact ih (x + 1) u _ (r.w4 _) (by omega) (by omega)
    · rw [if_neg (show ¬ nI (T x) = 32 by rw [show (32 : Int32) = nI 32 from rfl, q_eq (by omega) (by omega)]; exact c), if_neg (by unfold isS; simp [c])]
      exact ⟨h1, rfl, r⟩
theorem q_rl (t : Tc h T L) {a b d : Int32} : ∀ (m x fuel : Nat) (h1 : jv_H), R9 h h1 a b (nI x) d → x + m = L → m < fuel → ∃ h2, f7_readLetters_9_l5 fuel h1 = g7_readLetters_9_b40 h2 ∧ R9 h h2 a b (nI (rn isL T m x)) d := by
  have hL := t.1
  intro m
  induction m with
  | zero =>
    intro x fuel h1 r hx hf
    obtain ⟨u, rfl⟩ : ∃ n, fuel = n + 1 := ⟨fuel - 1, by omega⟩
    refine ⟨h1, ?_, r⟩
    show g7_readLetters_9_b5 (f7_readLetters_9_l5 u) h1 = _
    unfold g7_readLetters_9_b5
    rw [(t.r r).2.1, r.2.2.2.2.2.1, if_pos (by rw [q_le (by omega) (by omega)]; omega)]
  | succ m ih =>
    intro x fuel h1 r hx hf
    obtain ⟨u, rfl⟩ : ∃ n, fuel = n + 1 := ⟨fuel - 1, by omega⟩
    show ∃ h2, g7_readLetters_9_b5 (f7_readLetters_9_l5 u) h1 = _ ∧ _
    unfold g7_readLetters_9_b5 rn
    rw [(t.r r).2.1, r.2.2.2.2.2.1, if_neg (by rw [q_le (by omega) (by omega)]; omega), q_isL (t.r r) (by omega), ob]
    cases c : isL (T x) with
    | true =>
      rw [if_neg (show ¬ (if true = true then (1 : Int32) else 0, h1).1 = 0 from (by decide : ¬ (1 : Int32) = 0)), jl, if_pos rfl, r.2.2.2.2.2.1, w1, nI_add]
      exact ih (x + 1) u _ (r.w5 _) (by omega) (by omega)
    | false =>
      rw [if_pos (show (if false = true then (1 : Int32) else 0, h1).1 = 0 from rfl), if_neg (by decide)]
      exact ⟨h1, rfl, r⟩
theorem q_rd (t : Tc h T L) {a b : Int32} : ∀ (m x fuel : Nat) (h1 : jv_H) (v : Nat), v ≤ 999 → R9 h h1 a b (nI x) (nI v) → x + m = L → m < fuel → ∃ h2, f7_readDigits_9_l0 fuel h1 = g7_readDigits_9_b67 h2 ∧ R9 h h2 a b (nI (rn isD T m x)) (nI (dvr T m x v)) := by
  have hL := t.1
  intro m
  induction m with
  | zero =>
    intro x fuel h1 v hv r hx hf
    obtain ⟨u, rfl⟩ : ∃ n, fuel = n + 1 := ⟨fuel - 1, by omega⟩
    refine ⟨h1, ?_, r⟩
    show g7_readDigits_9_b0 (f7_readDigits_9_l0 u) h1 = _
    unfold g7_readDigits_9_b0
    rw [(t.r r).2.1, r.2.2.2.2.2.1, if_pos (by rw [q_le (by omega) (by omega)]; omega)]
  | succ m ih =>
    intro x fuel h1 v hv r hx hf
    obtain ⟨u, rfl⟩ : ∃ n, fuel = n + 1 := ⟨fuel - 1, by omega⟩
    have hb := t.2.2.2 x
    have r5 := r.2.2.2.2.2.1
    have r6 := r.2.2.2.2.2.2
    show ∃ h2, g7_readDigits_9_b0 (f7_readDigits_9_l0 u) h1 = _ ∧ _
    unfold g7_readDigits_9_b0 g7_readDigits_9_b54 rn dvr
    rw [(t.r r).2.1, r5, if_neg (by rw [q_le (by omega) (by omega)]; omega), q_isD (t.r r) (by omega), ob]
    cases c : isD (T x) with
    | true =>
      have c' : 48 ≤ T x ∧ T x ≤ 57 := by
        unfold isD at c
        simpa only [Bool.and_eq_true, decide_eq_true_eq] using c
      rw [if_neg (show ¬ (if true = true then (1 : Int32) else 0, h1).1 = 0 from (by decide : ¬ (1 : Int32) = 0)), if_pos rfl, if_pos rfl]
      show ∃ h2, (if (99 : Int32) < h1.1 9 6 then jv_let (jv_p h1 9 5 (h1.1 9 5 + 1)) fun h1 => f7_readDigits_9_l0 u h1 else (f7_byteAt_9 (h1.1 9 5) h1).bind fun q2 => jv_let (jv_p q2.2 9 6 (h1.1 9 6 * 10 + q2.1 - 48)) fun h3 => jv_let (jv_p h3 9 5 (h3.1 9 5 + 1)) fun h1 => f7_readDigits_9_l0 u h1) = _ ∧ _
      rw [r6, r5]
      by_cases g : 99 < v
      · rw [if_pos (by rw [w99, q_lt (by omega) (by omega)]; exact g), if_pos g, jl, w1, nI_add]
        exact ih (x + 1) u _ v hv (r.w5 _) (by omega) (by omega)
      · rw [if_neg (by rw [w99, q_lt (by omega) (by omega)]; exact g), if_neg g, q_byte (t.r r) (by omega), ob, jl, jl]
        have r' := r.w6 (nI (v * 10 + T x - 48))
        rw [show nI v * (10 : Int32) + nI (T x) - 48 = nI (v * 10 + T x - 48) from by rw [w10, pk_mul, nI_add, show (48 : Int32) = nI 48 from rfl, pk_sub (by omega)], r'.2.2.2.2.2.1, w1, nI_add]
        exact ih (x + 1) u _ _ (by omega) (r'.w5 _) (by omega) (by omega)
    | false =>
      rw [if_pos (show (if false = true then (1 : Int32) else 0, h1).1 = 0 from rfl), if_neg (by decide), if_neg (by decide)]
      exact ⟨h1, rfl, r⟩
theorem c_tok (t : Tc h T L) {p : Nat} (hp : p ≤ L) (h5 : h.1 9 5 = nI p) : ∃ h', f7_readToken_9 h = some ((), h') ∧ R9 h h' (nI (tk T L (tq T L p))) (nI (tq T L p)) (nI (te T L (tq T L p))) (nI (tw T L (tq T L p))) := by
  have hL := t.1
  have r0 : R9 h (jv_p h 9 4 (nI p)) (h.1 9 3) (nI p) (h.1 9 5) (h.1 9 6) := R9.w4 ⟨fun _ _ => rfl, fun _ _ _ _ _ => rfl, rfl, rfl, rfl, rfl, rfl⟩ _
  obtain ⟨h1, e1, r1⟩ := q_sp t (L - p) p jv_fuel _ r0 (by omega) (by unfold jv_fuel; omega)
  have hq := tq_in (T := T) hp
  rw [show rn isS T (L - p) p = tq T L p from rfl] at r1
  generalize tq T L p = q at *
  unfold f7_readToken_9
  rw [jl, h5, e1]
  unfold g7_readToken_9_b45
  rw [jl, jl, r1.2.2.2.2.1]
  have r2 := (r1.w5 (nI q)).w6 0
  generalize jv_p (jv_p h1 9 5 (nI q)) 9 6 0 = h2 at *
  have t2 := t.r r2
  rw [r2.2.2.2.2.1, t2.2.1]
  have t255 := t.2.2.2 q
  by_cases c0 : q = L
  · rw [if_neg (by rw [q_lt (by omega) (by omega)]; omega), jl]
    refine ⟨_, rfl, ?_⟩
    have := r2.w3 0
    unfold tk te tw
    rw [if_pos c0, if_pos c0, if_pos c0]
    exact this
  · rw [if_pos (by rw [q_lt (by omega) (by omega)]; omega), q_isL t2 (by omega), ob]
    unfold tk tw
    rw [if_neg c0, if_neg c0]
    cases cL : isL (T q) with
    | true =>
      rw [if_neg (show ¬ (if true = true then (1 : Int32) else 0, h2).1 = 0 from (by decide : ¬ (1 : Int32) = 0)), if_pos rfl, if_pos rfl]
      obtain ⟨h3, e3, r3⟩ := q_rl t (L - q) q jv_fuel _ (r2.w3 1) (by omega) (by unfold jv_fuel; omega)
      have ete : te T L q = rn isL T (L - q) q := by unfold te; rw [if_neg c0, if_pos cL]
      have hte := te_in (T := T) (show q < L by omega)
      rw [← ete] at r3
      unfold f7_readLetters_9
      rw [jl, e3]
      unfold g7_readLetters_9_b40
      rw [r3.2.2.2.2.1, r3.2.2.2.2.2.1, pk_sub (by omega)]
      by_cases u : te T L q - q = 1
      · rw [if_pos (show nI (te T L q - q) = 1 by rw [u]; rfl), if_pos u, q_byte (t.r r3) (by omega), ob, jl, ob]
        exact ⟨_, rfl, r3.w6 _⟩
      · rw [if_neg (show ¬ nI (te T L q - q) = 1 by rw [w1, q_eq (by omega) (by omega)]; exact u), if_neg u, ob]
        exact ⟨_, rfl, r3⟩
    | false =>
      rw [if_pos (show (if false = true then (1 : Int32) else 0, h2).1 = 0 from rfl), if_neg (by decide), if_neg (by decide)]
      show ∃ h', ((f7_isDigit_9 (h2.1 9 4) h2).bind fun q4 => if q4.1 = 0 then (f7_byteAt_9 (q4.2.1 9 4) q4.2).bind fun q5 => if q5.1 = (59 : Int32) then g7_readToken_9_b132 (3 : Int32) q5.2 else g7_readToken_9_b132 (4 : Int32) q5.2 else (f7_readDigits_9 q4.2).bind fun q6 => some ((), q6.2)) = _ ∧ _
      rw [r2.2.2.2.2.1, q_isD t2 (by omega), ob]
      cases cD : isD (T q) with
      | true =>
        rw [if_neg (show ¬ (if true = true then (1 : Int32) else 0, h2).1 = 0 from (by decide : ¬ (1 : Int32) = 0)), if_pos rfl, if_pos rfl]
        obtain ⟨h3, e3, r3⟩ := q_rd t (L - q) q jv_fuel _ 0 (by omega) r2 (by omega) (by unfold jv_fuel; omega)
        have ete : te T L q = rn isD T (L - q) q := by unfold te; rw [if_neg c0, if_neg (by rw [cL]; decide), if_pos cD]
        have hte := te_in (T := T) (show q < L by omega)
        have hv : tv T L q ≤ 999 := dvr_le T t.2.2.2 _ _ _ (by omega)
        rw [← ete, show dvr T (L - q) q 0 = tv T L q from rfl] at r3
        unfold f7_readDigits_9
        show ∃ h', ((f7_readDigits_9_l0 jv_fuel h2).bind fun q6 => some ((), q6.2)) = _ ∧ _
        rw [e3]
        unfold g7_readDigits_9_b67 g7_readDigits_9_b97
        have b113 : 99 < tv T L q ∨ (1 < te T L q - q ∧ T q = 48) → ∃ h', ((g7_readDigits_9_b113 h3).bind fun q6 => some ((), q6.2)) = some ((), h') ∧ R9 h h' (nI (if 99 < tv T L q ∨ (1 < te T L q - q ∧ T q = 48) then 4 else 2)) (nI q) (nI (te T L q)) (nI (tv T L q)) := by
          intro hh
          unfold g7_readDigits_9_b113
          rw [jl, ob, if_pos hh]
          exact ⟨_, rfl, r3.w3 4⟩
        have b98 : ∀ b : Bool, (b = true ↔ (1 < te T L q - q ∧ T q = 48)) → ∃ h', ((g7_readDigits_9_b98 (if b then 1 else 0) h3).bind fun q6 => some ((), q6.2)) = some ((), h') ∧ R9 h h' (nI (if 99 < tv T L q ∨ (1 < te T L q - q ∧ T q = 48) then 4 else 2)) (nI q) (nI (te T L q)) (nI (tv T L q)) := by
          intro b hb
          unfold g7_readDigits_9_b98
          rw [jl]
          cases b with
          | true =>
            rw [if_neg (by decide)]
            exact b113 (Or.inr (hb.mp rfl))
          | false =>
            rw [if_pos (show (if false = true then (1 : Int32) else 0) = 0 from rfl), r3.2.2.2.2.2.2]
            by_cases u : 99 < tv T L q
            · rw [if_neg (by rw [w99, q_le (by omega) (by omega)]; omega)]
              exact b113 (Or.inl u)
            · rw [if_pos (by rw [w99, q_le (by omega) (by omega)]; omega), jl, ob, if_neg (by rintro (v | v); exact u v; exact absurd (hb.mpr v) (by decide))]
              exact ⟨_, rfl, r3.w3 2⟩
        rw [r3.2.2.2.2.1, r3.2.2.2.2.2.1, pk_sub (by omega)]
        by_cases u : te T L q - q ≤ 1
        · rw [if_pos (by rw [w1, q_le (by omega) (by omega)]; exact u)]
          exact b98 false ⟨fun x => absurd x (by decide), fun x => by omega⟩
        · rw [if_neg (by rw [w1, q_le (by omega) (by omega)]; exact u), q_byte (t.r r3) (by omega), ob]
          by_cases v : T q = 48
          · rw [if_pos (show nI (T q) = 48 by rw [v]; rfl)]
            exact b98 true ⟨fun _ => ⟨by omega, v⟩, fun _ => rfl⟩
          · rw [if_neg (show ¬ nI (T q) = 48 by rw [show (48 : Int32) = nI 48 from rfl, q_eq (by omega) (by omega)]; exact v)]
            exact b98 false ⟨fun x => absurd x (by decide), fun x => absurd x.2 v⟩
      | false =>
        rw [if_pos (show (if false = true then (1 : Int32) else 0, h2).1 = 0 from rfl), if_neg (by decide), if_neg (by decide)]
        show ∃ h', ((f7_byteAt_9 (h2.1 9 4) h2).bind fun q5 => if q5.1 = (59 : Int32) then g7_readToken_9_b132 (3 : Int32) q5.2 else g7_readToken_9_b132 (4 : Int32) q5.2) = _ ∧ _
        have ete : te T L q = q + 1 := by unfold te; rw [if_neg c0, if_neg (by rw [cL]; decide), if_neg (by rw [cD]; decide)]
        have b132 : ∀ s, ∃ h', g7_readToken_9_b132 s h2 = some ((), h') ∧ R9 h h' s (nI q) (nI (te T L q)) (nI 0) := by
          intro s
          unfold g7_readToken_9_b132
          have r3 := r2.w3 s
          rw [jl, jl, r3.2.2.2.2.1, w1, nI_add, ete]
          exact ⟨_, rfl, r3.w5 _⟩
        rw [r2.2.2.2.2.1, q_byte t2 (by omega), ob]
        by_cases u : T q = 59
        · rw [if_pos (show nI (T q) = 59 by rw [u]; rfl), if_pos u]
          exact b132 3
        · rw [if_neg (show ¬ nI (T q) = 59 by rw [show (59 : Int32) = nI 59 from rfl, q_eq (by omega) (by omega)]; exact u), if_neg u]
          exact b132 4
end CT
