/-! codes, digits, folds; mayBe -/
def enc (b : Nat) : Int32 := if b = 0 then -1 else nI (b - 1)
theorem enc_s (b : Nat) : enc (b + 1) = nI b := rfl
theorem enc_0 : enc 0 = -1 := rfl
theorem nI_m1 {b : Nat} : nI b + (-1 : Int32) = enc b := by
  cases b with
  | zero => rfl
  | succ b =>
    rw [enc_s, show (-1 : Int32) = 0 - 1 from rfl, w1, w0, Int32.sub_eq_add_neg, ← Int32.add_assoc, nI_add, ← Int32.sub_eq_add_neg, pk_sub (by omega)]
    rfl
theorem nI_s1 {b : Nat} : nI b - (1 : Int32) = enc b := by
  rw [Int32.sub_eq_add_neg]
  exact nI_m1
theorem enc_ti {b : Nat} (hb : b < 2000000) : (enc b).toInt = (b : Int) - 1 := by
  cases b with
  | zero => rfl
  | succ b => rw [enc_s, q_ti (by omega)]; omega
theorem enc_lt {b v : Nat} (hb : b < 2000000) (hv : v < 2000000) : (enc b < nI v) = (b ≤ v) := by
  rw [Int32.lt_iff_toInt_lt, enc_ti hb, q_ti (by omega)]
  exact propext (by omega)
theorem enc_ge {b v : Nat} (hb : b < 2000000) (hv : v < 2000000) : (nI v ≤ enc b) = (v < b) := by
  rw [Int32.le_iff_toInt_le, enc_ti hb, q_ti (by omega)]
  exact propext (by omega)
theorem enc_neg {b : Nat} (hb : b < 2000000) : (enc b < 0) = (b = 0) := by
  rw [Int32.lt_iff_toInt_lt, enc_ti hb, show (0 : Int32).toInt = 0 from rfl]
  exact propext (by omega)
theorem q_mod {a b : Nat} (ha : a < 2147483648) (h0 : 0 < b) (hb : b < 2147483648) : nI a - nI a / nI b * nI b = nI (a % b) := by
  rw [pk_div ha h0 hb, pk_mul, pk_sub (Nat.div_mul_le_self a b), Nat.mod_eq_sub_div_mul]
/-- digit e of code c, the first the greatest -/
def dg (B N c e : Nat) : Nat := c / B ^ (N - 1 - e) % B
theorem dg_lt {B N c e : Nat} (hB : 0 < B) : dg B N c e < B := Nat.mod_lt _ hB
theorem dg_in {B N t d k n c : Nat} (hB : 0 < B) (hn : n < B) (hN : t + (d + 1) = N) (h1 : (k * B + n) * B ^ d ≤ c) (h2 : c < (k * B + n) * B ^ d + B ^ d) : dg B N c t = n := by
  have e1 : N - 1 - t = d := by omega
  have e2 : c / B ^ d = k * B + n := by
    have hp : 0 < B ^ d := Nat.pow_pos hB
    apply Nat.le_antisymm
    · apply Nat.le_of_lt_succ
      rw [Nat.div_lt_iff_lt_mul hp, Nat.succ_mul]
      exact h2
    · rw [Nat.le_div_iff_mul_le hp]
      exact h1
  unfold dg
  rw [e1, e2, Nat.add_comm, Nat.add_mul_mod_self_right, Nat.mod_eq_of_lt hn]
theorem dg_all {B : Nat} (hB : 0 < B) : ∀ (N : Nat) (g : Nat → Nat), (∀ e, e < N → g e < B) → ∃ c, c < B ^ N ∧ ∀ e, e < N → dg B N c e = g e
  | 0, _, _ => ⟨0, by simp, fun e he => by omega⟩
  | N + 1, g, hg => by
    obtain ⟨c, c1, c2⟩ := dg_all hB N g (fun e he => hg e (by omega))
    have hx := hg N (by omega)
    refine ⟨c * B + g N, ?_, fun e he => ?_⟩
    · rw [Nat.pow_succ]
      calc c * B + g N < c * B + B := by omega
        _ = (c + 1) * B := by rw [Nat.succ_mul]
        _ ≤ B ^ N * B := Nat.mul_le_mul_right _ c1
    · by_cases q : e = N
      · subst q
        unfold dg
        rw [show e + 1 - 1 - e = 0 by omega, Nat.pow_zero, Nat.div_one, Nat.add_comm, Nat.add_mul_mod_self_right, Nat.mod_eq_of_lt hx]
      · rw [← c2 e (by omega)]
        unfold dg
        rw [show N + 1 - 1 - e = (N - 1 - e) + 1 by omega, Nat.pow_succ, Nat.mul_comm (B ^ (N - 1 - e)) B, ← Nat.div_div_eq_div_mul, show (c * B + g N) / B = c from by rw [Nat.add_comm, Nat.add_mul_div_right _ _ hB, Nat.div_eq_of_lt hx, Nat.zero_add]]
/-- a fold over codes: the first that is best -/
def stp (ok : Nat → Bool) (val : Nat → Nat) (s : Nat × Nat) (c : Nat) : Nat × Nat := if ok c && decide (s.1 ≤ val c) then (val c + 1, c) else s
def fc (ok : Nat → Bool) (val : Nat → Nat) : Nat → Nat → Nat × Nat → Nat × Nat
  | 0, _, s => s
  | m + 1, lo, s => fc ok val m (lo + 1) (stp ok val s lo)
theorem fc_add (ok : Nat → Bool) (val : Nat → Nat) : ∀ (a b lo : Nat) (s : Nat × Nat), fc ok val (a + b) lo s = fc ok val b (lo + a) (fc ok val a lo s)
  | 0, b, lo, s => by rw [Nat.zero_add]; rfl
  | a + 1, b, lo, s => by
    rw [show a + 1 + b = (a + b) + 1 by omega]
    show fc ok val (a + b) (lo + 1) _ = _
    rw [fc_add ok val a b (lo + 1), show lo + 1 + a = lo + (a + 1) by omega]
    rfl
theorem fc_skip (ok : Nat → Bool) (val : Nat → Nat) : ∀ (m lo : Nat) (s : Nat × Nat), (∀ c, lo ≤ c → c < lo + m → stp ok val s c = s) → fc ok val m lo s = s
  | 0, _, _, _ => rfl
  | m + 1, lo, s, h => by
    show fc ok val m (lo + 1) (stp ok val s lo) = s
    rw [h lo (by omega) (by omega)]
    exact fc_skip ok val m (lo + 1) s (fun c h1 h2 => h c (by omega) (by omega))
theorem stp_le (ok : Nat → Bool) (val : Nat → Nat) (s : Nat × Nat) (c : Nat) : s.1 ≤ (stp ok val s c).1 := by
  unfold stp
  split
  · rename_i q
    rw [Bool.and_eq_true, decide_eq_true_iff] at q
    have := q.2
    show s.1 ≤ val c + 1
    omega
  · exact Nat.le_refl _
theorem fc_le (ok : Nat → Bool) (val : Nat → Nat) : ∀ (m lo : Nat) (s : Nat × Nat), s.1 ≤ (fc ok val m lo s).1
  | 0, _, _ => Nat.le_refl _
  | m + 1, lo, s => Nat.le_trans (stp_le ok val s lo) (fc_le ok val m (lo + 1) _)
theorem fc_pos (ok : Nat → Bool) (val : Nat → Nat) : ∀ (m lo : Nat) (s : Nat × Nat) (c : Nat), lo ≤ c → c < lo + m → ok c = true → 0 < (fc ok val m lo s).1
  | 0, _, _, _, _, _, _ => by omega
  | m + 1, lo, s, c, h1, h2, h3 => by
    by_cases q : c = lo
    · subst q
      refine Nat.lt_of_lt_of_le ?_ (fc_le ok val m (c + 1) _)
      unfold stp
      rw [h3, Bool.true_and]
      by_cases r : s.1 ≤ val c
      · rw [if_pos (by simpa using r)]; exact Nat.succ_pos _
      · rw [if_neg (by simpa using r)]; omega
    · exact fc_pos ok val m (lo + 1) _ c (by omega) (by omega) h3
theorem fc_b (ok : Nat → Bool) (val : Nat → Nat) {X : Nat} (hv : ∀ c, val c ≤ X) : ∀ (m lo : Nat) (s : Nat × Nat), s.1 ≤ X + 1 → (fc ok val m lo s).1 ≤ X + 1
  | 0, _, _, h => h
  | m + 1, lo, s, h => fc_b ok val hv m (lo + 1) _ (by
    unfold stp
    split
    · have := hv lo
      show val lo + 1 ≤ X + 1
      omega
    · exact h)
theorem fc_c (ok : Nat → Bool) (val : Nat → Nat) {X : Nat} : ∀ (m lo : Nat) (s : Nat × Nat), lo + m ≤ X → (0 < s.1 → s.2 < X) → (0 < (fc ok val m lo s).1 → (fc ok val m lo s).2 < X)
  | 0, _, _, _, h => h
  | m + 1, lo, s, hl, h => fc_c ok val m (lo + 1) _ (by omega) (by
    unfold stp
    split
    · intro _
      show lo < X
      omega
    · exact h)
theorem cn_split (p : Nat → Bool) {m : Nat} : ∀ {N : Nat}, m ≤ N → cn (fun s => decide (m ≤ s) && p s) N + cn p m = cn p N
  | 0, h => by
    have : m = 0 := by omega
    subst this; rfl
  | N + 1, h => by
    by_cases q : m = N + 1
    · subst q
      have : ∀ k, k ≤ N + 1 → cn (fun s => decide (N + 1 ≤ s) && p s) k = 0 := by
        intro k
        induction k with
        | zero => intro _; rfl
        | succ k ih =>
          intro hk
          simp only [cn]
          rw [ih (by omega)]
          simp [show ¬ N + 1 ≤ k by omega]
      rw [this _ (Nat.le_refl _), Nat.zero_add]
    · have := cn_split p (m := m) (N := N) (by omega)
      simp only [cn]
      simp only [show m ≤ N by omega, decide_true, Bool.true_and]
      omega
theorem cn_mono (p : Nat → Bool) {a b : Nat} (h : a ≤ b) : cn p a ≤ cn p b := by
  have := cn_split p h
  omega
theorem cn_cong {p q : Nat → Bool} : ∀ {n}, (∀ t, t < n → p t = q t) → cn p n = cn q n
  | 0, _ => rfl
  | n + 1, h => by rw [cn, cn, cn_cong (fun t ht => h t (by omega)), h n (by omega)]
theorem and0_bs (p : Nat → Bool) (k x : Nat) : bs p k &&& x = 0 ↔ ∀ s, s < k → p s = true → x.testBit s = false := by
  constructor
  · intro h s hs hp
    have := congrArg (fun z => z.testBit s) h
    simp only [Nat.testBit_and, bs_bit, Nat.zero_testBit, hs, decide_true, hp, Bool.true_and] at this
    exact this
  · intro h
    apply Nat.eq_of_testBit_eq
    intro s
    rw [Nat.testBit_and, bs_bit, Nat.zero_testBit]
    by_cases hs : s < k
    · cases hp : p s with
      | false => simp
      | true => rw [h s hs hp]; simp
    · simp [hs]
section GD
variable {N M : Nat} {D : Nat → Nat → Nat} {ht : Nat → Nat}
/-- those below t whose digit is n -/
def pm (g : Nat → Nat) (n t : Nat) : Nat := bs (fun e => decide (g e = n)) t
/-- those from m on whose digit is n -/
def sf (N : Nat) (g : Nat → Nat) (n m : Nat) : Nat := bs (fun e => decide (m ≤ e) && decide (g e = n)) N
def okr (D : Nat → Nat → Nat) (ht : Nat → Nat) (N M : Nat) (g : Nat → Nat) : Nat → Bool
  | 0 => true
  | m + 1 => okr D ht N M g m && (decide (g (N - 1 - m) = M) || mj D ht (N - 1 - m) (g (N - 1 - m)) (sf N g (g (N - 1 - m)) (N - 1 - m + 1)))
theorem okr_iff {g : Nat → Nat} (hg : ∀ e, e < N → g e ≤ M) : ∀ m, m ≤ N → (okr D ht N M g m = true ↔ ∀ e, N - m ≤ e → e < N → g e < M → mj D ht e (g e) (sf N g (g e) (e + 1)) = true)
  | 0, _ => ⟨fun _ e h1 h2 => by omega, fun _ => rfl⟩
  | m + 1, hm => by
    unfold okr
    rw [Bool.and_eq_true, okr_iff hg m (by omega)]
    have hge := hg (N - 1 - m) (by omega)
    constructor
    · rintro ⟨h1, h2⟩ e e1 e2 e3
      by_cases q : e = N - 1 - m
      · subst q
        rw [Bool.or_eq_true, decide_eq_true_iff] at h2
        rcases h2 with h2 | h2
        · omega
        · exact h2
      · exact h1 e (by omega) e2 e3
    · intro h
      refine ⟨fun e e1 e2 e3 => h e (by omega) e2 e3, ?_⟩
      rw [Bool.or_eq_true, decide_eq_true_iff]
      by_cases q : g (N - 1 - m) = M
      · exact Or.inl q
      · exact Or.inr (h _ (by omega) (by omega) (by omega))
theorem mj_iff {t n s : Nat} : mj D ht t n s = true ↔ ht t ≤ D 5 n ∧ pc s < D 4 n ∧ s &&& D 2 t = 0 := by
  unfold mj
  simp only [Bool.and_eq_true, decide_eq_true_iff, and_assoc]
def Pg (D : Nat → Nat → Nat) (ht : Nat → Nat) (M : Nat) (g : Nat → Nat) (t : Nat) : Prop := ∀ e, e < t → g e < M → mj D ht e (g e) (pm g (g e) e) = true
theorem rm_f {p : Nat → Bool} {R : Nat} : ∀ k, (∀ e, e < k → p e = true → cn p e < R) → cn p k ≤ R
  | 0, _ => Nat.zero_le _
  | k + 1, h => by
    have ih := rm_f k (fun e he => h e (by omega))
    simp only [cn]
    cases hp : p k with
    | true =>
      have := h k (by omega) hp
      rw [if_pos rfl]
      omega
    | false => simpa using ih
theorem rm_b {p : Nat → Bool} {R : Nat} (N : Nat) (h : ∀ e, e < N → p e = true → cn (fun s => decide (e + 1 ≤ s) && p s) N < R) : cn p N ≤ R := by
  have key : ∀ d m, m + d = N → cn (fun s => decide (m ≤ s) && p s) N ≤ R := by
    intro d
    induction d with
    | zero =>
      intro m hm
      have e1 := cn_split p (m := m) (N := N) (by omega)
      have : m = N := by omega
      subst this
      omega
    | succ d ih =>
      intro m hm
      have e1 := cn_split p (m := m) (N := N) (by omega)
      have e2 := cn_split p (m := m + 1) (N := N) (by omega)
      have e3 := ih (m + 1) (by omega)
      simp only [cn] at e2
      cases hp : p m with
      | true =>
        have := h m (by omega) hp
        rw [hp, if_pos rfl] at e2
        omega
      | false =>
        simp only [hp, Bool.false_eq_true, if_false, Nat.add_zero] at e2
        omega
  have := key N 0 (by omega)
  have e1 := cn_split p (m := 0) (N := N) (by omega)
  simp only [cn] at e1
  omega
theorem Pg_iff (h6 : N ≤ 6) (CS : ∀ s t, s < N → t < N → (D 2 s).testBit t = (D 2 t).testBit s) (g : Nat → Nat) : Pg D ht M g N ↔ ∀ e, e < N → g e < M → mj D ht e (g e) (sf N g (g e) (e + 1)) = true := by
  have pcp : ∀ n e, e ≤ N → pc (pm g n e) = cn (fun s => decide (g s = n)) e := fun n e he => pc_bs _ e (by omega)
  have pcs : ∀ n e, pc (sf N g n e) = cn (fun s => decide (e ≤ s) && decide (g s = n)) N := fun n e => pc_bs _ N h6
  constructor
  · intro h e he hgM
    have hall : cn (fun s => decide (g s = g e)) N ≤ D 4 (g e) := rm_f N (fun e' he' hp => by
      have hp : g e' = g e := by simpa using hp
      have := (mj_iff.mp (h e' he' (by omega))).2.1
      rw [pcp _ _ (by omega), hp] at this
      exact this)
    have h0 := mj_iff.mp (h e he hgM)
    refine mj_iff.mpr ⟨h0.1, ?_, ?_⟩
    · rw [pcs]
      have e2 := cn_split (fun s => decide (g s = g e)) (m := e + 1) (N := N) (by omega)
      simp only [cn, decide_true, if_true] at e2
      omega
    · unfold sf
      rw [and0_bs]
      intro s hs hp
      rw [Bool.and_eq_true, decide_eq_true_iff, decide_eq_true_iff] at hp
      have h1 := (mj_iff.mp (h s hs (by omega))).2.2
      unfold pm at h1
      rw [and0_bs] at h1
      rw [CS e s he hs]
      exact h1 e (by omega) (by simp [hp.2])
  · intro h e he hgM
    have hall : cn (fun s => decide (g s = g e)) N ≤ D 4 (g e) := rm_b N (fun e' he' hp => by
      have hp : g e' = g e := by simpa using hp
      have := (mj_iff.mp (h e' he' (by omega))).2.1
      rw [pcs, hp] at this
      exact this)
    have h0 := mj_iff.mp (h e he hgM)
    refine mj_iff.mpr ⟨h0.1, ?_, ?_⟩
    · rw [pcp _ _ (by omega)]
      have e2 := cn_split (fun s => decide (g s = g e)) (m := e + 1) (N := N) (by omega)
      simp only [cn, decide_true, if_true] at e2
      omega
    · unfold pm
      rw [and0_bs]
      intro s hs hp
      have hp : g s = g e := by simpa using hp
      have h1 := (mj_iff.mp (h s (by omega) (by omega))).2.2
      unfold sf at h1
      rw [and0_bs] at h1
      rw [CS e s he (by omega)]
      exact h1 e he (by simp [hp, show s + 1 ≤ e by omega])
end GD
theorem q_or2 : ∀ t, t < 6 → ∀ a, a < 64 → nI a ||| ((1 : Int32) <<< (nI t &&& 31)) = nI (a ||| 2 ^ t) := by decide +kernel
theorem sf_or {N : Nat} {g : Nat → Nat} {m : Nat} (hm : m < N) : sf N g (g m) (m + 1) ||| 2 ^ m = sf N g (g m) m := by
  apply Nat.eq_of_testBit_eq
  intro i
  unfold sf
  rw [Nat.testBit_or, bs_bit, bs_bit, Nat.testBit_two_pow]
  by_cases q : m = i
  · subst q
    simp [hm]
  · by_cases r : m ≤ i
    · simp [q, r, show m + 1 ≤ i by omega]
    · simp [q, r, show ¬ m + 1 ≤ i by omega]
theorem sf_ne {N : Nat} {g : Nat → Nat} {m n : Nat} (hn : ¬ g m = n) : sf N g n (m + 1) = sf N g n m := by
  unfold sf
  apply bs_cong
  intro t _
  by_cases q : t = m
  · subst q
    simp [hn]
  · by_cases r : m ≤ t
    · simp [r, show m + 1 ≤ t by omega]
    · simp [r, show ¬ m + 1 ≤ t by omega]
theorem sf_N {N : Nat} {g : Nat → Nat} {n : Nat} : sf N g n N = 0 := by
  unfold sf
  apply Nat.eq_of_testBit_eq
  intro i
  rw [bs_bit, Nat.zero_testBit]
  by_cases q : i < N
  · simp [q, show ¬ N ≤ i by omega]
  · simp [q]
section MB
variable {N M y : Nat} {D : Nat → Nat → Nat} {ht : Nat → Nat} {pl : Nat → Int32} {ow : Nat → Nat}
theorem Vm.fr {h h' : jv_H} (W : Vm h N M y D ht pl ow) (f : ∀ k, k ≤ 52 → h'.1 k = h.1 k) : Vm h' N M y D ht pl ow := Vz.eq W (by rw [f _ (by omega)]) (by rw [f _ (by omega)]) (fun i hi => f _ (by omega)) (fun j hj => by rw [f _ (by omega)])
theorem q_mb2 {c : Nat} : ∀ (m : Nat) (fuel : Nat) (h : jv_H), Vm h N M y D ht pl ow → m ≤ N → m < fuel → c < 2000000 →
    (∀ e, m ≤ e → e < N → h.1 55 e = nI (dg (M + 1) N c e)) → (∀ n, n ≤ M → h.1 57 n = nI (sf N (dg (M + 1) N c) n m)) →
    ∃ h', f9_mayBe_40_l38 fuel (nI (c / (M + 1) ^ (N - m))) (if okr D ht N M (dg (M + 1) N c) (N - m) then 1 else 0) (enc m) h = some (if okr D ht N M (dg (M + 1) N c) N then 1 else 0, h') ∧ (∀ k, ¬ k = 55 → ¬ k = 57 → h'.1 k = h.1 k) ∧ h'.2 = h.2 ∧ (∀ e, e < N → h'.1 55 e = nI (dg (M + 1) N c e)) ∧ (∀ n, n ≤ M → h'.1 57 n = nI (sf N (dg (M + 1) N c) n 0)) := by
  intro m
  induction m with
  | zero =>
    intro fuel h W hm hf hc h56 h58
    obtain ⟨f, rfl⟩ : ∃ n, fuel = n + 1 := ⟨fuel - 1, by omega⟩
    refine ⟨h, ?_, fun _ _ _ => rfl, rfl, fun e he => h56 e (by omega) he, h58⟩
    show g9_mayBe_40_b38 (f9_mayBe_40_l38 f) _ _ _ h = _
    unfold g9_mayBe_40_b38
    rw [if_pos (by rw [enc_neg (by omega)]), Nat.sub_zero]
    cases okr D ht N M (dg (M + 1) N c) N
    · rw [if_pos (by decide)]
    · rw [if_pos (by decide)]
  | succ m ih =>
    intro fuel h W hm hf hc h56 h58
    obtain ⟨f, rfl⟩ : ∃ n, fuel = n + 1 := ⟨fuel - 1, by omega⟩
    have n6 := W.n6
    have m4 := W.m4
    have hxM : dg (M + 1) N c m < M + 1 := dg_lt (by omega)
    have hmod : c / (M + 1) ^ (N - (m + 1)) % (M + 1) = dg (M + 1) N c m := by
      unfold dg
      rw [show N - (m + 1) = N - 1 - m by omega]
    have hdiv : c / (M + 1) ^ (N - (m + 1)) / (M + 1) = c / (M + 1) ^ (N - m) := by
      rw [Nat.div_div_eq_div_mul, ← Nat.pow_succ, show (N - (m + 1)).succ = N - m by omega]
    have hcl : c / (M + 1) ^ (N - (m + 1)) ≤ c := Nat.div_le_self _ _
    have hmt := Nat.mod_lt m (show 0 < 6 by omega)
    generalize hX : dg (M + 1) N c m = X at *
    generalize hA : c / (M + 1) ^ (N - (m + 1)) = A at *
    have hokr : okr D ht N M (dg (M + 1) N c) (N - m) = (okr D ht N M (dg (M + 1) N c) (N - (m + 1)) && (decide (X = M) || mj D ht m X (sf N (dg (M + 1) N c) X (m + 1)))) := by
      rw [show N - m = (N - (m + 1)) + 1 by omega]
      show (_ && (decide (dg (M + 1) N c (N - 1 - (N - (m + 1))) = M) || mj D ht (N - 1 - (N - (m + 1))) (dg (M + 1) N c (N - 1 - (N - (m + 1)))) _)) = _
      rw [show N - 1 - (N - (m + 1)) = m by omega, hX]
    have s64 : ∀ n m', sf N (dg (M + 1) N c) n m' < 64 := fun n m' => bs_64 _ n6
    have b143 : ∀ b : Bool, b = okr D ht N M (dg (M + 1) N c) (N - m) → ∃ h', g9_mayBe_40_b143 (f9_mayBe_40_l38 f) (nI (A / (M + 1))) (nI m) (nI X) (if b then 1 else 0) (jv_p h 55 m (nI X)) = some (if okr D ht N M (dg (M + 1) N c) N then 1 else 0, h') ∧ (∀ k, ¬ k = 55 → ¬ k = 57 → h'.1 k = h.1 k) ∧ h'.2 = h.2 ∧ (∀ e, e < N → h'.1 55 e = nI (dg (M + 1) N c e)) ∧ (∀ n, n ≤ M → h'.1 57 n = nI (sf N (dg (M + 1) N c) n 0)) := by
      intro b hb
      obtain ⟨h', g1, g2, g3, g4, g5⟩ := ih f (jv_p (jv_p h 55 m (nI X)) 57 X (nI (sf N (dg (M + 1) N c) X m))) (W.fr (fun k hk => by rw [q_p_k _ (by omega), q_p_k _ (by omega)])) (by omega) (by omega) hc (fun e e1 e2 => by
          rw [q_p_k _ (by omega), q_p_if]
          by_cases q : e = m
          · rw [if_pos q, q, hX]
          · rw [if_neg q]; exact h56 e (by omega) e2) (fun n hn => by
          rw [q_p_if]
          by_cases q : n = X
          · rw [if_pos q, q]
          · rw [if_neg q, q_p_k _ (by omega), h58 n hn, sf_ne (by rw [hX]; exact fun e => q e.symm)])
      refine ⟨h', ?_, fun k k1 k2 => by rw [g2 k k1 k2, q_p_k _ k2, q_p_k _ k1], by rw [g3, q_p_2, q_p_2], g4, g5⟩
      unfold g9_mayBe_40_b143
      simp only [jl]
      rw [if_pos (by rw [q_ix (by omega)]; omega), if_pos (by rw [q_ix (by omega)]; omega), q_cl (by omega), q_p_k _ (by omega), h58 X (by omega), q_or2 m (by omega) _ (s64 _ _), nI_m1, hdiv, hb]
      have hs := sf_or (N := N) (g := dg (M + 1) N c) (m := m) (by omega)
      rw [hX] at hs
      rw [hs]
      exact g1
    show ∃ h', g9_mayBe_40_b38 (f9_mayBe_40_l38 f) _ _ _ h = _ ∧ _
    unfold g9_mayBe_40_b38
    have hB : nI M + (1 : Int32) = nI (M + 1) := by rw [w1, nI_add]
    have hB0 : ¬ nI (M + 1) = 0 := by rw [q_eq0 (by omega)]; omega
    have k41 : ∀ j, (jv_p h 55 m (nI X)).1 40 j = h.1 40 j := fun j => by rw [q_p_k _ (by omega)]
    rw [W.nn, hB, enc_s, if_neg (by rw [q_lt0 (by omega)]; exact fun h => h), if_neg hB0]
    simp only [jl]
    rw [if_neg hB0, q_mod (by omega) (by omega) (by omega), pk_div (by omega) (by omega) (by omega), hmod, if_pos (by rw [q_ix (by omega)]; omega), q_cl (by omega)]
    have b138 := b143 true
    have b142 := b143 false
    rw [hokr] at b138 b142
    cases ho : okr D ht N M (dg (M + 1) N c) (N - (m + 1)) with
    | false =>
      rw [if_neg (by decide : ¬ (false = true)), if_pos rfl]
      exact b142 (by rw [ho]; rfl)
    | true =>
      rw [if_pos rfl, if_neg (by decide), k41, W.nn]
      by_cases qM : X = M
      · rw [if_pos (by rw [qM])]
        exact b138 (by rw [ho]; simp [qM])
      · have hXM : X < M := by omega
        have W' : Vm (jv_p h 55 m (nI X)) N M y D ht pl ow := W.fr (fun k hk => by rw [q_p_k _ (by omega)])
        have hh := W'.hea (show m < N by omega)
        have h9 := hh.1
        have ho' := W'.ho hXM
        have hr' := W'.ro hXM
        have hc' := W'.cl (show m < N by omega)
        have p58 : (jv_p h 55 m (nI X)).1 57 X = nI (sf N (dg (M + 1) N c) X (m + 1)) := by rw [q_p_k _ (by omega)]; exact h58 X (by omega)
        have hpc := pc_le (sf N (dg (M + 1) N c) X (m + 1))
        rw [if_neg (by rw [q_eq (by omega) (by omega)]; exact qM), q_mheat (by omega), hh.2, ob]
        rw [if_pos (by rw [q_ix (by omega)]; omega), q_cl (by omega), ho'.1]
        have mjf : ∀ b, mj D ht m X (sf N (dg (M + 1) N c) X (m + 1)) = b → b = (okr D ht N M (dg (M + 1) N c) (N - (m + 1)) && (decide (X = M) || mj D ht m X (sf N (dg (M + 1) N c) X (m + 1)))) := fun b hb => by rw [ho, hb]; simp [qM]
        by_cases c1 : ht m ≤ D 5 X
        · rw [if_neg (by rw [q_lt (by omega) (by omega)]; omega), if_pos (by rw [q_ix (by omega)]; omega), p58, q_bits (s64 _ _), ob, if_pos (by rw [q_ix (by omega)]; omega), hr'.1]
          by_cases c2 : pc (sf N (dg (M + 1) N c) X (m + 1)) < D 4 X
          · rw [if_neg (by rw [q_le (by omega) (by omega)]; omega), if_pos (by rw [q_ix (by omega)]; omega), if_pos (by rw [q_ix (by omega)]; omega), p58, hc'.1]
            by_cases c3 : sf N (dg (M + 1) N c) X (m + 1) &&& D 2 m = 0
            · rw [if_pos (by rw [q_and0 (s64 _ _) hc'.2]; exact c3)]
              exact b138 (mjf true (by unfold mj; simp [c1, c2, c3]))
            · rw [if_neg (by rw [q_and0 (s64 _ _) hc'.2]; exact c3)]
              exact b142 (mjf false (by unfold mj; simp [c3]))
          · rw [if_pos (by rw [q_le (by omega) (by omega)]; omega)]
            exact b142 (mjf false (by unfold mj; simp [c2]))
        · rw [if_pos (by rw [q_lt (by omega) (by omega)]; omega)]
          exact b142 (mjf false (by unfold mj; simp [c1]))
theorem q_mb1 (n6 : N ≤ 6) (m4 : M ≤ 4) {a2 a3 : Int32} : ∀ (d i fuel : Nat) (h : jv_H), h.1 40 0 = nI N → h.1 40 1 = nI M → i + d = M + 1 → d < fuel → f9_mayBe_40_l7 fuel a2 a3 (nI i) h = f9_mayBe_40_l38 jv_fuel a2 a3 (enc N) (jv_s h 57 (fun j => if i ≤ j ∧ j < M + 1 then 0 else h.1 57 j)) := by
  intro d
  induction d with
  | zero =>
    intro i fuel h hN hM hi hf
    obtain ⟨f, rfl⟩ : ∃ n, fuel = n + 1 := ⟨fuel - 1, by omega⟩
    show g9_mayBe_40_b7 (f9_mayBe_40_l7 f) _ _ _ h = _
    unfold g9_mayBe_40_b7
    rw [hM, if_pos (by rw [q_lt (by omega) (by omega)]; omega)]
    simp only [jl]
    rw [hN, nI_s1]
    have : (fun j => if i ≤ j ∧ j < M + 1 then 0 else h.1 57 j) = h.1 57 := by
      funext j
      rw [if_neg (by omega)]
    rw [this]
    congr 1
    unfold jv_s
    ext a : 1
    · funext a
      by_cases ha : a = 57 <;> simp [ha]
    · rfl
  | succ d ih =>
    intro i fuel h hN hM hi hf
    obtain ⟨f, rfl⟩ : ∃ n, fuel = n + 1 := ⟨fuel - 1, by omega⟩
    show g9_mayBe_40_b7 (f9_mayBe_40_l7 f) _ _ _ h = _
    unfold g9_mayBe_40_b7
    rw [hM, if_neg (by rw [q_lt (by omega) (by omega)]; omega), if_pos (by rw [q_ix (by omega)]; omega), q_cl (by omega)]
    simp only [jl]
    rw [w1, nI_add, ih (i + 1) f _ (by rw [q_p_k _ (by omega)]; exact hN) (by rw [q_p_k _ (by omega)]; exact hM) (by omega) (by omega), s_p]
    congr 2
    funext j
    by_cases hj : j = i
    · subst hj
      simp (disch := omega) only [if_neg, if_pos, q_p_same]
    · by_cases h2 : i ≤ j ∧ j < M + 1
      · simp (disch := omega) only [if_pos]
      · simp (disch := omega) only [if_neg, q_p_j]
theorem b_mayBe {h : jv_H} (W : Vm h N M y D ht pl ow) {c : Nat} (hc : c < 2000000) : ∃ h', f9_mayBe_40 (nI c) h = some (if okr D ht N M (dg (M + 1) N c) N then 1 else 0, h') ∧ (∀ k, ¬ k = 55 → ¬ k = 57 → h'.1 k = h.1 k) ∧ h'.2 = h.2 ∧ (∀ e, e < N → h'.1 55 e = nI (dg (M + 1) N c e)) ∧ (∀ n, n ≤ M → h'.1 57 n = nI (sf N (dg (M + 1) N c) n 0)) := by
  have n6 := W.n6
  have m4 := W.m4
  obtain ⟨h', g1, g2, g3, g4, g5⟩ := q_mb2 (c := c) N jv_fuel (jv_s h 57 (fun j => if 0 ≤ j ∧ j < M + 1 then 0 else h.1 57 j)) (W.fr (fun k hk => s_ne _ _ (by omega))) (Nat.le_refl _) (by unfold jv_fuel; omega) hc (fun e e1 e2 => by omega) (fun n hn => by rw [s_at, if_pos (by omega), sf_N]; rfl)
  refine ⟨h', ?_, fun k k1 k2 => by rw [g2 k k1 k2, s_ne _ _ k2], by rw [g3, s_2], g4, g5⟩
  unfold f9_mayBe_40
  simp only [jl]
  rw [w0, q_mb1 n6 m4 (M + 1) 0 jv_fuel h W.nt W.nn (by omega) (by unfold jv_fuel; omega)]
  rw [Nat.sub_self, Nat.pow_zero, Nat.div_one] at g1
  exact g1
theorem b_ways {h : jv_H} (W : Vm h N M y D ht pl ow) : f9_ways_40 h = some (nI ((M + 1) ^ N), h) := by
  have n6 := W.n6
  have m4 := W.m4
  have key : ∀ (d i fuel : Nat), i + d = N → d < fuel → f9_ways_40_l4 fuel (nI ((M + 1) ^ i)) (nI i) h = some (nI ((M + 1) ^ N), h) := by
    intro d
    induction d with
    | zero =>
      intro i fuel hi hf
      obtain ⟨f, rfl⟩ : ∃ n, fuel = n + 1 := ⟨fuel - 1, by omega⟩
      have : i = N := by omega
      subst this
      show g9_ways_40_b4 (f9_ways_40_l4 f) _ _ h = _
      unfold g9_ways_40_b4
      rw [W.nt, if_pos (by rw [q_le (by omega) (by omega)]; omega)]
    | succ d ih =>
      intro i fuel hi hf
      obtain ⟨f, rfl⟩ : ∃ n, fuel = n + 1 := ⟨fuel - 1, by omega⟩
      show g9_ways_40_b4 (f9_ways_40_l4 f) _ _ h = _
      unfold g9_ways_40_b4
      rw [W.nt, if_neg (by rw [q_le (by omega) (by omega)]; omega), W.nn]
      simp only [jl]
      rw [w1, nI_add, nI_add, pk_mul, ← Nat.pow_succ]
      exact ih (i + 1) f (by omega) (by omega)
  unfold f9_ways_40
  simp only [jl]
  exact key N 0 jv_fuel (by omega) (by unfold jv_fuel; omega)
end MB
