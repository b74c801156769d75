/-! odds -/
theorem fill_gen (F : Nat → Int32 → Int32 → Int32 → jv_H → Option (Unit × jv_H)) (c n : Nat) (hn : n < 2147483648) (v : Int32) (hF : ∀ f a2 a3 h, F (f + 1) v a2 a3 h = if a3 ≤ a2 then some ((), h) else if jv_ix a2 n then F f v (a2 + 1) a3 (jv_p h c (Int32.toNatClampNeg a2) v) else none) : ∀ (m k fuel : Nat) (h : jv_H), k + m = n → m < fuel → F fuel v (nI k) (nI n) h = some ((), jv_s h c (fun i => if k ≤ i ∧ i < n then v else h.1 c i)) := by
  intro m
  induction m with
  | zero =>
    intro k fuel h hk hf
    obtain ⟨f, rfl⟩ : ∃ n, fuel = n + 1 := ⟨fuel - 1, by omega⟩
    rw [hF, if_pos (by rw [q_le (by omega) (by omega)]; omega)]
    have : (fun i => if k ≤ i ∧ i < n then v else h.1 c i) = h.1 c := by
      funext i
      rw [if_neg (by omega)]
    rw [this]
    congr 2
    unfold jv_s
    ext a : 1
    · funext a
      by_cases ha : a = c <;> simp [ha]
    · rfl
  | succ m ih =>
    intro k fuel h hk hf
    obtain ⟨f, rfl⟩ : ∃ n, fuel = n + 1 := ⟨fuel - 1, by omega⟩
    rw [hF, if_neg (by rw [q_le (by omega) (by omega)]; omega), if_pos (by rw [q_ix (by omega)]; omega), q_cl (by omega), w1, nI_add, ih (k + 1) f _ (by omega) (by omega), s_p]
    congr 3
    funext i
    by_cases hi : i = k
    · subst hi
      simp (disch := omega) only [if_neg, if_pos, q_p_same]
    · by_cases h2 : k ≤ i ∧ i < n
      · simp (disch := omega) only [if_pos]
      · simp (disch := omega) only [if_neg, q_p_j]
theorem Sm.s {h h1 : jv_H} (a : Sm h h1) (k : Nat) (f : Nat → Int32) (hs : ∀ j, jq_s k j) : Sm h (jv_s h1 k f) := ⟨fun k' j' q => by
  rw [← a.1 k' j' q]
  by_cases e : k' = k
  · subst e
    exact absurd (hs j') q
  · rw [s_ne _ _ e], a.2⟩
theorem q_fill40 (h : jv_H) : fj7_fill_53178_39 0 h = some ((), jv_s h 39 (fun i => if 0 ≤ i ∧ i < 7 then 0 else h.1 39 i)) := by
  unfold fj7_fill_53178_39
  simp only [jl]
  exact fill_gen fj7_fill_53178_39_l5 39 7 (by omega) 0 (fun f a2 a3 h => by show gj7_fill_53178_39_b5 (fj7_fill_53178_39_l5 f) _ _ _ h = _; unfold gj7_fill_53178_39_b5; simp only [jl]) 7 0 jv_fuel h (by omega) (by unfold jv_fuel; omega)
def dp (x : Nat) : Nat → Nat → Nat
  | 0, 0 => 1
  | 0, _ + 1 => 0
  | j + 1, 0 => dp x j 0 * (10 - x)
  | j + 1, i + 1 => dp x j (i + 1) * (10 - x) + dp x j i * x
def sm (f : Nat → Nat) : Nat → Nat
  | 0 => 0
  | k + 1 => sm f k + f k
def pr (x c : Nat) : Nat → Nat → Nat
  | 0, _ => 1
  | m + 1, i => (if c.testBit i then x else 10 - x) * pr x c m (i + 1)
def su (x k n : Nat) : Nat → Nat → Nat
  | 0, _ => 0
  | m + 1, c => (if k < pc c then 0 else pr x c n 0) + su x k n m (c + 1)
def eu : Nat → Nat → Nat → Nat
  | 0, a, _ => a
  | m + 1, a, b => if b = 0 then a else eu m b (a % b)
def eut : Nat → Nat → Nat → Bool
  | 0, _, b => decide (b = 0)
  | m + 1, a, b => decide (b = 0) || eut m b (a % b)
theorem odds_all : ∀ n, n ≤ 6 → ∀ x, x ≤ 10 → sm (dp x n) 7 = 10 ^ n ∧ ∀ k, k ≤ 6 → sm (dp x n) (k + 1) = su x k n (2 ^ n) 0 ∧ sm (dp x n) (k + 1) < 2000000 ∧ eut 40 (sm (dp x n) (k + 1)) (10 ^ n) = true ∧ 0 < eu 40 (sm (dp x n) (k + 1)) (10 ^ n) ∧ eu 40 (sm (dp x n) (k + 1)) (10 ^ n) < 2000000 := by decide +kernel
theorem pc_add : ∀ n, n < 6 → ∀ k, k < 64 → k < 2 ^ n → pc (k + 2 ^ n) = pc k + 1 := by decide +kernel
theorem pc_bs (p : Nat → Bool) : ∀ n, n ≤ 6 → pc (bs p n) = cn p n
  | 0, _ => by simp [bs, cn, pc]
  | n + 1, h => by
    have ih := pc_bs p n (by omega)
    simp only [bs, cn]
    by_cases c : p n = true
    · rw [if_pos c, if_pos c, pc_add n (by omega) _ (bs_64 p (by omega)) (bs_lt p n), ih]
    · rw [if_neg c, if_neg c, Nat.add_zero, Nat.add_zero, ih]
section OD
variable {h : jv_H} {N M P y : Nat} {D : Nat → Nat → Nat} {ht : Nat → Nat} {pl : Nat → Int32} {ow : Nat → Nat}
theorem q_lw1 (k17 : Int32 → Int32 → Int32 → jv_H → Option (Int32 × jv_H)) {x j t : Nat} {a2 : Int32} (hx : x ≤ 10) : ∀ (i fuel : Nat) (h : jv_H), i ≤ 6 → i < fuel → (∀ e, e ≤ 6 → h.1 39 e = nI (if i < e then dp x (j + 1) e else dp x j e)) → ∃ h', f8_countLooseWays_0_l46 k17 fuel (nI x) a2 (nI t) (nI i) h = k17 (nI x) a2 (nI (t + 1)) h' ∧ Sm h h' ∧ ∀ e, e ≤ 6 → h'.1 39 e = nI (dp x (j + 1) e) := by
  intro i
  induction i with
  | zero =>
    intro fuel h hi hf hq
    obtain ⟨f, rfl⟩ : ∃ n, fuel = n + 1 := ⟨fuel - 1, by omega⟩
    refine ⟨jv_p h 39 0 (nI (dp x (j + 1) 0)), ?_, (Sm.rf h).p _ _ _ (by unfold jq_s; omega), fun e he => ?_⟩
    · show g8_countLooseWays_0_b46 k17 (f8_countLooseWays_0_l46 k17 f) _ _ _ _ h = _
      unfold g8_countLooseWays_0_b46 g8_countLooseWays_0_b101
      have h0 := hq 0 (by omega)
      rw [if_neg (by omega)] at h0
      rw [if_pos (by decide), if_pos (by decide)]
      simp only [jl]
      rw [show Int32.toNatClampNeg (0 : Int32) = 0 from rfl, h0, show (10 : Int32) - nI x = nI (10 - x) from by rw [w10, pk_sub hx], pk_mul, w1, nI_add]
      rfl
    · rw [q_p_if]
      by_cases c : e = 0
      · rw [if_pos c, c]
      · rw [if_neg c, hq e he, if_pos (by omega)]
  | succ i ih =>
    intro fuel h hi hf hq
    obtain ⟨f, rfl⟩ : ∃ n, fuel = n + 1 := ⟨fuel - 1, by omega⟩
    have e1 := hq (i + 1) (by omega)
    have e2 := hq i (by omega)
    rw [if_neg (by omega)] at e1 e2
    obtain ⟨h', g1, g2, g3⟩ := ih f (jv_p h 39 (i + 1) (nI (dp x (j + 1) (i + 1)))) (by omega) (by omega) (fun e he => by
      rw [q_p_if]
      by_cases c : e = i + 1
      · rw [if_pos c, if_pos (by omega), c]
      · rw [if_neg c, hq e he]
        by_cases d : i < e
        · rw [if_pos (by omega), if_pos d]
        · rw [if_neg (by omega), if_neg d])
    refine ⟨h', ?_, Sm.tr ((Sm.rf h).p _ _ _ (by unfold jq_s; omega)) g2, g3⟩
    show g8_countLooseWays_0_b46 k17 (f8_countLooseWays_0_l46 k17 f) _ _ _ _ h = _
    unfold g8_countLooseWays_0_b46
    rw [if_neg (by rw [q_le0 (by omega)]; omega), show nI (i + 1) - (1 : Int32) = nI i from by rw [w1, pk_sub (by omega)]; rfl, show nI (i + 1) + (-1 : Int32) = nI i from by rw [show (-1 : Int32) = 0 - 1 from rfl, w1, w0, Int32.sub_eq_add_neg, ← Int32.add_assoc, nI_add, ← Int32.sub_eq_add_neg, pk_sub (by omega)]; rfl]
    rw [if_pos (by rw [q_ix (by omega)]; omega), if_pos (by rw [q_ix (by omega)]; omega), if_pos (by rw [q_ix (by omega)]; omega), q_cl (by omega), q_cl (by omega), e1, e2, show (10 : Int32) - nI x = nI (10 - x) from by rw [w10, pk_sub hx], pk_mul, pk_mul, nI_add]
    simp only [jl]
    exact g1
theorem q_lw3 {f : Nat → Nat} {k : Nat} (hk : k ≤ 6) (hq : ∀ e, e ≤ 6 → h.1 39 e = nI (f e)) : ∀ (m i fuel : Nat), i + m = k + 1 → m < fuel → f8_countLooseWays_0_l112 fuel (nI k) (nI (sm f i)) (nI i) h = some (nI (sm f (k + 1)), h) := by
  intro m
  induction m with
  | zero =>
    intro i fuel hi hf
    obtain ⟨n, rfl⟩ : ∃ n, fuel = n + 1 := ⟨fuel - 1, by omega⟩
    have : i = k + 1 := by omega
    subst this
    show g8_countLooseWays_0_b112 (f8_countLooseWays_0_l112 n) _ _ _ h = _
    unfold g8_countLooseWays_0_b112
    rw [if_pos (by rw [q_lt (by omega) (by omega)]; omega)]
  | succ m ih =>
    intro i fuel hi hf
    obtain ⟨n, rfl⟩ : ∃ n, fuel = n + 1 := ⟨fuel - 1, by omega⟩
    show g8_countLooseWays_0_b112 (f8_countLooseWays_0_l112 n) _ _ _ h = _
    unfold g8_countLooseWays_0_b112
    rw [if_neg (by rw [q_lt (by omega) (by omega)]; omega), if_neg (by rw [w6, q_lt (by omega) (by omega)]; omega), if_pos (by rw [q_ix (by omega)]; omega), q_cl (by omega), hq i (by omega)]
    simp only [jl]
    rw [w1, nI_add, nI_add]
    exact ih (i + 1) n (by omega) (by omega)
theorem q_lw2 {x k : Nat} (hx : x ≤ 10) (hk : k ≤ 6) : ∀ (m t fuel : Nat) (h : jv_H), Vc h N M P y D ht pl ow → t + m = N → m < fuel → (∀ e, e ≤ 6 → h.1 39 e = nI (dp x (cn (fun s => !decide (ht s = 0)) t) e)) → ∃ h', f8_countLooseWays_0_l17 fuel (nI x) (nI k) (nI t) h = some (nI (sm (dp x (cn (fun s => !decide (ht s = 0)) N)) (k + 1)), h') ∧ Sm h h' := by
  intro m
  induction m with
  | zero =>
    intro t fuel h V hi hf hq
    obtain ⟨n, rfl⟩ : ∃ n, fuel = n + 1 := ⟨fuel - 1, by omega⟩
    have t1 := V.n6
    have : t = N := by omega
    subst this
    refine ⟨h, ?_, Sm.rf h⟩
    show g8_countLooseWays_0_b17 (f8_countLooseWays_0_l17 n) _ _ _ h = _
    unfold g8_countLooseWays_0_b17
    rw [V.nt, if_pos (by rw [q_le (by omega) (by omega)]; omega)]
    simp only [jl]
    exact q_lw3 hk hq (k + 1) 0 jv_fuel (by omega) (by unfold jv_fuel; omega)
  | succ m ih =>
    intro t fuel h V hi hf hq
    obtain ⟨n, rfl⟩ : ∃ n, fuel = n + 1 := ⟨fuel - 1, by omega⟩
    have t1 := V.n6
    have hh := V.hea (show t < N by omega)
    have h9 := hh.1
    by_cases c : ht t = 0
    · obtain ⟨h', g1, g2⟩ := ih (t + 1) n h V (by omega) (by omega) (fun e he => by rw [hq e he]; simp [cn, c])
      refine ⟨h', ?_, g2⟩
      show g8_countLooseWays_0_b17 (f8_countLooseWays_0_l17 n) _ _ _ h = _
      unfold g8_countLooseWays_0_b17 g8_countLooseWays_0_b101
      rw [V.nt, if_neg (by rw [q_le (by omega) (by omega)]; omega), q_heat V.p V.p10 (by omega), hh.2, ob, if_pos (by rw [q_eq0 (by omega)]; exact c), jl, w1, nI_add]
      exact g1
    · obtain ⟨h1, f1, f2, f3⟩ := q_lw1 (f8_countLooseWays_0_l17 n) (x := x) (j := cn (fun s => !decide (ht s = 0)) t) (t := t) (a2 := nI k) hx 6 jv_fuel h (by omega) (by unfold jv_fuel; omega) (fun e he => by rw [if_neg (by omega)]; exact hq e he)
      obtain ⟨h', g1, g2⟩ := ih (t + 1) n h1 (V.sm f2) (by omega) (by omega) (fun e he => by rw [f3 e he]; simp [cn, c])
      refine ⟨h', ?_, f2.tr g2⟩
      show g8_countLooseWays_0_b17 (f8_countLooseWays_0_l17 n) _ _ _ h = _
      unfold g8_countLooseWays_0_b17
      rw [V.nt, if_neg (by rw [q_le (by omega) (by omega)]; omega), q_heat V.p V.p10 (by omega), hh.2, ob, if_neg (by rw [q_eq0 (by omega)]; exact c), jl, w6, f1, g1]
theorem b_lw (V : Vc h N M P y D ht pl ow) {x k : Nat} (hx : x ≤ 10) (hk : k ≤ 6) : ∃ h', f8_countLooseWays_0 (nI x) (nI k) h = some (nI (sm (dp x (cn (fun s => !decide (ht s = 0)) N)) (k + 1)), h') ∧ Sm h h' := by
  have t1 := V.n6
  have s1 : Sm h (jv_p (jv_s h 39 (fun i => if 0 ≤ i ∧ i < 7 then 0 else h.1 39 i)) 39 0 1) := ((Sm.rf h).s 39 _ (fun j => by unfold jq_s; omega)).p _ _ _ (by unfold jq_s; omega)
  obtain ⟨h', g1, g2⟩ := q_lw2 hx hk N 0 jv_fuel _ (V.sm s1) (by omega) (by unfold jv_fuel; omega) (fun e he => by
    rw [q_p_if]
    by_cases c : e = 0
    · rw [if_pos c, c]; rfl
    · rw [if_neg c, s_at, if_pos (by omega)]
      obtain ⟨e', rfl⟩ : ∃ e', e = e' + 1 := ⟨e - 1, by omega⟩
      rfl)
  refine ⟨h', ?_, s1.tr g2⟩
  unfold f8_countLooseWays_0
  rw [q_fill40, ob, if_pos (by decide)]
  simp only [jl]
  exact g1
theorem q_gcd : ∀ (m a b i fuel : Nat), eut m a b = true → a < 2000000 → b < 2000000 → i + m ≤ 63 → m < fuel → f8_commonDivisor_l7 fuel (nI a) (nI b) (nI i) h = some (nI (eu m a b), h) := by
  intro m
  induction m with
  | zero =>
    intro a b i fuel he ha hb hi hf
    obtain ⟨n, rfl⟩ : ∃ n, fuel = n + 1 := ⟨fuel - 1, by omega⟩
    have b0 : b = 0 := by simpa [eut] using he
    show g8_commonDivisor_b7 (f8_commonDivisor_l7 n) _ _ _ h = _
    unfold g8_commonDivisor_b7
    rw [if_neg (by rw [show (64 : Int32) = nI 64 from rfl, q_le (by omega) (by omega)]; omega), if_pos (by rw [q_eq0 (by omega)]; exact b0)]
    rfl
  | succ m ih =>
    intro a b i fuel he ha hb hi hf
    obtain ⟨n, rfl⟩ : ∃ n, fuel = n + 1 := ⟨fuel - 1, by omega⟩
    show g8_commonDivisor_b7 (f8_commonDivisor_l7 n) _ _ _ h = _
    unfold g8_commonDivisor_b7 eu
    rw [if_neg (by rw [show (64 : Int32) = nI 64 from rfl, q_le (by omega) (by omega)]; omega)]
    by_cases b0 : b = 0
    · rw [if_pos (by rw [q_eq0 (by omega)]; exact b0), if_pos b0]
    · have hm : nI a - nI a / nI b * nI b = nI (a % b) := by
        rw [pk_div (by omega) (by omega) (by omega), pk_mul, pk_sub (Nat.div_mul_le_self a b), Nat.mod_eq_sub_div_mul]
      have hlt := Nat.mod_lt a (show 0 < b by omega)
      rw [if_neg (by rw [q_eq0 (by omega)]; exact b0), if_neg (by rw [q_eq0 (by omega)]; exact b0), if_neg b0, hm]
      simp only [jl]
      rw [w1, nI_add]
      refine ih b (a % b) (i + 1) n ?_ hb (by omega) (by omega) (by omega)
      simpa [eut, b0] using he
theorem q_mgcd {w u l : Int32} : ∀ (m a b fuel : Nat), eut m a b = true → a < 2000000 → b < 2000000 → 0 < eu m a b → eu m a b < 2000000 → m < fuel → f9_odds_40_l167 fuel w u l (nI a) (nI b) h = some (if w = 0 then u / nI (eu m a b) else l / nI (eu m a b), h) := by
  intro m
  induction m with
  | zero =>
    intro a b fuel he ha hb h0 h1 hf
    obtain ⟨n, rfl⟩ : ∃ n, fuel = n + 1 := ⟨fuel - 1, by omega⟩
    have b0 : b = 0 := by simpa [eut] using he
    have a0 : 0 < a := h0
    show g9_odds_40_b167 (f9_odds_40_l167 n) _ _ _ _ _ h = _
    unfold g9_odds_40_b167
    rw [if_pos (by rw [q_eq0 (by omega)]; exact b0)]
    rw [if_neg (show ¬ nI a = 0 by rw [q_eq0 (by omega)]; omega), if_neg (show ¬ nI a = 0 by rw [q_eq0 (by omega)]; omega)]
    show _ = some (if w = 0 then u / nI a else l / nI a, h)
    split <;> rfl
  | succ m ih =>
    intro a b fuel he ha hb h0 h1 hf
    obtain ⟨n, rfl⟩ : ∃ n, fuel = n + 1 := ⟨fuel - 1, by omega⟩
    show g9_odds_40_b167 (f9_odds_40_l167 n) _ _ _ _ _ h = _
    unfold g9_odds_40_b167
    unfold eu at h0 h1 ⊢
    by_cases b0 : b = 0
    · rw [if_pos b0] at h0 h1
      rw [if_pos (show nI b = 0 by rw [q_eq0 (by omega)]; exact b0), if_neg (show ¬ nI a = 0 by rw [q_eq0 (by omega)]; omega), if_neg (show ¬ nI a = 0 by rw [q_eq0 (by omega)]; omega), if_pos b0]
      split <;> rfl
    · have hm : nI a - nI a / nI b * nI b = nI (a % b) := by
        rw [pk_div (by omega) (by omega) (by omega), pk_mul, pk_sub (Nat.div_mul_le_self a b), Nat.mod_eq_sub_div_mul]
      have hlt := Nat.mod_lt a (show 0 < b by omega)
      rw [if_neg b0] at h0 h1
      rw [if_neg (show ¬ nI b = 0 by rw [q_eq0 (by omega)]; exact b0), if_neg (show ¬ nI b = 0 by rw [q_eq0 (by omega)]; exact b0), if_neg b0, hm]
      simp only [jl]
      refine ih b (a % b) n ?_ hb (by omega) h0 h1 (by omega)
      simpa [eut, b0] using he
theorem q_pr (k82 : Int32 → Int32 → Int32 → Int32 → Int32 → Int32 → Int32 → jv_H → Option (Int32 × jv_H)) {x n c s : Nat} {a2 a3 a6 : Int32} (hx : x ≤ 10) (hn : n ≤ 6) (hc : c < 64) : ∀ (m i fuel a : Nat), i + m = n → m < fuel → f9_odds_40_l110 k82 fuel (nI x) a2 a3 (nI n) (nI s) a6 (nI c) (nI a) (nI i) h = k82 (nI x) a2 a3 (nI n) (nI (s + a * pr x c m i)) a6 (nI (c + 1)) h := by
  intro m
  induction m with
  | zero =>
    intro i fuel a hi hf
    obtain ⟨f, rfl⟩ : ∃ n, fuel = n + 1 := ⟨fuel - 1, by omega⟩
    show g9_odds_40_b110 k82 (f9_odds_40_l110 k82 f) _ _ _ _ _ _ _ _ _ h = _
    unfold g9_odds_40_b110
    rw [if_pos (by rw [q_le (by omega) (by omega)]; omega)]
    simp only [jl]
    rw [w1, nI_add, nI_add, pr, Nat.mul_one]
  | succ m ih =>
    intro i fuel a hi hf
    obtain ⟨f, rfl⟩ : ∃ n, fuel = n + 1 := ⟨fuel - 1, by omega⟩
    show g9_odds_40_b110 k82 (f9_odds_40_l110 k82 f) _ _ _ _ _ _ _ _ _ h = _
    unfold g9_odds_40_b110 g9_odds_40_b137
    rw [if_neg (by rw [q_le (by omega) (by omega)]; omega), q_has (by omega) hc, ob]
    simp only [jl]
    rw [show nI i + (1 : Int32) = nI (i + 1) from by rw [w1, nI_add], show (10 : Int32) - nI x = nI (10 - x) from by rw [w10, pk_sub hx], pk_mul, pk_mul, pr]
    cases hb : c.testBit i with
    | true =>
      rw [if_neg (by decide), ih (i + 1) f _ (by omega) (by omega), if_pos rfl, Nat.mul_assoc]
    | false =>
      rw [if_pos (by decide), ih (i + 1) f _ (by omega) (by omega), if_neg (by decide), Nat.mul_assoc]
theorem q_2n : ∀ n, n ≤ 6 → (1 : Int32) <<< (nI n &&& 31) = nI (2 ^ n) := by decide +kernel
theorem q_su {x n k : Nat} {w a6 : Int32} (hx : x ≤ 10) (hn : n ≤ 6) (hk : k ≤ 6) : ∀ (m c fuel s : Nat), c + m = 2 ^ n → m < fuel → f9_odds_40_l82 fuel (nI x) (nI k) w (nI n) (nI s) a6 (nI c) h = f9_odds_40_l167 jv_fuel w (nI (s + su x k n m c)) a6 (nI (s + su x k n m c)) a6 h := by
  have h64 := pw6 hn
  intro m
  induction m with
  | zero =>
    intro c fuel s hi hf
    obtain ⟨f, rfl⟩ : ∃ n, fuel = n + 1 := ⟨fuel - 1, by omega⟩
    show g9_odds_40_b82 (f9_odds_40_l82 f) _ _ _ _ _ _ _ h = _
    unfold g9_odds_40_b82
    rw [q_2n n hn, if_pos (by rw [q_le (by omega) (by omega)]; omega)]
    simp only [jl]
    rfl
  | succ m ih =>
    intro c fuel s hi hf
    obtain ⟨f, rfl⟩ : ∃ n, fuel = n + 1 := ⟨fuel - 1, by omega⟩
    have hpc := pc_le c
    show g9_odds_40_b82 (f9_odds_40_l82 f) _ _ _ _ _ _ _ h = _
    unfold g9_odds_40_b82 g9_odds_40_b105
    rw [q_2n n hn, if_neg (by rw [q_le (by omega) (by omega)]; omega), q_bits (by omega), ob]
    simp only [jl]
    rw [show (0 : Int32) = nI 0 from rfl, w1, q_pr (f9_odds_40_l82 f) hx hn (by omega) n 0 jv_fuel 0 (by omega) (by unfold jv_fuel; omega), q_pr (f9_odds_40_l82 f) hx hn (by omega) n 0 jv_fuel 1 (by omega) (by unfold jv_fuel; omega), ih (c + 1) f _ (by omega) (by omega), ih (c + 1) f _ (by omega) (by omega), su]
    by_cases q : k < pc c
    · rw [if_pos (by rw [q_lt (by omega) (by omega)]; exact q), if_pos q, Nat.zero_mul, Nat.add_zero, Nat.zero_add]
    · rw [if_neg (by rw [q_lt (by omega) (by omega)]; exact q), if_neg q, Nat.one_mul, Nat.add_assoc]
theorem q_10 {x n k : Nat} {w : Int32} (hx : x ≤ 10) (hn : n ≤ 6) (hk : k ≤ 6) : ∀ (m i fuel T : Nat), i + m = n → m < fuel → f9_odds_40_l59 fuel (nI x) (nI k) w (nI n) (nI 0) (nI T) (nI i) h = f9_odds_40_l167 jv_fuel w (nI (su x k n (2 ^ n) 0)) (nI (T * 10 ^ m)) (nI (su x k n (2 ^ n) 0)) (nI (T * 10 ^ m)) h := by
  have h64 := pw6 hn
  intro m
  induction m with
  | zero =>
    intro i fuel T hi hf
    obtain ⟨f, rfl⟩ : ∃ n, fuel = n + 1 := ⟨fuel - 1, by omega⟩
    show g9_odds_40_b59 (f9_odds_40_l59 f) _ _ _ _ _ _ _ h = _
    unfold g9_odds_40_b59
    rw [if_pos (by rw [q_le (by omega) (by omega)]; omega)]
    simp only [jl]
    rw [show (0 : Int32) = nI 0 from rfl, q_su hx hn hk (2 ^ n) 0 jv_fuel 0 (by omega) (by unfold jv_fuel; omega), Nat.zero_add, Nat.pow_zero, Nat.mul_one]
  | succ m ih =>
    intro i fuel T hi hf
    obtain ⟨f, rfl⟩ : ∃ n, fuel = n + 1 := ⟨fuel - 1, by omega⟩
    show g9_odds_40_b59 (f9_odds_40_l59 f) _ _ _ _ _ _ _ h = _
    unfold g9_odds_40_b59
    rw [if_neg (by rw [q_le (by omega) (by omega)]; omega)]
    simp only [jl]
    rw [w10, w1, pk_mul, nI_add, ih (i + 1) f _ (by omega) (by omega), Nat.mul_assoc, show 10 * 10 ^ m = 10 ^ (m + 1) from by rw [Nat.pow_succ, Nat.mul_comm]]
end OD
theorem p_odds : ok_odds Inv := by
  intro a b c h hI
  obtain ⟨N, M, P, y, D, ht, pl, ow, V, W, -⟩ := hI.vw
  have t1 := V.n6
  have h10 : ¬ (1 : Int32) = 0 := by decide
  have z : (0 : Int32).toInt = 0 := rfl
  have o : (1 : Int32).toInt = 1 := rfl
  have s6 : (6 : Int32).toInt = 6 := rfl
  have s10 : (10 : Int32).toInt = 10 := rfl
  have z' : (0 : Int64).toInt = 0 := rfl
  have o' : (1 : Int64).toInt = 1 := rfl
  have s6' : (6 : Int64).toInt = 6 := rfl
  have s10' : (10 : Int64).toInt = 10 := rfl
  by_cases ha : (0 : Int) ≤ a.toInt ∧ a.toInt ≤ 10
  · by_cases hb : (0 : Int) ≤ b.toInt ∧ b.toInt ≤ 6
    · by_cases hc : (0 : Int) ≤ c.toInt ∧ c.toInt ≤ 1
      · obtain ⟨x, hx, rfl⟩ : ∃ t, t < 11 ∧ a = nI t := by
          rcases q_arg a 11 (by omega) with q | q
          · exact q
          · exact absurd ha (by omega)
        obtain ⟨k, hk, rfl⟩ : ∃ t, t < 7 ∧ b = nI t := by
          rcases q_arg b 7 (by omega) with q | q
          · exact q
          · exact absurd hb (by omega)
        obtain ⟨h1, f1, f2⟩ := b_lw V (x := x) (k := k) (by omega) (by omega)
        obtain ⟨h2, g1, g2⟩ := b_lw (V.sm f2) (x := x) (k := 6) (by omega) (by omega)
        have W2 : Vm h2 N M y D ht pl ow := W.sm (f2.tr g2)
        have c1 := cn_not (fun s => decide (ht s = 0)) N
        have c2 := cn_le (fun s => decide (ht s = 0)) N
        generalize hn : cn (fun s => !decide (ht s = 0)) N = n at *
        have n6 : n ≤ 6 := by omega
        obtain ⟨o1, o2⟩ := odds_all n n6 x (by omega)
        obtain ⟨o3, o4, o5, o6, o7⟩ := o2 k (by omega)
        rw [o1] at g1
        have p10 : 10 ^ n < 2000000 := by
          have : 10 ^ n ≤ 10 ^ 6 := Nat.pow_le_pow_right (by omega) n6
          omega
        have hg := q_gcd (h := h2) 40 _ _ 0 jv_fuel o5 o4 p10 (by omega) (by unfold jv_fuel; omega)
        have hm := q_mgcd (h := h2) (w := c) (u := nI (sm (dp x n) (k + 1))) (l := nI (10 ^ n)) 40 _ _ jv_fuel o5 o4 p10 o6 o7 (by unfold jv_fuel; omega)
        have ht' := q_10 (h := h2) (x := x) (w := c) (k := k) (by omega) n6 (by omega) n 0 jv_fuel 1 (by omega) (by unfold jv_fuel; omega)
        rw [Nat.one_mul, ← o3] at ht'
        have hpb := pc_bs (fun t => decide (ht t = 0)) N t1
        generalize eu 40 (sm (dp x n) (k + 1)) (10 ^ n) = g at *
        generalize sm (dp x n) (k + 1) = S at *
        have g0 : ¬ nI g = 0 := by rw [q_eq0 (by omega)]; omega
        refine ⟨if c = 0 then nI S / nI g else nI (10 ^ n) / nI g, h2, h2, ?_, ?_, hI.sm (f2.tr g2)⟩
        · unfold f8_odds_0 f8_commonDivisor
          simp only [q_within, z, o, s6, s10, if_pos ha, if_pos hb, if_pos hc, ob, if_neg h10, jl, f1]
          rw [w6, g1]
          simp only [ob]
          have hg : f8_commonDivisor_l7 jv_fuel (nI S) (nI (10 ^ n)) 0 h2 = some (nI g, h2) := hg
          simp only [hg, ob, if_neg g0]
          split <;> rfl
        · unfold f9_odds_40
          simp only [q_in, z', o', s6', s10', if_pos ha, if_pos hb, if_pos hc, ob, if_neg h10, jl, b_mbroken W2, W2.nt, q_bits (bs_64 _ t1), hpb]
          rw [pk_sub c2, show N - cn (fun s => decide (ht s = 0)) N = n by omega]
          exact ht'.trans hm
      · refine ⟨-1, h, h, ?_, ?_, hI⟩
        · unfold f8_odds_0
          simp only [q_within, z, o, s6, s10, if_pos ha, if_pos hb, if_neg hc, ob, if_neg h10]
          rfl
        · unfold f9_odds_40
          simp only [q_in, z', o', s6', s10', if_pos ha, if_pos hb, if_neg hc, ob, if_neg h10]
          rfl
    · refine ⟨-1, h, h, ?_, ?_, hI⟩
      · unfold f8_odds_0
        simp only [q_within, z, o, s6, s10, if_pos ha, if_neg hb, ob, if_neg h10]
        rfl
      · unfold f9_odds_40
        simp only [q_in, z', o', s6', s10', if_pos ha, if_neg hb, ob, if_neg h10]
        rfl
  · refine ⟨-1, h, h, ?_, ?_, hI⟩
    · unfold f8_odds_0
      simp only [q_within, z, o, s6, s10, if_neg ha, ob]
      rfl
    · unfold f9_odds_40
      simp only [q_in, z', o', s6', s10', if_neg ha, ob]
      rfl
