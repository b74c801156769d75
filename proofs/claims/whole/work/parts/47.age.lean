/-! heats over the years: when, hot, best, mark -/
/-- a heat a year on -/
def ag (g τ x : Nat) : Nat := if x = 0 then 0 else (if x + g < 99 then x + g else 99) - τ
theorem ag_le {g τ x : Nat} (hx : x ≤ 99) : ag g τ x ≤ 99 := by unfold ag; split <;> (try split) <;> omega
def agn (g τ : Nat) : Nat → Nat → Nat
  | 0, x => x
  | k + 1, x => agn g τ k (ag g τ x)
theorem agn_le {g τ : Nat} : ∀ (k : Nat) {x : Nat}, x ≤ 99 → agn g τ k x ≤ 99
  | 0, _, h => h
  | k + 1, _, h => agn_le k (ag_le h)
theorem agn_s {g τ : Nat} : ∀ (k x : Nat), agn g τ (k + 1) x = ag g τ (agn g τ k x)
  | 0, _ => rfl
  | k + 1, x => by rw [agn, agn_s k]; rfl
theorem q_next {x g τ : Nat} (hx : x ≤ 99) (hg : g ≤ 5) (hτ : τ ≤ 9) (h : jv_H) : f3_heatNextYear (nI x) (nI g) (nI τ) h = some (nI (ag g τ x), h) := by
  unfold f3_heatNextYear ag
  by_cases h0 : x = 0
  · subst h0; rfl
  · rw [if_neg (by rw [q_eq0 (by omega)]; exact h0), if_neg h0]
    have key : ∀ m, 1 ≤ m → m ≤ 104 → (if (0 : Int32) < nI m - nI τ then nI m - nI τ else (0 : Int32)) = nI (m - τ) := by
      intro m h1 h2
      by_cases hm : τ < m
      · rw [pk_sub (by omega), if_pos (by rw [w0, q_lt (by omega) (by omega)]; omega)]
      · have ht : (nI m - nI τ).toInt = (m : Int) - τ := pk_sub_toInt (by omega) (by omega)
        rw [if_neg (by rw [Int32.lt_iff_toInt_lt, ht]; show ¬ (0 : Int) < _; omega), show m - τ = 0 by omega]
        rfl
    rw [nI_add]
    by_cases h9 : x + g < 99
    · rw [if_pos (show nI (x + g) < 99 by rw [w99, q_lt (by omega) (by omega)]; exact h9), if_pos h9, key _ (by omega) (by omega)]
    · rw [if_neg (show ¬ nI (x + g) < 99 by rw [w99, q_lt (by omega) (by omega)]; exact h9), if_neg h9, w99, key 99 (by omega) (by omega)]
/-- what the nurse at a place tames -/
def tz (D : Nat → Nat → Nat) (v : Int32) : Nat := if v = -9 then 0 else D 3 v.toNatClampNeg
section AG
variable {h : jv_H} {N M P y : Nat} {D : Nat → Nat → Nat} {ht : Nat → Nat} {pl : Nat → Int32} {ow : Nat → Nat}
theorem tz_le (V : Vm h N M y D ht pl ow) {v : Int32} (hv : v = -9 ∨ ∃ n, n < M ∧ v = nI n) : tz D v ≤ 9 := by
  have := V.m4
  unfold tz
  rcases hv with rfl | ⟨n, hn, rfl⟩
  · simp
  · rw [if_neg (by rw [q_m9 (by omega)]; exact fun h => h), q_cl (by omega)]
    exact (V.ta hn).2.2
theorem q_aged (V : Vm h N M y D ht pl ow) {t x : Nat} {v : Int32} (htN : t < N) (hx : x ≤ 99) (hv : v = -9 ∨ ∃ n, n < M ∧ v = nI n) : f9_aged_40 (nI t) (nI x) v h = some (nI (ag (D 0 t) (tz D v) x), h) := by
  have t1 := V.n6
  have t2 := V.m4
  have hg := V.gr htN
  have key : ∀ m, 1 ≤ m → m ≤ 104 → g9_aged_40_b32 v (nI m) h = some (nI (m - tz D v), h) := by
    intro m h1 h2
    unfold g9_aged_40_b32 g9_aged_40_b50 tz
    simp only [jv_let]
    rcases hv with rfl | ⟨n, hn, rfl⟩
    · simp only [if_true, Nat.sub_zero]
      rw [if_neg (by rw [w0, q_le (by omega) (by omega)]; omega), w0, pk_sub (by omega), Nat.sub_zero]
    · have ht' := V.ta hn
      simp only [q_m9 (show n < 2147483648 by omega), if_false, q_cl (show n < 2147483648 by omega), if_pos (show jv_ix (nI n) 4 by rw [q_ix (by omega)]; omega), ht'.1]
      by_cases hm : m ≤ D 3 n
      · rw [if_pos (by rw [q_le (by omega) (by omega)]; exact hm), show m - D 3 n = 0 by omega]
        rfl
      · rw [if_neg (by rw [q_le (by omega) (by omega)]; exact hm), pk_sub (by omega)]
  unfold f9_aged_40 ag
  by_cases h0 : x = 0
  · subst h0; rfl
  · rw [if_neg (by rw [q_eq0 (by omega)]; exact h0), if_neg h0, if_pos (by rw [q_ix (by omega)]; omega), q_cl (by omega), hg.1, nI_add]
    by_cases h9 : x + D 0 t ≤ 99
    · rw [if_pos (by rw [w99, q_le (by omega) (by omega)]; exact h9), if_pos (by rw [q_ix (by omega)]; omega), key _ (by omega) (by omega)]
      by_cases h9' : x + D 0 t < 99
      · rw [if_pos h9']
      · rw [if_neg h9', show x + D 0 t = 99 by omega]
    · rw [if_neg (by rw [w99, q_le (by omega) (by omega)]; exact h9), w99, key 99 (by omega) (by omega), if_neg (by omega)]
theorem q_heatInl (V : Vc h N M P y D ht pl ow) {t k τ : Nat} (htN : t < N) (hk : k ≤ 99) (hτ : τ ≤ 9) : ∀ (m i fuel x : Nat), i + m = k → m < fuel → x ≤ 99 → f3_heatIn_22_l61 fuel (nI t) (nI k) (nI τ) (nI x) (nI i) h = some (nI (agn (D 0 t) τ m x), h) := by
  have t1 := V.n6
  have hg := V.gr htN
  intro m
  induction m with
  | zero =>
    intro i fuel x hi hf hx
    obtain ⟨n, rfl⟩ : ∃ n, fuel = n + 1 := ⟨fuel - 1, by omega⟩
    show g3_heatIn_22_b61 (f3_heatIn_22_l61 n) (nI t) (nI k) (nI τ) (nI x) (nI i) h = _
    unfold g3_heatIn_22_b61
    rw [if_pos (by rw [q_le (by omega) (by omega)]; omega)]
    rfl
  | succ m ih =>
    intro i fuel x hi hf hx
    obtain ⟨n, rfl⟩ : ∃ n, fuel = n + 1 := ⟨fuel - 1, by omega⟩
    show g3_heatIn_22_b61 (f3_heatIn_22_l61 n) (nI t) (nI k) (nI τ) (nI x) (nI i) h = _
    unfold g3_heatIn_22_b61
    rw [if_neg (by rw [q_le (by omega) (by omega)]; omega), if_neg (by rw [w99, q_le (by omega) (by omega)]; omega), if_pos (by rw [q_ix (by omega)]; omega), q_cl (by omega), hg.1, q_next hx hg.2 hτ]
    simp only [Option.bind_some, jv_let]
    rw [w1, nI_add, ih (i + 1) n _ (by omega) (by omega) (ag_le hx)]
    rfl
theorem b_heatIn (V : Vc h N M P y D ht pl ow) {t k : Nat} (htN : t < N) (hk : k ≤ 99) : f3_heatIn_22 (nI t) (nI k) h = some (nI (agn (D 0 t) (tz D (pl t)) k (ht t)), h) := by
  have t1 := V.n6
  have t2 := V.m4
  have hx := V.hea htN
  have hp := V.pla htN
  have b1 : 0 ≤ (nI t).toInt ∧ (nI t).toInt < N := by rw [q_ti (by omega)]; omega
  have h10 : ¬ (1 : Int32) = 0 := by decide
  unfold f3_heatIn_22 g3_heatIn_22_b46
  simp only [q_hasT _ V.nt t1, Option.bind_some, if_pos b1, if_neg h10, q_place V.p V.p10 (show t < 6 by omega), hp.1, jv_let, q_hasN _ V.nn (show M ≤ 6 by omega)]
  unfold tz
  rcases hp.2 with e | ⟨n, hn, e⟩
  · rw [e]
    have b2 : ¬ (0 ≤ (-9 : Int32).toInt ∧ (-9 : Int32).toInt < M) := by
      have : (-9 : Int32).toInt = -9 := by decide
      omega
    simp only [if_neg b2, if_true, q_heat V.p V.p10 (show t < 6 by omega), Option.bind_some, hx.2]
    rw [w0, q_heatInl V htN hk (by omega) k 0 jv_fuel _ (by omega) (by unfold jv_fuel; omega) hx.1]
  · rw [e]
    have ht' := V.ta hn
    have b2 : 0 ≤ (nI n).toInt ∧ (nI n).toInt < M := by rw [q_ti (by omega)]; omega
    simp only [if_pos b2, if_neg h10, if_pos (show jv_ix (nI n) 4 by rw [q_ix (by omega)]; omega), q_cl (show n < 2147483648 by omega), ht'.1, q_heat V.p V.p10 (show t < 6 by omega), Option.bind_some, hx.2, q_m9 (show n < 2147483648 by omega), if_false]
    rw [w0, q_heatInl V htN hk (by omega) k 0 jv_fuel _ (by omega) (by unfold jv_fuel; omega) hx.1]
theorem q_hotInl (V : Vm h N M y D ht pl ow) {t k : Nat} (htN : t < N) (hk : k ≤ 99) : ∀ (m i fuel x : Nat), i + m = k → m < fuel → x ≤ 99 → f9_hotIn_40_l9 fuel (nI t) (nI k) (nI x) (nI i) h = some (nI (agn (D 0 t) (tz D (pl t)) m x), h) := by
  have t1 := V.n6
  have hp := V.pla htN
  intro m
  induction m with
  | zero =>
    intro i fuel x hi hf hx
    obtain ⟨n, rfl⟩ : ∃ n, fuel = n + 1 := ⟨fuel - 1, by omega⟩
    show g9_hotIn_40_b9 (f9_hotIn_40_l9 n) (nI t) (nI k) (nI x) (nI i) h = _
    unfold g9_hotIn_40_b9
    rw [if_pos (by rw [q_le (by omega) (by omega)]; omega)]
    rfl
  | succ m ih =>
    intro i fuel x hi hf hx
    obtain ⟨n, rfl⟩ : ∃ n, fuel = n + 1 := ⟨fuel - 1, by omega⟩
    show g9_hotIn_40_b9 (f9_hotIn_40_l9 n) (nI t) (nI k) (nI x) (nI i) h = _
    unfold g9_hotIn_40_b9
    rw [if_neg (by rw [q_le (by omega) (by omega)]; omega), w7, nI_add, if_pos (by rw [q_ix (by omega)]; omega), q_cl (by omega), hp.1, q_aged V htN hx hp.2]
    simp only [Option.bind_some, jv_let]
    rw [w1, nI_add, ih (i + 1) n _ (by omega) (by omega) (ag_le hx)]
    rfl
theorem b_hotIn (V : Vm h N M y D ht pl ow) {t k : Nat} (htN : t < N) (hk : k ≤ 99) : f9_hotIn_40 (nI t) (nI k) h = some (nI (agn (D 0 t) (tz D (pl t)) k (ht t)), h) := by
  have t1 := V.n6
  have hx := V.hea htN
  unfold f9_hotIn_40
  simp only [q_mheat (show t < 6 by omega), Option.bind_some, jv_let, hx.2]
  rw [w0, q_hotInl V htN hk k 0 jv_fuel _ (by omega) (by unfold jv_fuel; omega) hx.1]
/-- in how many years it is broken, y of them gone, m left to look at -/
def wb (g τ : Nat) : Nat → Nat → Nat → Int32
  | 0, _, _ => -9
  | m + 1, y, x => if x = 0 then nI y else wb g τ m (y + 1) (ag g τ x)
theorem wb_in (g τ : Nat) : ∀ (m y x : Nat), wb g τ m y x = -9 ∨ ∃ k, y ≤ k ∧ k < y + m ∧ wb g τ m y x = nI k
  | 0, _, _ => Or.inl rfl
  | m + 1, y, x => by
    unfold wb
    by_cases h : x = 0
    · exact Or.inr ⟨y, by omega, by omega, if_pos h⟩
    · rw [if_neg h]
      rcases wb_in g τ m (y + 1) (ag g τ x) with q | ⟨k, q1, q2, q3⟩
      · exact Or.inl q
      · exact Or.inr ⟨k, by omega, by omega, q3⟩
theorem q_till (V : Vc h N M P y D ht pl ow) {t n : Nat} (htN : t < N) (hnM : n < M) : ∀ (m i fuel x : Nat), i + m = 100 → m < fuel → x ≤ 99 → f3_yearsTillBroken_22_l37 fuel (nI t) (nI n) (nI x) (nI i) h = some (wb (D 0 t) (D 3 n) m i x, h) := by
  have t1 := V.n6
  have t2 := V.m4
  have hg := V.gr htN
  have hn := V.ta hnM
  intro m
  induction m with
  | zero =>
    intro i fuel x hi hf hx
    obtain ⟨k, rfl⟩ : ∃ n, fuel = n + 1 := ⟨fuel - 1, by omega⟩
    show g3_yearsTillBroken_22_b37 (f3_yearsTillBroken_22_l37 k) (nI t) (nI n) (nI x) (nI i) h = _
    unfold g3_yearsTillBroken_22_b37
    rw [if_pos (by rw [w99, q_lt (by omega) (by omega)]; omega)]
    rfl
  | succ m ih =>
    intro i fuel x hi hf hx
    obtain ⟨k, rfl⟩ : ∃ n, fuel = n + 1 := ⟨fuel - 1, by omega⟩
    show g3_yearsTillBroken_22_b37 (f3_yearsTillBroken_22_l37 k) (nI t) (nI n) (nI x) (nI i) h = _
    unfold g3_yearsTillBroken_22_b37 wb
    rw [if_neg (by rw [w99, q_lt (by omega) (by omega)]; omega)]
    by_cases h0 : x = 0
    · rw [if_pos h0, if_pos (by rw [q_eq0 (by omega)]; exact h0)]
    · rw [if_neg h0, if_neg (by rw [q_eq0 (by omega)]; exact h0), if_pos (by rw [q_ix (by omega)]; omega), if_pos (by rw [q_ix (by omega)]; omega), q_cl (by omega), q_cl (by omega), hg.1, hn.1, q_next hx hg.2 hn.2.2]
      simp only [Option.bind_some, jv_let]
      rw [w1, nI_add, ih (i + 1) k _ (by omega) (by omega) (ag_le hx)]
theorem b_till (V : Vc h N M P y D ht pl ow) {t n : Nat} (htN : t < N) (hnM : n < M) : f3_yearsTillBroken_22 (nI t) (nI n) h = some (wb (D 0 t) (D 3 n) 100 0 (ht t), h) := by
  have t1 := V.n6
  have t2 := V.m4
  have hx := V.hea htN
  have b1 : 0 ≤ (nI t).toInt ∧ (nI t).toInt < N := by rw [q_ti (by omega)]; omega
  have b2 : 0 ≤ (nI n).toInt ∧ (nI n).toInt < M := by rw [q_ti (by omega)]; omega
  have h10 : ¬ (1 : Int32) = 0 := by decide
  unfold f3_yearsTillBroken_22
  simp only [q_hasT _ V.nt t1, q_hasN _ V.nn (show M ≤ 6 by omega), Option.bind_some, if_pos b1, if_pos b2, if_neg h10, q_heat V.p V.p10 (show t < 6 by omega), jv_let, hx.2]
  rw [w0, q_till V htN hnM 100 0 jv_fuel _ (by omega) (by unfold jv_fuel; omega) hx.1]
theorem q_mtill (V : Vm h N M y D ht pl ow) {t n : Nat} (htN : t < N) (hnM : n < M) : ∀ (m i fuel x : Nat), i + m = 100 → m < fuel → x ≤ 99 → f9_whenBroken_40_l9 fuel (nI t) (nI n) (nI x) (nI i) h = some (wb (D 0 t) (D 3 n) m i x, h) := by
  have t1 := V.n6
  have t2 := V.m4
  have htz : tz D (nI n) = D 3 n := by
    unfold tz
    rw [if_neg (by rw [q_m9 (by omega)]; exact fun h => h), q_cl (by omega)]
  intro m
  induction m with
  | zero =>
    intro i fuel x hi hf hx
    obtain ⟨k, rfl⟩ : ∃ n, fuel = n + 1 := ⟨fuel - 1, by omega⟩
    show g9_whenBroken_40_b9 (f9_whenBroken_40_l9 k) (nI t) (nI n) (nI x) (nI i) h = _
    unfold g9_whenBroken_40_b9
    rw [if_pos (by rw [w99, q_lt (by omega) (by omega)]; omega)]
    rfl
  | succ m ih =>
    intro i fuel x hi hf hx
    obtain ⟨k, rfl⟩ : ∃ n, fuel = n + 1 := ⟨fuel - 1, by omega⟩
    show g9_whenBroken_40_b9 (f9_whenBroken_40_l9 k) (nI t) (nI n) (nI x) (nI i) h = _
    unfold g9_whenBroken_40_b9 wb
    rw [if_neg (by rw [w99, q_lt (by omega) (by omega)]; omega)]
    by_cases h0 : x = 0
    · rw [if_pos h0, if_pos (by rw [q_eq0 (by omega)]; exact h0)]
    · rw [if_neg h0, if_neg (by rw [q_eq0 (by omega)]; exact h0), q_aged V htN hx (Or.inr ⟨n, hnM, rfl⟩)]
      simp only [Option.bind_some, jv_let]
      rw [w1, nI_add, htz, ih (i + 1) k _ (by omega) (by omega) (ag_le hx)]
theorem b_mtill (V : Vm h N M y D ht pl ow) {t n : Nat} (htN : t < N) (hnM : n < M) : f9_whenBroken_40 (nI t) (nI n) h = some (wb (D 0 t) (D 3 n) 100 0 (ht t), h) := by
  have t1 := V.n6
  have hx := V.hea htN
  unfold f9_whenBroken_40
  simp only [q_mheat (show t < 6 by omega), Option.bind_some, jv_let, hx.2]
  rw [w0, q_mtill V htN hnM 100 0 jv_fuel _ (by omega) (by unfold jv_fuel; omega) hx.1]
end AG
theorem p_when : ok_when Inv := by
  intro a b h hI
  obtain ⟨N, M, P, y, D, ht, pl, ow, V, W, -⟩ := hI.vw
  have t1 := V.n6
  have t2 := V.m4
  have h10 : ¬ (1 : Int32) = 0 := by decide
  rcases q_arg a N (by omega) with ⟨t, htN, rfl⟩ | hb
  · have hb : 0 ≤ (nI t).toInt ∧ (nI t).toInt < N := by rw [q_ti (by omega)]; omega
    rcases q_arg b M (by omega) with ⟨n, hnM, rfl⟩ | hb2
    · have hb2 : 0 ≤ (nI n).toInt ∧ (nI n).toInt < M := by rw [q_ti (by omega)]; omega
      refine ⟨wb (D 0 t) (D 3 n) 100 0 (ht t), h, h, ?_, ?_, hI⟩
      · unfold f8_when_0
        simp only [q_hasT _ V.nt t1, q_hasN _ V.nn (show M ≤ 6 by omega), Option.bind_some, if_pos hb, if_pos hb2, if_neg h10, b_till V htN hnM]
      · unfold f9_when_40
        simp only [q_isT _ W.nt t1, q_isN _ W.nn (show M ≤ 6 by omega), Option.bind_some, if_pos hb, if_pos hb2, if_neg h10, b_mtill W htN hnM]
    · refine ⟨-1, h, h, ?_, ?_, hI⟩
      · unfold f8_when_0
        simp only [q_hasT _ V.nt t1, q_hasN _ V.nn (show M ≤ 6 by omega), Option.bind_some, if_pos hb, if_neg hb2]
        rfl
      · unfold f9_when_40
        simp only [q_isT _ W.nt t1, q_isN _ W.nn (show M ≤ 6 by omega), Option.bind_some, if_pos hb, if_neg hb2]
        rfl
  · refine ⟨-1, h, h, ?_, ?_, hI⟩
    · unfold f8_when_0
      simp only [q_hasT _ V.nt t1, Option.bind_some, if_neg hb]
      rfl
    · unfold f9_when_40
      simp only [q_isT _ W.nt t1, Option.bind_some, if_neg hb]
      rfl
theorem p_hot : ok_hot Inv := by
  intro a b h hI
  obtain ⟨N, M, P, y, D, ht, pl, ow, V, W, -⟩ := hI.vw
  have t1 := V.n6
  have h10 : ¬ (1 : Int32) = 0 := by decide
  rcases q_arg a N (by omega) with ⟨t, htN, rfl⟩ | hb
  · have hb : 0 ≤ (nI t).toInt ∧ (nI t).toInt < N := by rw [q_ti (by omega)]; omega
    by_cases hb2 : 0 ≤ b.toInt ∧ b.toInt ≤ 99
    · obtain ⟨k, hk, rfl⟩ : ∃ t, t < 100 ∧ b = nI t := by
        rcases q_arg b 100 (by omega) with q | q
        · exact q
        · exact absurd hb2 (by omega)
      refine ⟨nI (agn (D 0 t) (tz D (pl t)) k (ht t)), h, h, ?_, ?_, hI⟩
      · unfold f8_hot_0
        simp only [q_hasT _ V.nt t1, q_within, Option.bind_some, if_pos hb, show (0 : Int32).toInt = 0 from rfl, show (99 : Int32).toInt = 99 from rfl, if_pos hb2, if_neg h10, b_heatIn V htN (show k ≤ 99 by omega)]
      · unfold f9_hot_40
        simp only [q_isT _ W.nt t1, q_in, Option.bind_some, if_pos hb, show (0 : Int64).toInt = 0 from rfl, show (99 : Int64).toInt = 99 from rfl, if_pos hb2, if_neg h10, b_hotIn W htN (show k ≤ 99 by omega)]
    · refine ⟨-1, h, h, ?_, ?_, hI⟩
      · unfold f8_hot_0
        simp only [q_hasT _ V.nt t1, q_within, Option.bind_some, if_pos hb, show (0 : Int32).toInt = 0 from rfl, show (99 : Int32).toInt = 99 from rfl, if_neg hb2]
        rfl
      · unfold f9_hot_40
        simp only [q_isT _ W.nt t1, q_in, Option.bind_some, if_pos hb, show (0 : Int64).toInt = 0 from rfl, show (99 : Int64).toInt = 99 from rfl, if_neg hb2]
        rfl
  · refine ⟨-1, h, h, ?_, ?_, hI⟩
    · unfold f8_hot_0
      simp only [q_hasT _ V.nt t1, Option.bind_some, if_neg hb]
      rfl
    · unfold f9_hot_40
      simp only [q_isT _ W.nt t1, Option.bind_some, if_neg hb]
      rfl
