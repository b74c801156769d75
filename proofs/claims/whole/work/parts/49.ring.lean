/-! rings of owners: temper, now 2 (fb_holes, fb_twice: the kit's starting rows) -/
theorem fb_holes : ∀ (m n : Nat) (f : Nat → Nat), (∀ i, i < n → f i < m) → (∀ i j, i < j → j < n → f i ≠ f j) → n ≤ m := by
  intro m
  induction m with
  | zero =>
    intro n f h1 _
    rcases Nat.eq_zero_or_pos n with h | h
    · omega
    · exact absurd (h1 0 h) (Nat.not_lt_zero _)
  | succ m ih =>
    intro n f h1 h2
    by_cases hx : ∃ i, i < n ∧ f i = m
    · obtain ⟨a, ha, hfa⟩ := hx
      have hg := ih (n - 1) (fun i => if i < a then f i else f (i + 1)) (by
        intro i hi
        by_cases q : i < a
        · simp only [if_pos q]
          have b1 := h1 i (by omega)
          have b2 := h2 i a q ha
          omega
        · simp only [if_neg q]
          have b1 := h1 (i + 1) (by omega)
          have b2 := h2 a (i + 1) (by omega) (by omega)
          omega) (by
        intro i j hij hj
        by_cases q : i < a
        · by_cases r : j < a
          · simp only [if_pos q, if_pos r]
            exact h2 i j hij (by omega)
          · simp only [if_pos q, if_neg r]
            exact h2 i (j + 1) (by omega) (by omega)
        · have r : ¬ j < a := by omega
          simp only [if_neg q, if_neg r]
          exact h2 (i + 1) (j + 1) (by omega) (by omega))
      omega
    · have hg := ih n f (fun i hi => by
        have b1 := h1 i hi
        have b2 : f i ≠ m := fun e => hx ⟨i, hi, e⟩
        omega) h2
      omega
/-- two of them in one place -/
theorem fb_twice {m n : Nat} {f : Nat → Nat} (h : ∀ i, i < n → f i < m) (hm : m < n) : ∃ i j, i < j ∧ j < n ∧ f i = f j := by
  refine Classical.byContradiction fun hx => ?_
  have := fb_holes m n f h (fun i j hij hj e => hx ⟨i, j, hij, hj, e⟩)
  omega
/-- as many as places, none twice: each place is taken -/
def orb (ow : Nat → Nat) : Nat → Nat → Nat
  | 0, t => ow t
  | i + 1, t => ow (orb ow i t)
theorem orb_lt {ow : Nat → Nat} {N : Nat} (h : ∀ t, t < N → ow t < N) : ∀ (i : Nat) {t : Nat}, t < N → orb ow i t < N
  | 0, _, ht => h _ ht
  | i + 1, _, ht => h _ (orb_lt h i ht)
theorem orb_add {ow : Nat → Nat} {j t : Nat} (e : orb ow j t = t) : ∀ i, orb ow (j + 1 + i) t = orb ow i t
  | 0 => by show ow (orb ow j t) = ow t; rw [e]
  | i + 1 => by show ow (orb ow (j + 1 + i) t) = ow (orb ow i t); rw [orb_add e i]
theorem orb_back {ow : Nat → Nat} {N : Nat} (h : ∀ t, t < N → ow t < N) (inj : ∀ s t, s < N → t < N → ow s = ow t → s = t) {t : Nat} (ht : t < N) : ∀ (i d : Nat), orb ow i t = orb ow (i + 1 + d) t → orb ow d t = t
  | 0, d, e => by
    have : ow t = ow (orb ow d t) := by
      have e2 : orb ow (0 + 1 + d) t = ow (orb ow d t) := by rw [show 0 + 1 + d = d + 1 by omega]; rfl
      rw [← e2, ← e]; rfl
    exact (inj _ _ ht (orb_lt h d ht) this).symm
  | i + 1, d, e => by
    refine orb_back h inj ht i d ?_
    have e2 : orb ow (i + 1 + 1 + d) t = ow (orb ow (i + 1 + d) t) := by rw [show i + 1 + 1 + d = (i + 1 + d) + 1 by omega]; rfl
    rw [e2] at e
    exact inj _ _ (orb_lt h i ht) (orb_lt h _ ht) e
/-- it comes back, within N steps; the first time -/
theorem orb_ret {ow : Nat → Nat} {N : Nat} (h : ∀ t, t < N → ow t < N) (inj : ∀ s t, s < N → t < N → ow s = ow t → s = t) {t : Nat} (ht : t < N) : ∃ j, j < N ∧ orb ow j t = t ∧ ∀ i, i < j → ¬ orb ow i t = t := by
  obtain ⟨i, j, hij, hj, e⟩ := fb_twice (m := N) (n := N + 1) (f := fun i => orb ow i t) (fun i _ => orb_lt h i ht) (by omega)
  have hd : orb ow (j - i - 1) t = t := orb_back h inj ht i (j - i - 1) (by rw [show i + 1 + (j - i - 1) = j by omega]; exact e)
  obtain ⟨k, k1, k2⟩ := pk_least (fun k => orb ow k t = t) ⟨_, hd⟩
  refine ⟨k, ?_, k1, k2⟩
  rcases Nat.lt_or_ge k N with q | q
  · exact q
  · exact absurd hd (k2 _ (by omega))
/-- lowest of its ring -/
def lowl (ow : Nat → Nat) (t : Nat) : Nat → Nat → Bool
  | 0, _ => true
  | m + 1, i => decide (t ≤ orb ow i t) && lowl ow t m (i + 1)
def low (ow : Nat → Nat) (t : Nat) : Bool := lowl ow t 6 0
theorem lowl_iff (ow : Nat → Nat) (t : Nat) : ∀ (m i : Nat), lowl ow t m i = true ↔ ∀ k, i ≤ k → k < i + m → t ≤ orb ow k t
  | 0, i => ⟨fun _ k h1 h2 => by omega, fun _ => rfl⟩
  | m + 1, i => by
    unfold lowl
    rw [Bool.and_eq_true, decide_eq_true_iff, lowl_iff ow t m (i + 1)]
    constructor
    · rintro ⟨h1, h2⟩ k k1 k2
      by_cases e : k = i
      · subst e; exact h1
      · exact h2 k (by omega) (by omega)
    · exact fun q => ⟨q i (by omega) (by omega), fun k k1 k2 => q k (by omega) (by omega)⟩
def cn (p : Nat → Bool) : Nat → Nat
  | 0 => 0
  | n + 1 => cn p n + if p n then 1 else 0
theorem cn_le (p : Nat → Bool) : ∀ n, cn p n ≤ n
  | 0 => Nat.le_refl 0
  | n + 1 => by have := cn_le p n; simp only [cn]; split <;> omega
theorem cn_not (p : Nat → Bool) : ∀ n, cn (fun t => !p t) n + cn p n = n
  | 0 => rfl
  | n + 1 => by
    have := cn_not p n
    simp only [cn]
    by_cases c : p n = true
    · simp [c]; omega
    · simp [c]; omega
section RI
variable {h : jv_H} {N M P y : Nat} {D : Nat → Nat → Nat} {ht : Nat → Nat} {pl : Nat → Int32} {ow : Nat → Nat}
theorem Vc.owl (V : Vc h N M P y D ht pl ow) : ∀ t, t < N → ow t < N := fun _ q => (V.own q).1
theorem Vm.owl (V : Vm h N M y D ht pl ow) : ∀ t, t < N → ow t < N := fun _ q => (V.own q).1
theorem q_ring (V : Vc h N M P y D ht pl ow) {t j : Nat} (htN : t < N) (hj : j < N) (e : orb ow j t = t) (hn : ∀ i, i < j → ¬ orb ow i t = t) : ∀ (m i fuel : Nat), i + m = j → m < fuel → f1_ring_20_l8 fuel (nI t) (nI (orb ow i t)) (nI (i + 1)) h = some (nI (j + 1), h) := by
  have t1 := V.n6
  intro m
  induction m with
  | zero =>
    intro i fuel hi hf
    obtain ⟨n, rfl⟩ : ∃ n, fuel = n + 1 := ⟨fuel - 1, by omega⟩
    have : i = j := by omega
    subst this
    show g1_ring_20_b8 (f1_ring_20_l8 n) (nI t) _ _ h = _
    unfold g1_ring_20_b8
    rw [e, if_pos rfl]
  | succ m ih =>
    intro i fuel hi hf
    obtain ⟨n, rfl⟩ : ∃ n, fuel = n + 1 := ⟨fuel - 1, by omega⟩
    have ho := orb_lt V.owl i htN
    show g1_ring_20_b8 (f1_ring_20_l8 n) (nI t) _ _ h = _
    unfold g1_ring_20_b8
    rw [if_neg (by rw [q_eq (by omega) (by omega)]; exact hn i (by omega)), if_neg (by rw [w6, q_le (by omega) (by omega)]; omega), q_owner V.p V.p10 (by omega), (V.own ho).2]
    simp only [Option.bind_some, jv_let]
    rw [w1, nI_add]
    exact ih (i + 1) n (by omega) (by omega)
theorem q_mring (V : Vm h N M y D ht pl ow) {t j : Nat} (htN : t < N) (hj : j < N) (e : orb ow j t = t) (hn : ∀ i, i < j → ¬ orb ow i t = t) : ∀ (m i fuel : Nat), i + m = j → m < fuel → f9_ring_40_l12 fuel (nI t) (nI (i + 1)) (nI (orb ow i t)) h = some (nI (j + 1), h) := by
  have t1 := V.n6
  intro m
  induction m with
  | zero =>
    intro i fuel hi hf
    obtain ⟨n, rfl⟩ : ∃ n, fuel = n + 1 := ⟨fuel - 1, by omega⟩
    have : i = j := by omega
    subst this
    show g9_ring_40_b12 (f9_ring_40_l12 n) (nI t) _ _ h = _
    unfold g9_ring_40_b12
    rw [e, if_pos rfl]
  | succ m ih =>
    intro i fuel hi hf
    obtain ⟨n, rfl⟩ : ∃ n, fuel = n + 1 := ⟨fuel - 1, by omega⟩
    have ho := orb_lt V.owl i htN
    show g9_ring_40_b12 (f9_ring_40_l12 n) (nI t) _ _ h = _
    unfold g9_ring_40_b12
    rw [if_neg (by rw [q_eq (by omega) (by omega)]; exact hn i (by omega)), w13, nI_add, if_pos (by rw [q_ix (by omega)]; omega), q_cl (by omega), (V.own ho).2]
    simp only [jv_let]
    rw [w1, nI_add]
    exact ih (i + 1) n (by omega) (by omega)
theorem b_ring (V : Vc h N M P y D ht pl ow) (W : Vm h N M y D ht pl ow) {t : Nat} (htN : t < N) : ∃ r, f1_ring_20 (nI t) h = some (r, h) ∧ f9_ring_40 (nI t) h = some (r, h) := by
  have t1 := V.n6
  obtain ⟨j, j1, j2, j3⟩ := orb_ret V.owl V.inj htN
  refine ⟨nI (j + 1), ?_, ?_⟩
  · unfold f1_ring_20
    rw [q_owner V.p V.p10 (by omega), (V.own htN).2]
    simp only [Option.bind_some, jv_let]
    exact q_ring V htN j1 j2 j3 j 0 jv_fuel (by omega) (by unfold jv_fuel; omega)
  · unfold f9_ring_40
    simp only [jv_let]
    rw [w13, nI_add, if_pos (by rw [q_ix (by omega)]; omega), q_cl (by omega), (W.own htN).2]
    exact q_mring W htN j1 j2 j3 j 0 jv_fuel (by omega) (by unfold jv_fuel; omega)
theorem q_low (V : Vc h N M P y D ht pl ow) {t : Nat} (htN : t < N) : ∀ (m i fuel : Nat), i + m = 6 → m < fuel → f1_isLowestOfRing_20_l8 fuel (nI t) (nI (orb ow i t)) (nI i) h = some (if lowl ow t m i then 1 else 0, h) := by
  have t1 := V.n6
  intro m
  induction m with
  | zero =>
    intro i fuel hi hf
    obtain ⟨n, rfl⟩ : ∃ n, fuel = n + 1 := ⟨fuel - 1, by omega⟩
    show g1_isLowestOfRing_20_b8 (f1_isLowestOfRing_20_l8 n) (nI t) _ _ h = _
    unfold g1_isLowestOfRing_20_b8
    rw [if_pos (by rw [w6, q_le (by omega) (by omega)]; omega)]
    rfl
  | succ m ih =>
    intro i fuel hi hf
    obtain ⟨n, rfl⟩ : ∃ n, fuel = n + 1 := ⟨fuel - 1, by omega⟩
    have ho := orb_lt V.owl i htN
    show g1_isLowestOfRing_20_b8 (f1_isLowestOfRing_20_l8 n) (nI t) _ _ h = _
    unfold g1_isLowestOfRing_20_b8 lowl
    rw [if_neg (by rw [w6, q_le (by omega) (by omega)]; omega)]
    by_cases c : t ≤ orb ow i t
    · rw [if_pos (by rw [q_le (by omega) (by omega)]; exact c), q_owner V.p V.p10 (by omega), (V.own ho).2]
      simp only [Option.bind_some, jv_let]
      rw [show nI i + (1 : Int32) = nI (i + 1) from by rw [w1, nI_add], show ow (orb ow i t) = orb ow (i + 1) t from rfl, ih (i + 1) n (by omega) (by omega)]
      simp [c]
    · rw [if_neg (by rw [q_le (by omega) (by omega)]; exact c)]
      simp [c]
theorem b_low (V : Vc h N M P y D ht pl ow) {t : Nat} (htN : t < N) : f1_isLowestOfRing_20 (nI t) h = some (if low ow t then 1 else 0, h) := by
  have t1 := V.n6
  unfold f1_isLowestOfRing_20 low
  rw [q_owner V.p V.p10 (by omega), (V.own htN).2]
  simp only [Option.bind_some, jv_let]
  exact q_low V htN 6 0 jv_fuel (by omega) (by unfold jv_fuel; omega)
theorem b_mixes (V : Vc h N M P y D ht pl ow) : f1_mixesToRight_20 (nI N) h = some (nI (cn (fun t => !low ow t) N), h) := by
  have t1 := V.n6
  have key : ∀ (m t fuel : Nat), t + m = N → m < fuel → f1_mixesToRight_20_l4 fuel (nI N) (nI (cn (fun t => !low ow t) t)) (nI t) h = some (nI (cn (fun t => !low ow t) N), h) := by
    intro m
    induction m with
    | zero =>
      intro t fuel hi hf
      obtain ⟨n, rfl⟩ : ∃ n, fuel = n + 1 := ⟨fuel - 1, by omega⟩
      have : t = N := by omega
      subst this
      show g1_mixesToRight_20_b4 (f1_mixesToRight_20_l4 n) _ _ _ h = _
      unfold g1_mixesToRight_20_b4
      rw [if_pos (by rw [q_le (by omega) (by omega)]; omega)]
    | succ m ih =>
      intro t fuel hi hf
      obtain ⟨n, rfl⟩ : ∃ n, fuel = n + 1 := ⟨fuel - 1, by omega⟩
      have := ih (t + 1) n (by omega) (by omega)
      simp only [cn] at this
      show g1_mixesToRight_20_b4 (f1_mixesToRight_20_l4 n) _ _ _ h = _
      unfold g1_mixesToRight_20_b4 g1_mixesToRight_20_b20
      rw [if_neg (by rw [q_le (by omega) (by omega)]; omega), b_low V (by omega)]
      simp only [Option.bind_some, jv_let]
      rw [w1, nI_add, nI_add]
      by_cases c : low ow t = true
      · simp only [c, if_true, Bool.not_true, Bool.false_eq_true, if_false, Nat.add_zero] at this ⊢
        rw [if_neg (by decide)]
        exact this
      · have c' : low ow t = false := by simpa using c
        simp only [c', if_false, Bool.not_false, if_true, Bool.false_eq_true] at this ⊢
        exact this
  unfold f1_mixesToRight_20
  simp only [jv_let]
  exact key N 0 jv_fuel (by omega) (by unfold jv_fuel; omega)
/-- the reference's search for a lower one, or itself -/
theorem q_rightl (V : Vm h N M y D ht pl ow) (k4 : Int32 → Int32 → jv_H → Option (Int32 × jv_H)) (a : Int32) {t j : Nat} (htN : t < N) (e : orb ow j t ≤ t) (hn : ∀ i, i < j → ¬ orb ow i t ≤ t) : ∀ (m i fuel : Nat), i + m = j → m < fuel → f9_right_40_l22 k4 fuel a (nI t) (nI (orb ow i t)) h = k4 (a + (if orb ow j t = t then 1 else 0)) (nI (t + 1)) h := by
  have t1 := V.n6
  intro m
  induction m with
  | zero =>
    intro i fuel hi hf
    obtain ⟨n, rfl⟩ : ∃ n, fuel = n + 1 := ⟨fuel - 1, by omega⟩
    have : i = j := by omega
    subst this
    have ho := orb_lt V.owl i htN
    show g9_right_40_b22 k4 (f9_right_40_l22 k4 n) a (nI t) _ h = _
    unfold g9_right_40_b22 g9_right_40_b51
    simp only [jv_let]
    rw [if_pos (by rw [q_le (by omega) (by omega)]; exact e)]
    by_cases c : orb ow i t = t
    · rw [if_pos (by rw [c]), if_pos c, w1, nI_add]
    · rw [if_neg (by rw [q_eq (by omega) (by omega)]; exact c), if_neg c, w1, nI_add]
  | succ m ih =>
    intro i fuel hi hf
    obtain ⟨n, rfl⟩ : ∃ n, fuel = n + 1 := ⟨fuel - 1, by omega⟩
    have ho := orb_lt V.owl i htN
    show g9_right_40_b22 k4 (f9_right_40_l22 k4 n) a (nI t) _ h = _
    unfold g9_right_40_b22
    rw [if_neg (by rw [q_le (by omega) (by omega)]; exact hn i (by omega)), w13, nI_add, if_pos (by rw [q_ix (by omega)]; omega), q_cl (by omega), (V.own ho).2]
    simp only [jv_let]
    exact ih (i + 1) n (by omega) (by omega)
theorem low_iff (V : Vm h N M y D ht pl ow) {t : Nat} (htN : t < N) : ∃ j, j < 6 ∧ orb ow j t ≤ t ∧ (∀ i, i < j → ¬ orb ow i t ≤ t) ∧ (orb ow j t = t ↔ low ow t = true) := by
  have t1 := V.n6
  obtain ⟨r, r1, r2, r3⟩ := orb_ret V.owl V.inj htN
  obtain ⟨j, j1, j2⟩ := pk_least (fun k => orb ow k t ≤ t) ⟨r, by omega⟩
  have hj : j ≤ r := by
    rcases Nat.lt_or_ge r j with q | q
    · exact absurd (show orb ow r t ≤ t by omega) (j2 r q)
    · exact q
  refine ⟨j, by omega, j1, j2, ?_⟩
  unfold low
  rw [lowl_iff]
  constructor
  · intro e
    have all : ∀ n i, i ≤ n → t ≤ orb ow i t := by
      intro n
      induction n with
      | zero =>
        intro i hi
        by_cases q : i < j
        · have := j2 i q; omega
        · have : i = j := by omega
          subst this; omega
      | succ n ih =>
        intro i hi
        by_cases q : i < j
        · have := j2 i q; omega
        · by_cases q2 : i = j
          · subst q2; omega
          · have := orb_add e (i - (j + 1))
            rw [show j + 1 + (i - (j + 1)) = i by omega] at this
            rw [this]
            exact ih _ (by omega)
    exact fun i _ _ => all i i (Nat.le_refl _)
  · intro hall
    have := hall j (by omega) (by omega)
    omega
theorem b_right (V : Vm h N M y D ht pl ow) : f9_right_40 h = some (nI (cn (fun t => !low ow t) N), h) := by
  have t1 := V.n6
  have key : ∀ (m t fuel : Nat), t + m = N → m < fuel → f9_right_40_l4 fuel (nI (cn (low ow) t)) (nI t) h = some (nI (cn (fun t => !low ow t) N), h) := by
    intro m
    induction m with
    | zero =>
      intro t fuel hi hf
      obtain ⟨n, rfl⟩ : ∃ n, fuel = n + 1 := ⟨fuel - 1, by omega⟩
      have : t = N := by omega
      subst this
      have h1 := cn_not (low ow) t
      show g9_right_40_b4 (f9_right_40_l4 n) _ _ h = _
      unfold g9_right_40_b4
      rw [V.nt, if_pos (by rw [q_le (by omega) (by omega)]; omega), pk_sub (by omega), show t - cn (low ow) t = cn (fun t => !low ow t) t by omega]
    | succ m ih =>
      intro t fuel hi hf
      obtain ⟨n, rfl⟩ : ∃ n, fuel = n + 1 := ⟨fuel - 1, by omega⟩
      obtain ⟨j, j0, j1, j2, j3⟩ := low_iff V (show t < N by omega)
      have := ih (t + 1) n (by omega) (by omega)
      simp only [cn] at this
      show g9_right_40_b4 (f9_right_40_l4 n) _ _ h = _
      unfold g9_right_40_b4
      rw [V.nt, if_neg (by rw [q_le (by omega) (by omega)]; omega), w13, nI_add, if_pos (by rw [q_ix (by omega)]; omega), q_cl (by omega), (V.own (show t < N by omega)).2]
      simp only [jv_let]
      rw [show nI (ow t) = nI (orb ow 0 t) from rfl, q_rightl V (f9_right_40_l4 n) _ (show t < N by omega) j1 j2 j 0 jv_fuel (by omega) (by unfold jv_fuel; omega)]
      by_cases c : orb ow j t = t
      · have d := j3.mp c
        simp only [d, if_true] at this
        rw [if_pos c, w1, nI_add]
        exact this
      · have d : low ow t = false := by
          cases hl : low ow t with
          | false => rfl
          | true => exact absurd (j3.mpr hl) c
        simp only [d, if_false, Bool.false_eq_true] at this
        rw [if_neg c, w0, nI_add]
        exact this
  unfold f9_right_40
  simp only [jv_let]
  exact key N 0 jv_fuel (by omega) (by unfold jv_fuel; omega)
end RI
theorem p_temper : ok_temper Inv := by
  intro a w h hI
  obtain ⟨N, M, P, y, D, ht, pl, ow, V, W, -⟩ := hI.vw
  have t1 := V.n6
  have h10 : ¬ (1 : Int32) = 0 := by decide
  rcases q_arg a N (by omega) with ⟨t, htN, rfl⟩ | hb
  · have hb : 0 ≤ (nI t).toInt ∧ (nI t).toInt < N := by rw [q_ti (by omega)]; omega
    have hix : jv_ix (nI t) 6 := by rw [q_ix (by omega)]; omega
    have hix7 : jv_ix (nI (7 + t)) 210 := by rw [q_ix (by omega)]; omega
    have hix13 : jv_ix (nI (13 + t)) 210 := by rw [q_ix (by omega)]; omega
    by_cases hw : 0 ≤ w.toInt ∧ w.toInt ≤ 6
    · have key : ∃ r, f8_temper_0 (nI t) w h = some (r, h) ∧ f9_temper_40 (nI t) w h = some (r, h) := by
        obtain ⟨r, r1, r2⟩ := b_ring V W htN
        unfold f8_temper_0 f9_temper_40
        simp only [q_hasT _ V.nt t1, q_isT _ W.nt t1, Option.bind_some, if_pos hb, if_neg h10, q_in, show (0 : Int64).toInt = 0 from rfl, show (6 : Int64).toInt = 6 from rfl, if_pos hw, q_heat V.p V.p10 (show t < 6 by omega), q_place V.p V.p10 (show t < 6 by omega), q_owner V.p V.p10 (show t < 6 by omega), q_mheat (show t < 6 by omega), r1, r2]
        rw [show (7 : Int32) + nI t = nI (7 + t) from by rw [w7, nI_add], show (13 : Int32) + nI t = nI (13 + t) from by rw [w13, nI_add]]
        simp only [if_pos hix, if_pos hix7, if_pos hix13, q_cl (show t < 2147483648 by omega), q_cl (show 7 + t < 2147483648 by omega), q_cl (show 13 + t < 2147483648 by omega), (V.hea htN).2, (W.hea htN).2, (V.gr htN).1, (W.gr htN).1, (V.du htN).1, (W.du htN).1, (V.cl htN).1, (W.cl htN).1, (V.pla htN).1, (W.pla htN).1, (V.own htN).2, (W.own htN).2]
        obtain ⟨z, hz, rfl⟩ : ∃ t, t < 7 ∧ w = nI t := by
          rcases q_arg w 7 (by omega) with q | q
          · exact q
          · exact absurd hw (by omega)
        rcases (show z = 0 ∨ z = 1 ∨ z = 2 ∨ z = 3 ∨ z = 4 ∨ z = 5 ∨ z = 6 by omega) with rfl | rfl | rfl | rfl | rfl | rfl | rfl
        all_goals exact ⟨_, rfl, rfl⟩
      obtain ⟨r, k1, k2⟩ := key
      exact ⟨r, h, h, k1, k2, hI⟩
    · have ne : ∀ k : Nat, k ≤ 6 → ¬ w = nI k := by
        rintro k hk rfl
        rw [q_ti (by omega)] at hw
        omega
      refine ⟨-1, h, h, ?_, ?_, hI⟩
      · unfold f8_temper_0
        simp only [q_hasT _ V.nt t1, Option.bind_some, if_pos hb, if_neg h10, if_neg (show ¬ w = 0 from ne 0 (by omega)), if_neg (show ¬ w = 1 from ne 1 (by omega)), if_neg (show ¬ w = 2 from ne 2 (by omega)), if_neg (show ¬ w = 3 from ne 3 (by omega)), if_neg (show ¬ w = 4 from ne 4 (by omega)), if_neg (show ¬ w = 5 from ne 5 (by omega)), if_neg (show ¬ w = 6 from ne 6 (by omega))]
      · unfold f9_temper_40
        simp only [q_isT _ W.nt t1, Option.bind_some, if_pos hb, if_neg h10, q_in, show (0 : Int64).toInt = 0 from rfl, show (6 : Int64).toInt = 6 from rfl, if_neg hw]
        rfl
  · refine ⟨-1, h, h, ?_, ?_, hI⟩
    · unfold f8_temper_0
      simp only [q_hasT _ V.nt t1, Option.bind_some, if_neg hb]
      rfl
    · unfold f9_temper_40
      simp only [q_isT _ W.nt t1, Option.bind_some, if_neg hb]
      rfl
