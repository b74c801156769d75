/-! whose, ask -/
def Hv (h : jv_H) (K : Nat) (be : Nat → Nat) (ys : Nat → Bool) : Prop := K ≤ 4 ∧ h.1 31 3 = nI K ∧ h.1 40 13 = nI K ∧ ∀ j, j < K → h.1 32 j = nI (be j) ∧ h.1 50 j = nI (be j) ∧ be j ≤ 99 ∧ h.1 33 j = (if ys j then 1 else 0) ∧ h.1 51 j = (if ys j then 1 else 0)
theorem Hv.of {h : jv_H} (a : Hd h) : ∃ K be ys, Hv h K be ys := by
  obtain ⟨K, k1, k2, k3, k4⟩ := a
  refine ⟨K, fun j => (h.1 50 j).toNatClampNeg, fun j => decide (h.1 51 j = 1), k1, k2, k3, fun j hj => ?_⟩
  obtain ⟨e1, e2, ⟨b, b1, b2⟩, e3⟩ := k4 j hj
  have f : nI (h.1 50 j).toNatClampNeg = h.1 50 j := by rw [b2, q_cl (by omega)]
  refine ⟨by rw [f]; exact e1, f.symm, by show (h.1 50 j).toNatClampNeg ≤ 99; rw [b2, q_cl (by omega)]; exact b1, ?_, ?_⟩
  · rw [e2]
    rcases e3 with e | e
    · simp [e]
    · simp [e]
  · rcases e3 with e | e
    · simp [e]
    · simp [e]
def ash (be : Nat → Nat) (ys : Nat → Bool) (x : Nat) : Nat → Nat → Bool
  | 0, _ => true
  | m + 1, i => (decide (be i ≤ x) == ys i) && ash be ys x m (i + 1)
section WH
variable {h : jv_H} {N M P y K : Nat} {D : Nat → Nat → Nat} {ht : Nat → Nat} {pl : Nat → Int32} {ow : Nat → Nat} {be : Nat → Nat} {ys : Nat → Bool}
theorem q_ash (H : Hv h K be ys) {x : Nat} (hx : x ≤ 99) : ∀ (m i fuel : Nat), i + m = K → m < fuel → f5_isAsHeard_31_l2 fuel (nI x) (nI i) h = some (if ash be ys x m i then 1 else 0, h) := by
  obtain ⟨k1, k2, k3, k4⟩ := H
  intro m
  induction m with
  | zero =>
    intro i fuel hi hf
    obtain ⟨n, rfl⟩ : ∃ n, fuel = n + 1 := ⟨fuel - 1, by omega⟩
    show g5_isAsHeard_31_b2 (f5_isAsHeard_31_l2 n) _ _ h = _
    unfold g5_isAsHeard_31_b2
    rw [k2, if_pos (by rw [q_le (by omega) (by omega)]; omega)]
    rfl
  | succ m ih =>
    intro i fuel hi hf
    obtain ⟨n, rfl⟩ : ∃ n, fuel = n + 1 := ⟨fuel - 1, by omega⟩
    obtain ⟨e1, e2, e3, e4, e5⟩ := k4 i (by omega)
    have ih := ih (i + 1) n (by omega) (by omega)
    have b47 : ∀ a b : Bool, g5_isAsHeard_31_b47 (f5_isAsHeard_31_l2 n) (nI x) (nI i) (if a then 1 else 0) (if b then 1 else 0) h = some (if (a == b) && ash be ys x m (i + 1) then 1 else 0, h) := by
      intro a b
      unfold g5_isAsHeard_31_b47
      simp only [jv_let]
      rw [show nI i + (1 : Int32) = nI (i + 1) from by rw [w1, nI_add], ih]
      cases a <;> cases b <;> rfl
    have b30 : ∀ a : Bool, g5_isAsHeard_31_b30 (f5_isAsHeard_31_l2 n) (nI x) (nI i) (if a then 1 else 0) h = some (if (a == ys i) && ash be ys x m (i + 1) then 1 else 0, h) := by
      intro a
      unfold g5_isAsHeard_31_b30
      simp only [jv_let]
      rw [if_pos (by rw [q_ix (by omega)]; omega), q_cl (by omega), e4]
      have := b47 a (ys i)
      cases hy : ys i with
      | false => rw [hy] at this; exact this
      | true => rw [hy] at this; exact this
    show g5_isAsHeard_31_b2 (f5_isAsHeard_31_l2 n) _ _ h = _
    unfold g5_isAsHeard_31_b2 ash
    rw [k2, if_neg (by rw [q_le (by omega) (by omega)]; omega), if_neg (by rw [w4, q_le (by omega) (by omega)]; omega), if_pos (by rw [q_ix (by omega)]; omega), q_cl (by omega), e1, ← b30]
    by_cases c : be i ≤ x
    · rw [if_neg (by rw [q_lt (by omega) (by omega)]; omega)]
      simp [c]
    · rw [if_pos (by rw [q_lt (by omega) (by omega)]; omega)]
      simp [c]
theorem b_susp (V : Vc h N M P y D ht pl ow) (H : Hv h K be ys) : f5_suspects_31 h = some (nI (bs (fun t => ash be ys (ht t) K 0) N), h) := by
  have t1 := V.n6
  have k1 := H.1
  unfold f5_suspects_31
  simp only [jv_let]
  rw [w0]
  refine bs_loop (fun n a t => f5_suspects_31_l4 n a t h) _ t1 (fun r => some (r, h)) (fun n t a htN ha h64 => ?_) (fun n a => ?_) jv_fuel (by unfold jv_fuel; omega)
  · have hx := V.hea htN
    show g5_suspects_31_b4 (f5_suspects_31_l4 n) (nI a) (nI t) h = _
    unfold g5_suspects_31_b4 g5_suspects_31_b43 f5_isAsHeard_31
    rw [V.nt, if_neg (by rw [q_le (by omega) (by omega)]; omega), q_heat V.p V.p10 (by omega), hx.2]
    simp only [Option.bind_some, jv_let]
    rw [show (0 : Int32) = nI 0 from rfl, q_ash H hx.1 K 0 jv_fuel (by omega) (by unfold jv_fuel; omega)]
    simp only [Option.bind_some, q_bit]
    rw [show nI t + (1 : Int32) = nI (t + 1) from by rw [w1, nI_add]]
    cases hb : ash be ys (ht t) K 0 with
    | true =>
      rw [if_neg (by decide), q_or t (by omega) a h64 ha]
      rfl
    | false =>
      rw [if_pos (by decide)]
      simp
  · show g5_suspects_31_b4 (f5_suspects_31_l4 n) (nI a) (nI N) h = _
    unfold g5_suspects_31_b4
    rw [V.nt, if_pos (by rw [q_le (by omega) (by omega)]; omega)]
theorem q_mash (W : Vm h N M y D ht pl ow) (H : Hv h K be ys) (k4 : Int32 → Int32 → jv_H → Option (Int32 × jv_H)) {t a : Nat} (htN : t < N) : ∀ (m i fuel : Nat) (b : Bool), i + m = K → m < fuel → f9_whose_40_l17 k4 fuel (nI a) (nI t) (if b then 1 else 0) (nI i) h = k4 (nI a ||| (if b && ash be ys (ht t) m i then (1 : Int32) <<< (nI t &&& 31) else 0)) (nI (t + 1)) h := by
  have t1 := W.n6
  have hx := W.hea htN
  obtain ⟨k1, k2, k3, k4'⟩ := H
  intro m
  induction m with
  | zero =>
    intro i fuel b hi hf
    obtain ⟨n, rfl⟩ : ∃ n, fuel = n + 1 := ⟨fuel - 1, by omega⟩
    show g9_whose_40_b17 k4 (f9_whose_40_l17 k4 n) _ _ _ _ h = _
    unfold g9_whose_40_b17 g9_whose_40_b93
    simp only [jv_let]
    rw [k3, if_pos (by rw [q_le (by omega) (by omega)]; omega), show nI t + (1 : Int32) = nI (t + 1) from by rw [w1, nI_add]]
    cases b <;> rfl
  | succ m ih =>
    intro i fuel b hi hf
    obtain ⟨n, rfl⟩ : ∃ n, fuel = n + 1 := ⟨fuel - 1, by omega⟩
    obtain ⟨e1, e2, e3, e4, e5⟩ := k4' i (by omega)
    have ih := fun b => ih (i + 1) n b (by omega) (by omega)
    have b74 : ∀ b : Bool, g9_whose_40_b74 k4 (f9_whose_40_l17 k4 n) (nI a) (nI t) (nI i) (if b then 1 else 0) h = k4 (nI a ||| (if b && ash be ys (ht t) m (i + 1) then (1 : Int32) <<< (nI t &&& 31) else 0)) (nI (t + 1)) h := by
      intro b
      unfold g9_whose_40_b74
      simp only [jv_let]
      rw [show nI i + (1 : Int32) = nI (i + 1) from by rw [w1, nI_add], ih]
    have b66 : ∀ c d : Bool, g9_whose_40_b66 k4 (f9_whose_40_l17 k4 n) (nI a) (nI t) (nI i) (if c then 1 else 0) (if d then 1 else 0) h = k4 (nI a ||| (if (c == d) && ash be ys (ht t) m (i + 1) then (1 : Int32) <<< (nI t &&& 31) else 0)) (nI (t + 1)) h := by
      intro c d
      rw [← b74]
      cases c <;> cases d <;> rfl
    have b50 : ∀ c : Bool, g9_whose_40_b50 k4 (f9_whose_40_l17 k4 n) (nI a) (nI t) (nI i) (if c then 1 else 0) h = k4 (nI a ||| (if (c == ys i) && ash be ys (ht t) m (i + 1) then (1 : Int32) <<< (nI t &&& 31) else 0)) (nI (t + 1)) h := by
      intro c
      unfold g9_whose_40_b50
      rw [if_pos (by rw [q_ix (by omega)]; omega), q_cl (by omega), e5]
      have := b66 c (ys i)
      cases hy : ys i with
      | false => rw [hy] at this; exact this
      | true => rw [hy] at this; exact this
    show g9_whose_40_b17 k4 (f9_whose_40_l17 k4 n) _ _ _ _ h = _
    unfold g9_whose_40_b17 ash
    rw [k3, if_neg (by rw [q_le (by omega) (by omega)]; omega)]
    cases b with
    | false => exact b74 false
    | true =>
      rw [if_neg (by decide), q_mheat (by omega), hx.2]
      simp only [Option.bind_some, Bool.true_and]
      rw [if_pos (by rw [q_ix (by omega)]; omega), q_cl (by omega), e2, ← b50]
      have x9 := hx.1
      by_cases c : be i ≤ ht t
      · rw [if_neg (by rw [q_lt (by omega) (by omega)]; omega)]
        simp [c]
      · rw [if_pos (by rw [q_lt (by omega) (by omega)]; omega)]
        simp [c]
theorem b_whose (W : Vm h N M y D ht pl ow) (H : Hv h K be ys) : f9_whose_40 h = some (nI (bs (fun t => ash be ys (ht t) K 0) N), h) := by
  have t1 := W.n6
  have k1 := H.1
  unfold f9_whose_40
  simp only [jv_let]
  rw [w0]
  refine bs_loop (fun n a t => f9_whose_40_l4 n a t h) _ t1 (fun r => some (r, h)) (fun n t a htN ha h64 => ?_) (fun n a => ?_) jv_fuel (by unfold jv_fuel; omega)
  · show g9_whose_40_b4 (f9_whose_40_l4 n) (nI a) (nI t) h = _
    unfold g9_whose_40_b4
    rw [W.nt, if_neg (by rw [q_le (by omega) (by omega)]; omega)]
    simp only [jv_let]
    have := q_mash W H (f9_whose_40_l4 n) (t := t) (a := a) htN K 0 jv_fuel true (by omega) (by unfold jv_fuel; omega)
    rw [if_pos rfl] at this
    rw [show (0 : Int32) = nI 0 from rfl, this]
    cases hb : ash be ys (ht t) K 0 with
    | true =>
      simp only [Bool.true_and, if_true]
      rw [q_or t (by omega) a h64 ha]
    | false =>
      simp only [Bool.true_and, Bool.false_eq_true, if_false]
      rw [q_or0 a h64]
  · show g9_whose_40_b4 (f9_whose_40_l4 n) (nI a) (nI N) h = _
    unfold g9_whose_40_b4
    rw [W.nt, if_pos (by rw [q_le (by omega) (by omega)]; omega)]
end WH
theorem p_whose : ok_whose Inv := by
  intro h hI
  obtain ⟨N, M, P, y, D, ht, pl, ow, V, W, -⟩ := hI.vw
  obtain ⟨-, -, -, -, -, -, -, a5, -⟩ := id hI
  obtain ⟨K, be, ys, H⟩ := Hv.of a5
  refine ⟨_, h, h, ?_, b_whose W H, hI⟩
  unfold f8_whose_0
  rw [b_susp V H]
  rfl
theorem q_tb : ∀ t, t < 6 → ∀ k, k < 64 → (nI k &&& ((1 : Int32) <<< (nI t &&& 31)) = 0) = (k.testBit t = false) := by
  have : ∀ t, t < 6 → ∀ k, k < 64 → (nI k &&& ((1 : Int32) <<< (nI t &&& 31)) = 0 ↔ k.testBit t = false) := by decide +kernel
  exact fun t ht k hk => propext (this t ht k hk)
theorem q_tb2 : ∀ t, t < 6 → ∀ k, k < 64 → ((nI k >>> (nI t &&& 31)) &&& (1 : Int32) = 1) = (k.testBit t = true) := by
  have : ∀ t, t < 6 → ∀ k, k < 64 → ((nI k >>> (nI t &&& 31)) &&& (1 : Int32) = 1 ↔ k.testBit t = true) := by decide +kernel
  exact fun t ht k hk => propext (this t ht k hk)
theorem q_has {t k : Nat} (ht : t < 6) (hk : k < 64) (h : jv_H) : f9_has (nI k) (nI t) h = some (if k.testBit t then 1 else 0, h) := by
  unfold f9_has
  simp only [q_tb2 t ht k hk]
  cases k.testBit t <;> rfl
def wx (n c : Int32) : Int32 := if c < n - c then n - c else c
theorem wx_le (n c : Int32) : wx n c = if c ≤ n - c then n - c else c := by
  unfold wx
  by_cases h : c < n - c
  · rw [if_pos h, if_pos (by rw [Int32.le_iff_toInt_le]; rw [Int32.lt_iff_toInt_lt] at h; omega)]
  · rw [if_neg h]
    by_cases g : c ≤ n - c
    · rw [if_pos g]
      apply Int32.toInt_inj.mp
      rw [Int32.le_iff_toInt_le] at g
      rw [Int32.lt_iff_toInt_lt] at h
      omega
    · rw [if_neg g]
/-- the first at which the greater part is least -/
def nbl (f : Nat → Nat) (n : Int32) : Nat → Nat → Int32 → Int32 → Int32
  | 0, _, _, a => a
  | m + 1, x, b, a => if b ≤ wx n (nI (f x)) then nbl f n m (x + 1) b a else nbl f n m (x + 1) (wx n (nI (f x))) (nI x)
theorem nbl_s (f : Nat → Nat) (n : Int32) (m x : Nat) (b a : Int32) : nbl f n (m + 1) x b a = if b ≤ wx n (nI (f x)) then nbl f n m (x + 1) b a else nbl f n m (x + 1) (wx n (nI (f x))) (nI x) := rfl
theorem q_ite {α β : Type} (f : α → β) (p : Prop) [Decidable p] (a b : α) : f (if p then a else b) = if p then f a else f b := by split <;> rfl
section AS
variable {h : jv_H} {N M P y : Nat} {D : Nat → Nat → Nat} {ht : Nat → Nat} {pl : Nat → Int32} {ow : Nat → Nat}
theorem q_cb (V : Vc h N M P y D ht pl ow) {k x : Nat} (hk : k < 64) (hx : x ≤ 99) : ∀ (m t fuel : Nat), t + m = N → m < fuel → f5_countBanging_31_l5 fuel (nI k) (nI x) (nI (cn (fun s => k.testBit s && decide (x ≤ ht s)) t)) (nI t) h = some (nI (cn (fun s => k.testBit s && decide (x ≤ ht s)) N), h) := by
  have t1 := V.n6
  intro m
  induction m with
  | zero =>
    intro t fuel hi hf
    obtain ⟨n, rfl⟩ : ∃ n, fuel = n + 1 := ⟨fuel - 1, by omega⟩
    have : t = N := by omega
    subst this
    show g5_countBanging_31_b5 (f5_countBanging_31_l5 n) _ _ _ _ h = _
    unfold g5_countBanging_31_b5
    rw [V.nt, if_pos (by rw [q_le (by omega) (by omega)]; omega)]
  | succ m ih =>
    intro t fuel hi hf
    obtain ⟨n, rfl⟩ : ∃ n, fuel = n + 1 := ⟨fuel - 1, by omega⟩
    have ih := ih (t + 1) n (by omega) (by omega)
    have hh := V.hea (show t < N by omega)
    have h9 := hh.1
    simp only [cn] at ih
    show g5_countBanging_31_b5 (f5_countBanging_31_l5 n) _ _ _ _ h = _
    unfold g5_countBanging_31_b5 g5_countBanging_31_b49
    rw [V.nt, if_neg (by rw [q_le (by omega) (by omega)]; omega)]
    simp only [Option.bind_some, jv_let, q_bit, q_heat V.p V.p10 (show t < 6 by omega), hh.2]
    simp only [q_tb t (show t < 6 by omega) k hk]
    rw [show nI t + (1 : Int32) = nI (t + 1) from by rw [w1, nI_add], w1, nI_add]
    cases hb : k.testBit t with
    | false =>
      simp only [hb, Bool.false_and, Bool.false_eq_true, if_false, Nat.add_zero] at ih
      rw [if_pos rfl, ih]
    | true =>
      rw [if_neg (by decide)]
      by_cases c : x ≤ ht t
      · simp only [hb, c, decide_true, Bool.and_true, if_true] at ih
        rw [if_neg (by rw [q_lt (by omega) (by omega)]; omega), ih]
      · simp only [hb, c, decide_false, Bool.and_false, Bool.false_eq_true, if_false, Nat.add_zero] at ih
        rw [if_pos (by rw [q_lt (by omega) (by omega)]; omega), ih]
theorem q_nb (V : Vc h N M P y D ht pl ow) {k : Nat} {w : Int32} (hk : k < 64) : ∀ (m x fuel : Nat) (b a : Int32), x + m = 100 → m < fuel → f5_nextBang_31_l19 fuel (nI k) w b a (nI x) h = some (nbl (fun x => cn (fun s => k.testBit s && decide (x ≤ ht s)) N) w m x b a, h) := by
  have t1 := V.n6
  intro m
  induction m with
  | zero =>
    intro x fuel b a hi hf
    obtain ⟨n, rfl⟩ : ∃ n, fuel = n + 1 := ⟨fuel - 1, by omega⟩
    show g5_nextBang_31_b19 (f5_nextBang_31_l19 n) _ _ _ _ _ h = _
    unfold g5_nextBang_31_b19
    rw [if_pos (by rw [w99, q_lt (by omega) (by omega)]; omega)]
    rfl
  | succ m ih =>
    intro x fuel b a hi hf
    obtain ⟨n, rfl⟩ : ∃ n, fuel = n + 1 := ⟨fuel - 1, by omega⟩
    have cb := q_cb V hk (show x ≤ 99 by omega) N 0 jv_fuel (by omega) (by unfold jv_fuel; omega)
    show g5_nextBang_31_b19 (f5_nextBang_31_l19 n) _ _ _ _ _ h = _
    unfold g5_nextBang_31_b19 g5_nextBang_31_b59 f5_countBanging_31
    rw [if_neg (by rw [w99, q_lt (by omega) (by omega)]; omega)]
    simp only [jv_let]
    rw [show (0 : Int32) = nI 0 from rfl]
    simp only [cn] at cb
    rw [cb]
    simp only [Option.bind_some]
    rw [show nI x + (1 : Int32) = nI (x + 1) from by rw [w1, nI_add], ih (x + 1) n _ _ (by omega) (by omega), ih (x + 1) n _ _ (by omega) (by omega)]
    rw [nbl_s, q_ite (fun q => some (q, h))]
    rfl
theorem q_mcb (W : Vm h N M y D ht pl ow) (k19 : Int32 → Int32 → Int32 → Int32 → Int32 → jv_H → Option (Int32 × jv_H)) {k x : Nat} {w b a : Int32} (hk : k < 64) (hx : x ≤ 99) : ∀ (m t fuel : Nat), t + m = N → m < fuel → f9_ask_40_l32 k19 fuel (nI k) w b a (nI x) (nI (cn (fun s => k.testBit s && decide (x ≤ ht s)) t)) (nI t) h = if b ≤ wx w (nI (cn (fun s => k.testBit s && decide (x ≤ ht s)) N)) then k19 (nI k) w b a (nI (x + 1)) h else k19 (nI k) w (wx w (nI (cn (fun s => k.testBit s && decide (x ≤ ht s)) N))) (nI x) (nI (x + 1)) h := by
  have t1 := W.n6
  intro m
  induction m with
  | zero =>
    intro t fuel hi hf
    obtain ⟨n, rfl⟩ : ∃ n, fuel = n + 1 := ⟨fuel - 1, by omega⟩
    have : t = N := by omega
    subst this
    show g9_ask_40_b32 k19 (f9_ask_40_l32 k19 n) _ _ _ _ _ _ _ h = _
    unfold g9_ask_40_b32
    rw [W.nt, if_pos (by rw [q_le (by omega) (by omega)]; omega)]
    have b95 : ∀ c, g9_ask_40_b95 k19 (nI k) w b a (nI x) c h = if b ≤ c then k19 (nI k) w b a (nI (x + 1)) h else k19 (nI k) w c (nI x) (nI (x + 1)) h := by
      intro c
      unfold g9_ask_40_b95 g9_ask_40_b110 g9_ask_40_b124
      simp only [jv_let]
      rw [show nI x + (1 : Int32) = nI (x + 1) from by rw [w1, nI_add]]
      by_cases q : b ≤ c
      · simp only [if_pos q]
      · simp only [if_neg q]
    rw [b95, b95, wx_le]
    split <;> rfl
  | succ m ih =>
    intro t fuel hi hf
    obtain ⟨n, rfl⟩ : ∃ n, fuel = n + 1 := ⟨fuel - 1, by omega⟩
    have ih := ih (t + 1) n (by omega) (by omega)
    have hh := W.hea (show t < N by omega)
    have h9 := hh.1
    simp only [cn] at ih
    show g9_ask_40_b32 k19 (f9_ask_40_l32 k19 n) _ _ _ _ _ _ _ h = _
    unfold g9_ask_40_b32 g9_ask_40_b67 g9_ask_40_b68
    rw [W.nt, if_neg (by rw [q_le (by omega) (by omega)]; omega)]
    simp only [q_has (show t < 6 by omega) hk, Option.bind_some, jv_let, q_mheat (show t < 6 by omega), hh.2]
    rw [show nI t + (1 : Int32) = nI (t + 1) from by rw [w1, nI_add], show (nI (cn (fun s => k.testBit s && decide (x ≤ ht s)) t)) + (1 : Int32) = nI (cn (fun s => k.testBit s && decide (x ≤ ht s)) t + 1) from by rw [w1, nI_add], show (nI (cn (fun s => k.testBit s && decide (x ≤ ht s)) t)) + (0 : Int32) = nI (cn (fun s => k.testBit s && decide (x ≤ ht s)) t + 0) from by rw [w0, nI_add]]
    cases hb : k.testBit t with
    | false =>
      simp only [hb, Bool.false_and, Bool.false_eq_true, if_false] at ih
      rw [if_pos (by decide), ih]
    | true =>
      rw [if_neg (by decide)]
      by_cases c : x ≤ ht t
      · simp only [hb, c, decide_true, Bool.and_true, if_true] at ih
        rw [if_neg (by rw [q_lt (by omega) (by omega)]; omega), ih]
      · simp only [hb, c, decide_false, Bool.and_false, Bool.false_eq_true, if_false] at ih
        rw [if_pos (by rw [q_lt (by omega) (by omega)]; omega), ih]
theorem q_mnb (W : Vm h N M y D ht pl ow) {k : Nat} {w : Int32} (hk : k < 64) : ∀ (m x fuel : Nat) (b a : Int32), x + m = 100 → m < fuel → f9_ask_40_l19 fuel (nI k) w b a (nI x) h = some (nbl (fun x => cn (fun s => k.testBit s && decide (x ≤ ht s)) N) w m x b a, h) := by
  have t1 := W.n6
  intro m
  induction m with
  | zero =>
    intro x fuel b a hi hf
    obtain ⟨n, rfl⟩ : ∃ n, fuel = n + 1 := ⟨fuel - 1, by omega⟩
    show g9_ask_40_b19 (f9_ask_40_l19 n) _ _ _ _ _ h = _
    unfold g9_ask_40_b19
    rw [if_pos (by rw [w99, q_lt (by omega) (by omega)]; omega)]
    rfl
  | succ m ih =>
    intro x fuel b a hi hf
    obtain ⟨n, rfl⟩ : ∃ n, fuel = n + 1 := ⟨fuel - 1, by omega⟩
    have cb := q_mcb W (f9_ask_40_l19 n) (w := w) (b := b) (a := a) hk (show x ≤ 99 by omega) N 0 jv_fuel (by omega) (by unfold jv_fuel; omega)
    show g9_ask_40_b19 (f9_ask_40_l19 n) _ _ _ _ _ h = _
    unfold g9_ask_40_b19
    rw [if_neg (by rw [w99, q_lt (by omega) (by omega)]; omega)]
    simp only [jv_let]
    rw [show (0 : Int32) = nI 0 from rfl]
    rw [show cn (fun s => k.testBit s && decide (x ≤ ht s)) 0 = 0 from rfl] at cb
    rw [cb, ih (x + 1) n _ _ (by omega) (by omega), ih (x + 1) n _ _ (by omega) (by omega)]
    rw [nbl_s, q_ite (fun q => some (q, h))]
end AS
theorem jl {α β : Type} (a : α) (f : α → β) : jv_let a f = f a := Eq.trans rfl rfl
theorem ob {α β : Type} (a : α) (f : α → Option β) : (some a).bind f = f a := Eq.trans rfl rfl
theorem p_ask1 {h : jv_H} {k : Nat} {r : Int32} (h64 : k < 64) (s1 : f5_suspects_31 h = some (nI k, h)) (n1 : f5_nextBang_31_l19 jv_fuel (nI k) (nI (pc k)) (nI (pc k)) (-9) (nI 0) h = some (r, h)) : f8_ask_0 h = some (r, h) := by
  have n1 : f5_nextBang_31_l19 jv_fuel (nI k) (nI (pc k)) (nI (pc k)) (-9) 0 h = some (r, h) := n1
  unfold f8_ask_0 f5_nextBang_31
  simp only [jl, s1, ob, q_bitCount h64, n1]
theorem p_ask2 {h : jv_H} {k : Nat} {r : Int32} (h64 : k < 64) (s2 : f9_whose_40 h = some (nI k, h)) (n2 : f9_ask_40_l19 jv_fuel (nI k) (nI (pc k)) (nI (pc k)) (-9) (nI 0) h = some (r, h)) : f9_ask_40 h = some (r, h) := by
  have n2 : f9_ask_40_l19 jv_fuel (nI k) (nI (pc k)) (nI (pc k)) (-9) 0 h = some (r, h) := n2
  unfold f9_ask_40
  simp only [jl, s2, ob, q_bits h64, n2]
theorem p_ask3 {h : jv_H} {N M P y : Nat} {D : Nat → Nat → Nat} {ht : Nat → Nat} {pl : Nat → Int32} {ow : Nat → Nat} (V : Vc h N M P y D ht pl ow) (W : Vm h N M y D ht pl ow) {k : Nat} (h64 : k < 64) (m : Nat) (hm : m = 100) : ∃ r, f5_nextBang_31_l19 jv_fuel (nI k) (nI (pc k)) (nI (pc k)) (-9) (nI 0) h = some (r, h) ∧ f9_ask_40_l19 jv_fuel (nI k) (nI (pc k)) (nI (pc k)) (-9) (nI 0) h = some (r, h) := ⟨_, q_nb V h64 m 0 jv_fuel _ _ (by omega) (by unfold jv_fuel; omega), q_mnb W h64 m 0 jv_fuel _ _ (by omega) (by unfold jv_fuel; omega)⟩
theorem p_ask : ok_ask Inv := by
  intro h hI
  obtain ⟨N, M, P, y, D, ht, pl, ow, V, W, -⟩ := hI.vw
  have t1 := V.n6
  obtain ⟨-, -, -, -, -, -, -, a5, -⟩ := id hI
  obtain ⟨K, be, ys, H⟩ := Hv.of a5
  have h64 := bs_64 (fun t => ash be ys (ht t) K 0) t1
  obtain ⟨r, n1, n2⟩ := p_ask3 V W h64 100 rfl
  exact ⟨r, h, h, p_ask1 h64 (b_susp V H) n1, p_ask2 h64 (b_whose W H) n2, hI⟩
