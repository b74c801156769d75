/-! what both sides see now; sets of tempers as bits -/
/-- one side's view: sizes in cell a, what was told in cells b .. b + 5, the row in cell rc from base on -/
def Vz (h : jv_H) (a b rc base N M y : Nat) (D : Nat → Nat → Nat) (ht : Nat → Nat) (pl : Nat → Int32) (ow : Nat → Nat) : Prop :=
  N ≤ 6 ∧ M ≤ 4 ∧ h.1 a 0 = nI N ∧ h.1 a 1 = nI M ∧
  (∀ t, t < N → h.1 b t = nI (D 0 t) ∧ D 0 t ≤ 5 ∧ h.1 (b + 1) t = nI (D 1 t) ∧ D 1 t ≤ 40 ∧ h.1 (b + 2) t = nI (D 2 t) ∧ D 2 t < 64) ∧
  (∀ n, n < M → h.1 (b + 3) n = nI (D 3 n) ∧ 1 ≤ D 3 n ∧ D 3 n ≤ 9 ∧ h.1 (b + 4) n = nI (D 4 n) ∧ 1 ≤ D 4 n ∧ D 4 n ≤ 3 ∧ h.1 (b + 5) n = nI (D 5 n) ∧ 1 ≤ D 5 n ∧ D 5 n ≤ 99) ∧
  y ≤ 99 ∧ h.1 rc (base + 0) = nI y ∧ (∀ t, t < N → ht t ≤ 99 ∧ h.1 rc (base + (1 + t)) = nI (ht t)) ∧ (∀ t, t < N → h.1 rc (base + (7 + t)) = pl t ∧ (pl t = -9 ∨ ∃ n, n < M ∧ pl t = nI n)) ∧
  (∀ t, t < N → ow t < N ∧ h.1 rc (base + (13 + t)) = nI (ow t)) ∧ ∀ s t, s < N → t < N → ow s = ow t → s = t
def Vc (h : jv_H) (N M P y : Nat) (D : Nat → Nat → Nat) (ht : Nat → Nat) (pl : Nat → Int32) (ow : Nat → Nat) : Prop := (P ≤ 10 ∧ h.1 20 1 = nI P) ∧ Vz h 1 3 21 (19 * P) N M y D ht pl ow
def Vm (h : jv_H) (N M y : Nat) (D : Nat → Nat → Nat) (ht : Nat → Nat) (pl : Nat → Int32) (ow : Nat → Nat) : Prop := Vz h 40 41 47 0 N M y D ht pl ow
/-- clashes go both ways -/
def Cs (N : Nat) (D : Nat → Nat → Nat) : Prop := (∀ s t, s < N → t < N → (D 2 s).testBit t = (D 2 t).testBit s) ∧ ∀ t, t < N → (D 2 t).testBit t = false
def Vw (h : jv_H) (N M P y : Nat) (D : Nat → Nat → Nat) (ht : Nat → Nat) (pl : Nat → Int32) (ow : Nat → Nat) : Prop := Vc h N M P y D ht pl ow ∧ Vm h N M y D ht pl ow ∧ Cs N D
section VA
variable {h : jv_H} {N M P y : Nat} {D : Nat → Nat → Nat} {ht : Nat → Nat} {pl : Nat → Int32} {ow : Nat → Nat}
theorem Vc.n6 (V : Vc h N M P y D ht pl ow) : N ≤ 6 := V.2.1
theorem Vc.m4 (V : Vc h N M P y D ht pl ow) : M ≤ 4 := V.2.2.1
theorem Vc.p10 (V : Vc h N M P y D ht pl ow) : P ≤ 10 := V.1.1
theorem Vc.p (V : Vc h N M P y D ht pl ow) : h.1 20 1 = nI P := V.1.2
theorem Vc.nt (V : Vc h N M P y D ht pl ow) : h.1 1 0 = nI N := V.2.2.2.1
theorem Vc.nn (V : Vc h N M P y D ht pl ow) : h.1 1 1 = nI M := V.2.2.2.2.1
theorem Vc.gr (V : Vc h N M P y D ht pl ow) {t : Nat} (q : t < N) : h.1 3 t = nI (D 0 t) ∧ D 0 t ≤ 5 := ⟨(V.2.2.2.2.2.1 t q).1, (V.2.2.2.2.2.1 t q).2.1⟩
theorem Vc.du (V : Vc h N M P y D ht pl ow) {t : Nat} (q : t < N) : h.1 4 t = nI (D 1 t) ∧ D 1 t ≤ 40 := ⟨(V.2.2.2.2.2.1 t q).2.2.1, (V.2.2.2.2.2.1 t q).2.2.2.1⟩
theorem Vc.cl (V : Vc h N M P y D ht pl ow) {t : Nat} (q : t < N) : h.1 5 t = nI (D 2 t) ∧ D 2 t < 64 := ⟨(V.2.2.2.2.2.1 t q).2.2.2.2.1, (V.2.2.2.2.2.1 t q).2.2.2.2.2⟩
theorem Vc.ta (V : Vc h N M P y D ht pl ow) {n : Nat} (q : n < M) : h.1 6 n = nI (D 3 n) ∧ 1 ≤ D 3 n ∧ D 3 n ≤ 9 := ⟨(V.2.2.2.2.2.2.1 n q).1, (V.2.2.2.2.2.2.1 n q).2.1, (V.2.2.2.2.2.2.1 n q).2.2.1⟩
theorem Vc.ro (V : Vc h N M P y D ht pl ow) {n : Nat} (q : n < M) : h.1 7 n = nI (D 4 n) ∧ 1 ≤ D 4 n ∧ D 4 n ≤ 3 := ⟨(V.2.2.2.2.2.2.1 n q).2.2.2.1, (V.2.2.2.2.2.2.1 n q).2.2.2.2.1, (V.2.2.2.2.2.2.1 n q).2.2.2.2.2.1⟩
theorem Vc.ho (V : Vc h N M P y D ht pl ow) {n : Nat} (q : n < M) : h.1 8 n = nI (D 5 n) ∧ 1 ≤ D 5 n ∧ D 5 n ≤ 99 := ⟨(V.2.2.2.2.2.2.1 n q).2.2.2.2.2.2.1, (V.2.2.2.2.2.2.1 n q).2.2.2.2.2.2.2.1, (V.2.2.2.2.2.2.1 n q).2.2.2.2.2.2.2.2⟩
theorem Vc.yr (V : Vc h N M P y D ht pl ow) : y ≤ 99 ∧ h.1 21 (19 * P + 0) = nI y := ⟨V.2.2.2.2.2.2.2.1, V.2.2.2.2.2.2.2.2.1⟩
theorem Vc.hea (V : Vc h N M P y D ht pl ow) {t : Nat} (q : t < N) : ht t ≤ 99 ∧ h.1 21 (19 * P + (1 + t)) = nI (ht t) := V.2.2.2.2.2.2.2.2.2.1 t q
theorem Vc.pla (V : Vc h N M P y D ht pl ow) {t : Nat} (q : t < N) : h.1 21 (19 * P + (7 + t)) = pl t ∧ (pl t = -9 ∨ ∃ n, n < M ∧ pl t = nI n) := V.2.2.2.2.2.2.2.2.2.2.1 t q
theorem Vc.own (V : Vc h N M P y D ht pl ow) {t : Nat} (q : t < N) : ow t < N ∧ h.1 21 (19 * P + (13 + t)) = nI (ow t) := V.2.2.2.2.2.2.2.2.2.2.2.1 t q
theorem Vc.inj (V : Vc h N M P y D ht pl ow) : ∀ s t, s < N → t < N → ow s = ow t → s = t := V.2.2.2.2.2.2.2.2.2.2.2.2
theorem Vm.n6 (V : Vm h N M y D ht pl ow) : N ≤ 6 := V.1
theorem Vm.m4 (V : Vm h N M y D ht pl ow) : M ≤ 4 := V.2.1
theorem Vm.nt (V : Vm h N M y D ht pl ow) : h.1 40 0 = nI N := V.2.2.1
theorem Vm.nn (V : Vm h N M y D ht pl ow) : h.1 40 1 = nI M := V.2.2.2.1
theorem Vm.gr (V : Vm h N M y D ht pl ow) {t : Nat} (q : t < N) : h.1 41 t = nI (D 0 t) ∧ D 0 t ≤ 5 := ⟨(V.2.2.2.2.1 t q).1, (V.2.2.2.2.1 t q).2.1⟩
theorem Vm.du (V : Vm h N M y D ht pl ow) {t : Nat} (q : t < N) : h.1 42 t = nI (D 1 t) ∧ D 1 t ≤ 40 := ⟨(V.2.2.2.2.1 t q).2.2.1, (V.2.2.2.2.1 t q).2.2.2.1⟩
theorem Vm.cl (V : Vm h N M y D ht pl ow) {t : Nat} (q : t < N) : h.1 43 t = nI (D 2 t) ∧ D 2 t < 64 := ⟨(V.2.2.2.2.1 t q).2.2.2.2.1, (V.2.2.2.2.1 t q).2.2.2.2.2⟩
theorem Vm.ta (V : Vm h N M y D ht pl ow) {n : Nat} (q : n < M) : h.1 44 n = nI (D 3 n) ∧ 1 ≤ D 3 n ∧ D 3 n ≤ 9 := ⟨(V.2.2.2.2.2.1 n q).1, (V.2.2.2.2.2.1 n q).2.1, (V.2.2.2.2.2.1 n q).2.2.1⟩
theorem Vm.ro (V : Vm h N M y D ht pl ow) {n : Nat} (q : n < M) : h.1 45 n = nI (D 4 n) ∧ 1 ≤ D 4 n ∧ D 4 n ≤ 3 := ⟨(V.2.2.2.2.2.1 n q).2.2.2.1, (V.2.2.2.2.2.1 n q).2.2.2.2.1, (V.2.2.2.2.2.1 n q).2.2.2.2.2.1⟩
theorem Vm.ho (V : Vm h N M y D ht pl ow) {n : Nat} (q : n < M) : h.1 46 n = nI (D 5 n) ∧ 1 ≤ D 5 n ∧ D 5 n ≤ 99 := ⟨(V.2.2.2.2.2.1 n q).2.2.2.2.2.2.1, (V.2.2.2.2.2.1 n q).2.2.2.2.2.2.2.1, (V.2.2.2.2.2.1 n q).2.2.2.2.2.2.2.2⟩
theorem Vm.yr (V : Vm h N M y D ht pl ow) : y ≤ 99 ∧ h.1 47 0 = nI y := ⟨V.2.2.2.2.2.2.1, V.2.2.2.2.2.2.2.1⟩
theorem Vm.hea (V : Vm h N M y D ht pl ow) {t : Nat} (q : t < N) : ht t ≤ 99 ∧ h.1 47 (1 + t) = nI (ht t) := by have := V.2.2.2.2.2.2.2.2.1 t q; rw [Nat.zero_add] at this; exact this
theorem Vm.pla (V : Vm h N M y D ht pl ow) {t : Nat} (q : t < N) : h.1 47 (7 + t) = pl t ∧ (pl t = -9 ∨ ∃ n, n < M ∧ pl t = nI n) := by have := V.2.2.2.2.2.2.2.2.2.1 t q; rw [Nat.zero_add] at this; exact this
theorem Vm.own (V : Vm h N M y D ht pl ow) {t : Nat} (q : t < N) : ow t < N ∧ h.1 47 (13 + t) = nI (ow t) := by have := V.2.2.2.2.2.2.2.2.2.2.1 t q; rw [Nat.zero_add] at this; exact this
theorem Vm.inj (V : Vm h N M y D ht pl ow) : ∀ s t, s < N → t < N → ow s = ow t → s = t := V.2.2.2.2.2.2.2.2.2.2.2
end VA
theorem Vw.of {h : jv_H} {N M P : Nat} {D : Nat → Nat → Nat} (a : Tl h N M D) (c : Cr h N M 20 21 47 0 P) : ∃ y ht pl ow, Vw h N M P y D ht pl ow := by
  obtain ⟨c0, c1, c2, c3, c4, c5, c6⟩ := c
  obtain ⟨⟨y, y1, y2⟩, w3, w4⟩ := c4
  obtain ⟨e0, e1⟩ := c5
  obtain ⟨t1, t2, t3, t4, t5, t6, t7, t8, t9, t10⟩ := a
  have e0 : h.1 21 (19 * P + 0) = h.1 47 (0 + 0) := e0
  have y2 : h.1 47 (0 + 0) = nI y := y2
  have clp : ∀ (v : Int32) (b : Nat), b < 100 → (∃ x, x ≤ b ∧ v = nI x) → v.toNatClampNeg ≤ b ∧ v = nI v.toNatClampNeg := by
    rintro v b hb ⟨x, hx, rfl⟩
    rw [q_cl (by omega)]
    exact ⟨hx, rfl⟩
  have f1 : ∀ t, t < N → (h.1 47 (0 + (1 + t))).toNatClampNeg ≤ 99 ∧ h.1 47 (0 + (1 + t)) = nI (h.1 47 (0 + (1 + t))).toNatClampNeg := fun t ht => clp _ 99 (by omega) (w3 t ht).1
  have f3 : ∀ t, t < N → (h.1 47 (0 + (13 + t))).toNatClampNeg < N ∧ h.1 47 (0 + (13 + t)) = nI (h.1 47 (0 + (13 + t))).toNatClampNeg := fun t ht => by
    obtain ⟨o, o1, o2⟩ := (w3 t ht).2.2
    have o2 : h.1 47 (0 + (13 + t)) = nI o := o2
    rw [o2, q_cl (by omega)]
    exact ⟨o1, rfl⟩
  have f4 : ∀ s t, s < N → t < N → (h.1 47 (0 + (13 + s))).toNatClampNeg = (h.1 47 (0 + (13 + t))).toNatClampNeg → s = t := fun s t hs ht he => w4 s t hs ht (by
    show h.1 47 (0 + (13 + s)) = h.1 47 (0 + (13 + t))
    rw [(f3 s hs).2, (f3 t ht).2, he])
  refine ⟨y, fun t => (h.1 47 (0 + (1 + t))).toNatClampNeg, fun t => h.1 47 (0 + (7 + t)), fun t => (h.1 47 (0 + (13 + t))).toNatClampNeg, ⟨⟨c1, c2⟩, t1, t2, t3, t4, fun t q => ?_, fun n q => ?_, y1, e0.trans y2, fun t q => ⟨(f1 t q).1, (e1 t q).1.trans (f1 t q).2⟩, fun t q => ⟨(e1 t q).2.1, (w3 t q).2.1⟩, fun t q => ⟨(f3 t q).1, (e1 t q).2.2.trans (f3 t q).2⟩, f4⟩, ⟨t1, t2, t5, t6, fun t q => ?_, fun n q => ?_, y1, y2, f1, fun t q => ⟨rfl, (w3 t q).2.1⟩, f3, f4⟩, t9, t10⟩
  · obtain ⟨u1, u2, u3, u4, u5, u6, u7, u8, u9⟩ := t7 t q
    exact ⟨u1, u3, u4, u6, u7, u9⟩
  · obtain ⟨u1, u2, u3, u4, u5, u6, u7, u8, u9, u10, u11, u12⟩ := t8 n q
    exact ⟨u1, u3, u4, u5, u7, u8, u9, u11, u12⟩
  · obtain ⟨u1, u2, u3, u4, u5, u6, u7, u8, u9⟩ := t7 t q
    exact ⟨u2, u3, u5, u6, u8, u9⟩
  · obtain ⟨u1, u2, u3, u4, u5, u6, u7, u8, u9, u10, u11, u12⟩ := t8 n q
    exact ⟨u2, u3, u4, u6, u7, u8, u10, u11, u12⟩
theorem Vz.eq {h h' : jv_H} {a b rc base N M y : Nat} {D : Nat → Nat → Nat} {ht : Nat → Nat} {pl : Nat → Int32} {ow : Nat → Nat} (V : Vz h a b rc base N M y D ht pl ow) (h0 : h'.1 a 0 = h.1 a 0) (h1 : h'.1 a 1 = h.1 a 1) (h2 : ∀ i, i < 6 → h'.1 (b + i) = h.1 (b + i)) (h3 : ∀ j, j < 19 → h'.1 rc (base + j) = h.1 rc (base + j)) : Vz h' a b rc base N M y D ht pl ow := by
  obtain ⟨v1, v2, v3, v4, v5, v6, v7, v8, v9, v10, v11, v12⟩ := V
  refine ⟨v1, v2, h0.trans v3, h1.trans v4, fun t q => ?_, fun n q => ?_, v7, (h3 0 (by omega)).trans v8, fun t q => ?_, fun t q => ?_, fun t q => ?_, v12⟩
  · have := h2 0 (by omega); simp only [Nat.add_zero] at this; rw [this, h2 1 (by omega), h2 2 (by omega)]; exact v5 t q
  · rw [h2 3 (by omega), h2 4 (by omega), h2 5 (by omega)]; exact v6 n q
  · rw [h3 _ (by omega)]; exact v9 t q
  · rw [h3 _ (by omega)]; exact v10 t q
  · rw [h3 _ (by omega)]; exact v11 t q
theorem Vc.sm {h h' : jv_H} {N M P y : Nat} {D : Nat → Nat → Nat} {ht : Nat → Nat} {pl : Nat → Int32} {ow : Nat → Nat} (V : Vc h N M P y D ht pl ow) (s : Sm h h') : Vc h' N M P y D ht pl ow := ⟨⟨V.1.1, (s.1 _ _ (by unfold jq_s; omega)).trans V.1.2⟩, V.2.eq (s.1 _ _ (by unfold jq_s; omega)) (s.1 _ _ (by unfold jq_s; omega)) (fun i hi => funext fun j => s.1 _ _ (by unfold jq_s; omega)) (fun j hj => s.1 _ _ (by unfold jq_s; omega))⟩
theorem Vm.sm {h h' : jv_H} {N M y : Nat} {D : Nat → Nat → Nat} {ht : Nat → Nat} {pl : Nat → Int32} {ow : Nat → Nat} (V : Vm h N M y D ht pl ow) (s : Sm h h') : Vm h' N M y D ht pl ow := Vz.eq V (s.1 _ _ (by unfold jq_s; omega)) (s.1 _ _ (by unfold jq_s; omega)) (fun i hi => funext fun j => s.1 _ _ (by unfold jq_s; omega)) (fun j hj => s.1 _ _ (by unfold jq_s; omega))
theorem Inv.vw {h : jv_H} (hI : Inv h) : ∃ N M P y D ht pl ow, Vw h N M P y D ht pl ow := by
  obtain ⟨N, M, D, a1, ⟨P, a2⟩, -⟩ := hI
  obtain ⟨y, ht, pl, ow, V⟩ := Vw.of a1 a2
  exact ⟨N, M, P, y, D, ht, pl, ow, V⟩
/-- the bits t below n with p t -/
def bs (p : Nat → Bool) : Nat → Nat
  | 0 => 0
  | n + 1 => bs p n + if p n then 2 ^ n else 0
theorem bs_lt (p : Nat → Bool) : ∀ n, bs p n < 2 ^ n
  | 0 => by simp [bs]
  | n + 1 => by
    have := bs_lt p n
    have h2 : 2 ^ (n + 1) = 2 ^ n + 2 ^ n := by rw [Nat.pow_succ]; omega
    simp only [bs]
    split <;> omega
theorem bs_cong {p q : Nat → Bool} : ∀ {n}, (∀ t, t < n → p t = q t) → bs p n = bs q n
  | 0, _ => rfl
  | n + 1, h => by rw [bs, bs, bs_cong (fun t ht => h t (by omega)), h n (by omega)]
theorem pw6 {n : Nat} (h : n ≤ 6) : 2 ^ n ≤ 64 := by
  have : 2 ^ n ≤ 2 ^ 6 := Nat.pow_le_pow_right (by omega) h
  exact this
theorem bs_64 (p : Nat → Bool) {n : Nat} (h : n ≤ 6) : bs p n < 64 := Nat.lt_of_lt_of_le (bs_lt p n) (pw6 h)
theorem bs_bit (p : Nat → Bool) : ∀ n t, (bs p n).testBit t = (decide (t < n) && p t)
  | 0, t => by simp [bs]
  | n + 1, t => by
    have h1 := bs_lt p n
    have ih := bs_bit p n t
    have hb : (bs p n).testBit n = false := Nat.testBit_lt_two_pow h1
    simp only [bs]
    by_cases hp : p n = true
    · rw [if_pos hp, Nat.add_comm]
      rcases Nat.lt_trichotomy t n with q | q | q
      · rw [Nat.testBit_two_pow_add_gt q, ih]
        simp [show t < n by omega, show t < n + 1 by omega]
      · subst q
        rw [Nat.testBit_two_pow_add_eq, hb, hp]
        simp
      · have : 2 ^ n + bs p n < 2 ^ t := Nat.lt_of_lt_of_le (by rw [Nat.pow_succ]; omega : 2 ^ n + bs p n < 2 ^ (n + 1)) (Nat.pow_le_pow_right (by omega) q)
        rw [Nat.testBit_lt_two_pow this]
        simp [show ¬ t < n + 1 by omega]
    · rw [if_neg hp, Nat.add_zero, ih]
      rcases Nat.lt_trichotomy t n with q | q | q
      · simp [show t < n by omega, show t < n + 1 by omega]
      · subst q
        simp [hp]
      · simp [show ¬ t < n by omega, show ¬ t < n + 1 by omega]
theorem q_or : ∀ t, t < 6 → ∀ a, a < 64 → a < 2 ^ t → nI a ||| ((1 : Int32) <<< (nI t &&& 31)) = nI (a + 2 ^ t) := by decide +kernel
theorem q_or0 : ∀ a, a < 64 → nI a ||| (0 : Int32) = nI (a + 0) := by decide +kernel
theorem bs_loop {β : Type} (F : Nat → Int32 → Int32 → β) (p : Nat → Bool) {N : Nat} (hN : N ≤ 6) (out : Int32 → β) (h1 : ∀ n t a, t < N → a < 2 ^ t → a < 64 → F (n + 1) (nI a) (nI t) = F n (nI (a + if p t then 2 ^ t else 0)) (nI (t + 1))) (h2 : ∀ n a, F (n + 1) (nI a) (nI N) = out (nI a)) : ∀ fuel, N < fuel → F fuel (nI 0) (nI 0) = out (nI (bs p N)) := by
  have key : ∀ (m t fuel : Nat), t + m = N → m < fuel → F fuel (nI (bs p t)) (nI t) = out (nI (bs p N)) := by
    intro m
    induction m with
    | zero =>
      intro t fuel ht hf
      obtain ⟨n, rfl⟩ : ∃ n, fuel = n + 1 := ⟨fuel - 1, by omega⟩
      have : t = N := by omega
      subst this
      exact h2 n _
    | succ m ih =>
      intro t fuel ht hf
      obtain ⟨n, rfl⟩ : ∃ n, fuel = n + 1 := ⟨fuel - 1, by omega⟩
      rw [h1 n t _ (by omega) (bs_lt p t) (bs_64 p (by omega))]
      exact ih (t + 1) n (by omega) (by omega)
  intro fuel hf
  exact key N 0 fuel (by omega) hf
/-- how many bits are set, below 2^6 -/
def pc (k : Nat) : Nat := k % 2 + k / 2 % 2 + k / 4 % 2 + k / 8 % 2 + k / 16 % 2 + k / 32 % 2
theorem pc_le (k : Nat) : pc k ≤ 6 := by unfold pc; omega
theorem q_bitCount0 : ∀ k, k < 64 → (fj6_bitCount_0f7a4 (nI k) JZ).map (fun q => q.1) = some (nI (pc k)) := by decide +kernel
theorem q_bitCount {k : Nat} (hk : k < 64) (h : jv_H) : fj6_bitCount_0f7a4 (nI k) h = some (nI (pc k), h) := by
  have e := q_bitCount0 k hk
  unfold fj6_bitCount_0f7a4 at e ⊢
  simp only [jv_let, Option.map_some, Option.some.injEq] at e ⊢
  rw [e]
theorem q_shr : ∀ k, k < 64 → nI k >>> ((1 : Int32) &&& 31) = nI (k / 2) ∧ nI k &&& (1 : Int32) = nI (k % 2) := by decide +kernel
theorem q_bitsl : ∀ (m k a fuel : Nat) (h : jv_H), k < 2 ^ m → m ≤ 6 → m < fuel → f9_bits_l4 fuel (nI a) (nI k) h = some (nI (a + pc k), h) := by
  intro m
  induction m with
  | zero =>
    intro k a fuel h hk hm hf
    obtain ⟨n, rfl⟩ : ∃ n, fuel = n + 1 := ⟨fuel - 1, by omega⟩
    have : k = 0 := by simpa using hk
    subst this
    show g9_bits_b4 (f9_bits_l4 n) (nI a) (nI 0) h = _
    unfold g9_bits_b4
    rw [if_pos (by decide)]
    rfl
  | succ m ih =>
    intro k a fuel h hk hm hf
    obtain ⟨n, rfl⟩ : ∃ n, fuel = n + 1 := ⟨fuel - 1, by omega⟩
    show g9_bits_b4 (f9_bits_l4 n) (nI a) (nI k) h = _
    have h64 : k < 64 := Nat.lt_of_lt_of_le hk (pw6 hm)
    unfold g9_bits_b4
    simp only [q_le0 (show k < 2147483648 by omega), jv_let, (q_shr k h64).1, (q_shr k h64).2, nI_add]
    by_cases hk0 : k = 0
    · subst hk0
      rfl
    · rw [if_neg hk0]
      rw [ih (k / 2) (a + k % 2) n h (by rw [Nat.pow_succ] at hk; omega) (by omega) (by omega)]
      have : a + k % 2 + pc (k / 2) = a + pc k := by unfold pc; omega
      rw [this]
theorem q_bits {k : Nat} (hk : k < 64) (h : jv_H) : f9_bits (nI k) h = some (nI (pc k), h) := by
  unfold f9_bits
  simp only [jv_let]
  rw [w0, q_bitsl 6 k 0 jv_fuel h hk (by omega) (by unfold jv_fuel; omega), Nat.zero_add]
theorem q_bit (t : Nat) (h : jv_H) : f8_bit (nI t) h = some ((1 : Int32) <<< (nI t &&& 31), h) := rfl
section VW
variable {h : jv_H} {N M P y : Nat} {D : Nat → Nat → Nat} {ht : Nat → Nat} {pl : Nat → Int32} {ow : Nat → Nat}
theorem b_thoseWith (V : Vc h N M P y D ht pl ow) (v : Int32) : f3_thoseWith_22 v h = some (nI (bs (fun t => decide (pl t = v)) N), h) := by
  have t1 := V.n6
  have t3 := V.nt
  have v2 := V.p10
  have v3 := V.p
  unfold f3_thoseWith_22
  simp only [jv_let]
  rw [w0]
  refine bs_loop (fun n a t => f3_thoseWith_22_l4 n v a t h) _ t1 (fun r => some (r, h)) (fun n t a ht ha h64 => ?_) (fun n a => ?_) jv_fuel (by unfold jv_fuel; omega)
  · show g3_thoseWith_22_b4 (f3_thoseWith_22_l4 n) v (nI a) (nI t) h = _
    unfold g3_thoseWith_22_b4 g3_thoseWith_22_b34
    rw [t3]
    simp (disch := omega) only [q_le, if_neg, q_place v3 v2, Option.bind_some, (V.pla ht).1, q_bit, jv_let, w1, nI_add]
    by_cases hp : pl t = v
    · rw [if_pos hp, ← w1, q_or t (by omega) a h64 ha]
      simp only [hp, decide_true, if_true]
    · rw [if_neg hp]
      simp only [hp, decide_false, if_false, Nat.add_zero, Bool.false_eq_true]
  · show g3_thoseWith_22_b4 (f3_thoseWith_22_l4 n) v (nI a) (nI N) h = _
    unfold g3_thoseWith_22_b4
    rw [t3]
    simp (disch := omega) only [q_le, if_pos]
theorem b_whom (V : Vm h N M y D ht pl ow) (v : Int32) : f9_whom_40 v h = some (nI (bs (fun t => decide (pl t = v)) N), h) := by
  have t1 := V.n6
  have t5 := V.nt
  unfold f9_whom_40
  simp only [jv_let]
  rw [w0]
  refine bs_loop (fun n a t => f9_whom_40_l4 n v a t h) _ t1 (fun r => some (r, h)) (fun n t a ht ha h64 => ?_) (fun n a => ?_) jv_fuel (by unfold jv_fuel; omega)
  · show g9_whom_40_b4 (f9_whom_40_l4 n) v (nI a) (nI t) h = _
    unfold g9_whom_40_b4 g9_whom_40_b33
    rw [t5]
    simp (disch := omega) only [q_le, if_neg, w7, nI_add, q_ix, q_cl, if_pos, (V.pla ht).1, jv_let]
    simp (disch := omega) only [w1, nI_add]
    by_cases hp : pl t = v
    · rw [if_pos hp, ← w1, q_or t (by omega) a h64 ha]
      simp only [hp, decide_true, if_true]
    · rw [if_neg hp, q_or0 a h64]
      simp only [hp, decide_false, if_false, Nat.add_zero, Bool.false_eq_true]
  · show g9_whom_40_b4 (f9_whom_40_l4 n) v (nI a) (nI N) h = _
    unfold g9_whom_40_b4
    rw [t5]
    simp (disch := omega) only [q_le, if_pos]
theorem b_broken (V : Vc h N M P y D ht pl ow) : f3_broken_22 h = some (nI (bs (fun t => decide (ht t = 0)) N), h) := by
  have t1 := V.n6
  have t3 := V.nt
  have v2 := V.p10
  have v3 := V.p
  unfold f3_broken_22
  simp only [jv_let]
  rw [w0]
  refine bs_loop (fun n a t => f3_broken_22_l4 n a t h) _ t1 (fun r => some (r, h)) (fun n t a htn ha h64 => ?_) (fun n a => ?_) jv_fuel (by unfold jv_fuel; omega)
  · show g3_broken_22_b4 (f3_broken_22_l4 n) (nI a) (nI t) h = _
    have hx := V.hea htn
    unfold g3_broken_22_b4 g3_broken_22_b33
    rw [t3]
    simp (disch := omega) only [q_le, if_neg, q_heat v3 v2, Option.bind_some, hx.2, q_eq0, q_bit, jv_let, w1, nI_add]
    by_cases hp : ht t = 0
    · rw [if_pos hp, ← w1, q_or t (by omega) a h64 ha]
      simp only [hp, decide_true, if_true]
    · rw [if_neg hp]
      simp only [hp, decide_false, if_false, Nat.add_zero, Bool.false_eq_true]
  · show g3_broken_22_b4 (f3_broken_22_l4 n) (nI a) (nI N) h = _
    unfold g3_broken_22_b4
    rw [t3]
    simp (disch := omega) only [q_le, if_pos]
theorem b_mbroken (V : Vm h N M y D ht pl ow) : f9_broken_40 h = some (nI (bs (fun t => decide (ht t = 0)) N), h) := by
  have t1 := V.n6
  have t5 := V.nt
  unfold f9_broken_40
  simp only [jv_let]
  rw [w0]
  refine bs_loop (fun n a t => f9_broken_40_l4 n a t h) _ t1 (fun r => some (r, h)) (fun n t a htn ha h64 => ?_) (fun n a => ?_) jv_fuel (by unfold jv_fuel; omega)
  · show g9_broken_40_b4 (f9_broken_40_l4 n) (nI a) (nI t) h = _
    have hx := V.hea htn
    unfold g9_broken_40_b4 g9_broken_40_b28
    rw [t5]
    simp (disch := omega) only [q_le, if_neg, q_mheat, Option.bind_some, hx.2, q_eq0, jv_let]
    simp only [w1, nI_add]
    by_cases hp : ht t = 0
    · rw [if_pos hp, ← w1, q_or t (by omega) a h64 ha]
      simp only [hp, decide_true, if_true]
    · rw [if_neg hp, q_or0 a h64]
      simp only [hp, decide_false, if_false, Nat.add_zero, Bool.false_eq_true]
  · show g9_broken_40_b4 (f9_broken_40_l4 n) (nI a) (nI N) h = _
    unfold g9_broken_40_b4
    rw [t5]
    simp (disch := omega) only [q_le, if_pos]
/-- a nurse who has 'some' already can have t, too -/
def mj (D : Nat → Nat → Nat) (ht : Nat → Nat) (t n some : Nat) : Bool := decide (ht t ≤ D 5 n) && decide (pc some < D 4 n) && decide (some &&& D 2 t = 0)
theorem q_and0 {a b : Nat} (ha : a < 64) (hb : b < 64) : (nI a &&& nI b = 0) = (a &&& b = 0) := by
  have h1 : nI a &&& nI b = nI (a &&& b) := by
    apply Int32.toBitVec_inj.mp
    apply BitVec.eq_of_toNat_eq
    have f : ∀ n, n < 64 → (nI n).toBitVec.toNat = n := by decide +kernel
    have hab : a &&& b < 64 := Nat.lt_of_le_of_lt Nat.and_le_left ha
    rw [Int32.toBitVec_and, BitVec.toNat_and, f a ha, f b hb, f _ hab]
  have hab : a &&& b < 64 := Nat.lt_of_le_of_lt Nat.and_le_left ha
  rw [h1, q_eq0 (by omega)]
theorem b_mayJoin (V : Vc h N M P y D ht pl ow) {t n s : Nat} (htN : t < N) (hnM : n < M) (hs : s < 64) : f3_mayjoin_22 (nI t) (nI n) (nI s) h = some (if mj D ht t n s then 1 else 0, h) := by
  have t1 := V.n6
  have t2 := V.m4
  have t3 := V.nt
  have t4 := V.nn
  have v2 := V.p10
  have v3 := V.p
  have hx := V.hea htN
  have hr := V.ro hnM
  have hh := V.ho hnM
  have hc := V.cl htN
  have b1 : 0 ≤ (nI t).toInt ∧ (nI t).toInt < N := by rw [q_ti (by omega)]; omega
  have b2 : 0 ≤ (nI n).toInt ∧ (nI n).toInt < M := by rw [q_ti (by omega)]; omega
  have hpc := pc_le s
  unfold f3_mayjoin_22 mj
  simp only [q_hasT _ t3 t1, Option.bind_some, if_pos b1, q_hasN _ t4 (show M ≤ 6 by omega), if_pos b2]
  rw [if_neg (by decide), if_neg (by decide)]
  simp (disch := omega) only [q_heat v3 v2, Option.bind_some, hx.2, q_ix, q_cl, if_pos, hh.1, q_lt, q_bitCount hs, hr.1, q_le, hc.1, q_and0]
  by_cases c1 : ht t ≤ D 5 n
  · rw [if_neg (by omega)]
    by_cases c2 : pc s < D 4 n
    · rw [if_neg (by omega)]
      by_cases c3 : s &&& D 2 t = 0
      · simp [c1, c2, c3]
      · simp [c1, c2, c3]
    · rw [if_pos (by omega)]
      simp [c2]
  · rw [if_pos (by omega)]
    simp [c1]
end VW
