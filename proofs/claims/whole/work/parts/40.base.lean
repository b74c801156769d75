/-! the pure part: numbers, cells, the invariant -/
theorem q_p_same (h : jv_H) (k j : Nat) (v : Int32) : (jv_p h k j v).1 k j = v := by simp [jv_p, jv_s, upd]
theorem q_p_j (h : jv_H) {k j i : Nat} {v : Int32} (hi : ¬ i = j) : (jv_p h k j v).1 k i = h.1 k i := by simp [jv_p, jv_s, upd, hi]
theorem q_p_k (h : jv_H) {k j a : Nat} {v : Int32} (ha : ¬ a = k) : (jv_p h k j v).1 a = h.1 a := by simp [jv_p, jv_s, ha]
theorem q_p_2 (h : jv_H) (k j : Nat) (v : Int32) : (jv_p h k j v).2 = h.2 := rfl
theorem q_p_if (h : jv_H) (k j i : Nat) (v : Int32) : (jv_p h k j v).1 k i = if i = j then v else h.1 k i := by simp [jv_p, jv_s, upd]
theorem q_l_1 (h : jv_H) (k j : Nat) (v : Int64) : (jv_l h k j v).1 = h.1 := rfl
theorem q_l_same (h : jv_H) (k j : Nat) (v : Int64) : (jv_l h k j v).2 k j = v := by simp [jv_l]
theorem q_l_ne (h : jv_H) {k j a b : Nat} {v : Int64} (ha : ¬ a = k) : (jv_l h k j v).2 a b = h.2 a b := by simp [jv_l, ha]
theorem q_y_k (h : jv_H) {a b k : Nat} {sp dp n : Int32} (hk : ¬ k = b) : (jv_y h a b sp dp n).1 k = h.1 k := by simp [jv_y, jv_s, hk]
theorem q_y_b (h : jv_H) (a b : Nat) (sp dp n : Int32) (i : Nat) : (jv_y h a b sp dp n).1 b i = if dp.toNatClampNeg ≤ i ∧ i < dp.toNatClampNeg + n.toNatClampNeg then h.1 a (sp.toNatClampNeg + (i - dp.toNatClampNeg)) else h.1 b i := by simp [jv_y, jv_s, va_cpy]
theorem q_y_2 (h : jv_H) (a b : Nat) (sp dp n : Int32) : (jv_y h a b sp dp n).2 = h.2 := rfl
theorem q_lit (n : Nat) : (OfNat.ofNat n : Int32) = nI n := rfl
theorem q_cl {n : Nat} (h : n < 2147483648) : (nI n).toNatClampNeg = n := nI_clamp h
theorem q_ti {n : Nat} (h : n < 2147483648) : (nI n).toInt = (n : Int) := nI_toInt h
theorem q_le {a b : Nat} (ha : a < 2147483648) (hb : b < 2147483648) : (nI a ≤ nI b) = (a ≤ b) := propext (nI_leI ha hb)
theorem q_lt {a b : Nat} (ha : a < 2147483648) (hb : b < 2147483648) : (nI a < nI b) = (a < b) := propext (nI_ltI ha hb)
theorem q_eq {a b : Nat} (ha : a < 2147483648) (hb : b < 2147483648) : (nI a = nI b) = (a = b) := propext (nI_eq ha hb)
theorem q_le0 {a : Nat} (ha : a < 2147483648) : (nI a ≤ 0) = (a = 0) := by rw [show (0 : Int32) = nI 0 from rfl, q_le ha (by omega)]; exact propext (by omega)
theorem q_lt0 {a : Nat} (ha : a < 2147483648) : (nI a < 0) = False := by rw [show (0 : Int32) = nI 0 from rfl, q_lt ha (by omega)]; exact propext ⟨fun h => by omega, fun h => h.elim⟩
theorem q_0le {a : Nat} (ha : a < 2147483648) : (0 ≤ nI a) = True := by rw [show (0 : Int32) = nI 0 from rfl, q_le (by omega) ha]; exact propext ⟨fun _ => trivial, fun _ => by omega⟩
theorem q_eq0 {a : Nat} (ha : a < 2147483648) : (nI a = 0) = (a = 0) := by rw [show (0 : Int32) = nI 0 from rfl, q_eq ha (by omega)]
theorem q_ix {a n : Nat} (ha : a < 2147483648) : jv_ix (nI a) n = (a < n) := by
  show (0 ≤ (nI a).toInt ∧ (nI a).toInt < n) = (a < n)
  rw [q_ti ha]
  exact propext (by omega)
theorem q_m9 {a : Nat} (ha : a < 2147483648) : (nI a = -9) = False := by
  refine propext ⟨fun h => ?_, fun h => h.elim⟩
  have h1 := congrArg Int32.toInt h
  rw [q_ti ha] at h1
  have : (-9 : Int32).toInt = -9 := by decide
  omega
theorem q_m9' {a : Nat} (ha : a < 2147483648) : (-9 = nI a) = False := (propext eq_comm).trans (q_m9 ha)
/-- an argument that is a number below N, or none -/
theorem q_arg (a : Int32) (N : Nat) (hN : N < 2147483648) : (∃ t, t < N ∧ a = nI t) ∨ ¬ (0 ≤ a.toInt ∧ a.toInt < N) := by
  by_cases h : 0 ≤ a.toInt ∧ a.toInt < N
  · left
    refine ⟨a.toInt.toNat, by omega, ?_⟩
    apply Int32.toInt_inj.mp
    rw [q_ti (by omega)]
    omega
  · exact Or.inr h
theorem q_within (a : Int32) {lo hi : Int32} (h : jv_H) : f8_isWithin a lo hi h = some (if lo.toInt ≤ a.toInt ∧ a.toInt ≤ hi.toInt then 1 else 0, h) := by
  unfold f8_isWithin
  simp only [Int32.lt_iff_toInt_lt]
  by_cases h1 : a.toInt < lo.toInt
  · rw [if_pos h1, if_neg (by omega)]
  · rw [if_neg h1]
    by_cases h2 : hi.toInt < a.toInt
    · rw [if_pos h2, if_neg (by omega)]
    · rw [if_neg h2, if_pos (by omega)]
theorem q_cmp_lt (x y : Int64) : (lg_cmp x y < 0) = (x.toInt < y.toInt) := by
  rw [← Int64.lt_iff_toInt_lt, ← Int32.not_le, lg_cmp_ge, Int64.not_le]
theorem q_cmp_gt (x y : Int64) : (0 < lg_cmp x y) = (y.toInt < x.toInt) := by
  rw [← Int64.lt_iff_toInt_lt, ← Int32.not_le, lg_cmp_le, Int64.not_le]
theorem q_in (a : Int32) (lo hi : Int64) (h : jv_H) : f9_in a.toInt64 lo hi h = some (if lo.toInt ≤ a.toInt ∧ a.toInt ≤ hi.toInt then 1 else 0, h) := by
  unfold f9_in
  simp only [q_cmp_lt, q_cmp_gt, Int32.toInt_toInt64]
  by_cases h1 : a.toInt < lo.toInt
  · rw [if_pos h1, if_neg (by omega)]
  · rw [if_neg h1]
    by_cases h2 : hi.toInt < a.toInt
    · rw [if_pos h2, if_neg (by omega)]
    · rw [if_neg h2, if_pos (by omega)]
theorem q_hasT {h : jv_H} {N : Nat} (a : Int32) (hN : h.1 1 0 = nI N) (h6 : N ≤ 6) : f2_hasTemper_1 a h = some (if 0 ≤ a.toInt ∧ a.toInt < N then 1 else 0, h) := by
  unfold f2_hasTemper_1
  rw [hN]
  simp only [Int32.lt_iff_toInt_lt, Int32.le_iff_toInt_le, q_ti (show N < 2147483648 by omega), show (0 : Int32).toInt = 0 from rfl]
  by_cases h1 : a.toInt < 0
  · rw [if_pos h1, if_neg (by omega)]
  · rw [if_neg h1]
    by_cases h2 : (N : Int) ≤ a.toInt
    · rw [if_pos h2, if_neg (by omega)]
    · rw [if_neg h2, if_pos (by omega)]
theorem q_hasN {h : jv_H} {N : Nat} (a : Int32) (hN : h.1 1 1 = nI N) (h6 : N ≤ 6) : f2_hasNurse_1 a h = some (if 0 ≤ a.toInt ∧ a.toInt < N then 1 else 0, h) := by
  unfold f2_hasNurse_1
  rw [hN]
  simp only [Int32.lt_iff_toInt_lt, Int32.le_iff_toInt_le, q_ti (show N < 2147483648 by omega), show (0 : Int32).toInt = 0 from rfl]
  by_cases h1 : a.toInt < 0
  · rw [if_pos h1, if_neg (by omega)]
  · rw [if_neg h1]
    by_cases h2 : (N : Int) ≤ a.toInt
    · rw [if_pos h2, if_neg (by omega)]
    · rw [if_neg h2, if_pos (by omega)]
theorem q_nm1 {N : Nat} (h6 : N ≤ 6) : ((nI N - (1 : Int32)).toInt64).toInt = (N : Int) - 1 := by
  rw [Int32.toInt_toInt64]
  exact pk_sub_toInt (a := N) (b := 1) (by omega) (by omega)
theorem q_isT {h : jv_H} {N : Nat} (a : Int32) (hN : h.1 40 0 = nI N) (h6 : N ≤ 6) : f9_isTemper_40 a h = some (if 0 ≤ a.toInt ∧ a.toInt < N then 1 else 0, h) := by
  unfold f9_isTemper_40
  rw [hN, q_in, q_nm1 h6]
  simp only [Option.bind_some, show (0 : Int64).toInt = 0 from rfl]
  by_cases h1 : 0 ≤ a.toInt ∧ a.toInt < N
  · have h2 : 0 ≤ a.toInt ∧ a.toInt ≤ (N : Int) - 1 := by omega
    rw [if_pos h2, if_pos h1]; rfl
  · have h2 : ¬ (0 ≤ a.toInt ∧ a.toInt ≤ (N : Int) - 1) := by omega
    rw [if_neg h2, if_neg h1]; rfl
theorem q_isN {h : jv_H} {N : Nat} (a : Int32) (hN : h.1 40 1 = nI N) (h6 : N ≤ 6) : f9_isNurse_40 a h = some (if 0 ≤ a.toInt ∧ a.toInt < N then 1 else 0, h) := by
  unfold f9_isNurse_40
  rw [hN, q_in, q_nm1 h6]
  simp only [Option.bind_some, show (0 : Int64).toInt = 0 from rfl]
  by_cases h1 : 0 ≤ a.toInt ∧ a.toInt < N
  · have h2 : 0 ≤ a.toInt ∧ a.toInt ≤ (N : Int) - 1 := by omega
    rw [if_pos h2, if_pos h1]; rfl
  · have h2 : ¬ (0 ≤ a.toInt ∧ a.toInt ≤ (N : Int) - 1) := by omega
    rw [if_neg h2, if_neg h1]; rfl
/-- one row: a year, heats, places, owners -/
def Rw (N M : Nat) (ρ : Nat → Int32) : Prop := (∃ y, y ≤ 99 ∧ ρ 0 = nI y) ∧ (∀ t, t < N → (∃ x, x ≤ 99 ∧ ρ (1 + t) = nI x) ∧ (ρ (7 + t) = -9 ∨ ∃ n, n < M ∧ ρ (7 + t) = nI n) ∧ ∃ o, o < N ∧ ρ (13 + t) = nI o) ∧ ∀ s t, s < N → t < N → ρ (13 + s) = ρ (13 + t) → s = t
/-- two rows that are alike where it counts -/
def Re (N : Nat) (ρ σ : Nat → Int32) : Prop := ρ 0 = σ 0 ∧ ∀ t, t < N → ρ (1 + t) = σ (1 + t) ∧ ρ (7 + t) = σ (7 + t) ∧ ρ (13 + t) = σ (13 + t)
/-- a course (past in cell pc, rows in cell rc) is what the reference has from place off of cell mc on -/
def Cr (h : jv_H) (N M pc rc mc off P : Nat) : Prop := N ≤ 6 ∧ P ≤ 10 ∧ h.1 pc 1 = nI P ∧ h.1 mc (off + 19) = nI P ∧ Rw N M (fun j => h.1 mc (off + j)) ∧ Re N (fun j => h.1 rc (19 * P + j)) (fun j => h.1 mc (off + j)) ∧ ∀ r, r < P → Rw N M (fun j => h.1 mc (off + 20 + 19 * r + j)) ∧ Re N (fun j => h.1 rc (19 * r + j)) (fun j => h.1 mc (off + 20 + 19 * r + j))
/-- what was told: D 0 grows, D 1 due, D 2 clashes; D 3 tames, D 4 room, D 5 holds -/
def Tl (h : jv_H) (N M : Nat) (D : Nat → Nat → Nat) : Prop := N ≤ 6 ∧ M ≤ 4 ∧ h.1 1 0 = nI N ∧ h.1 1 1 = nI M ∧ h.1 40 0 = nI N ∧ h.1 40 1 = nI M ∧
  (∀ t, t < N → h.1 3 t = nI (D 0 t) ∧ h.1 41 t = nI (D 0 t) ∧ D 0 t ≤ 5 ∧ h.1 4 t = nI (D 1 t) ∧ h.1 42 t = nI (D 1 t) ∧ D 1 t ≤ 40 ∧ h.1 5 t = nI (D 2 t) ∧ h.1 43 t = nI (D 2 t) ∧ D 2 t < 64) ∧
  (∀ n, n < M → h.1 6 n = nI (D 3 n) ∧ h.1 44 n = nI (D 3 n) ∧ 1 ≤ D 3 n ∧ D 3 n ≤ 9 ∧ h.1 7 n = nI (D 4 n) ∧ h.1 45 n = nI (D 4 n) ∧ 1 ≤ D 4 n ∧ D 4 n ≤ 3 ∧ h.1 8 n = nI (D 5 n) ∧ h.1 46 n = nI (D 5 n) ∧ 1 ≤ D 5 n ∧ D 5 n ≤ 99) ∧
  (∀ s t, s < N → t < N → (D 2 s).testBit t = (D 2 t).testBit s) ∧ ∀ t, t < N → (D 2 t).testBit t = false
def Tx (h : jv_H) : Prop := ∃ L, L ≤ 120 ∧ h.1 9 1 = nI L ∧ h.1 40 16 = nI L ∧ ∀ j, j < L → h.1 18 j = h.1 52 j ∧ ∃ c, c ≤ 255 ∧ h.1 52 j = nI c
def Hd (h : jv_H) : Prop := ∃ K, K ≤ 4 ∧ h.1 31 3 = nI K ∧ h.1 40 13 = nI K ∧ ∀ j, j < K → h.1 32 j = h.1 50 j ∧ h.1 33 j = h.1 51 j ∧ (∃ b, b ≤ 99 ∧ h.1 50 j = nI b) ∧ (h.1 51 j = 0 ∨ h.1 51 j = 1)
/-- whether image i is kept, by the bits of a word -/
def kq (w : Int32) (i : Nat) : Int32 := w &&& ((1 : Int32) <<< (nI i &&& 31))
theorem kq_0 : ∀ i, i < 2 → kq 0 i = 0 := by decide +kernel
theorem kq_set : ∀ b, b < 4 → ∀ i, i < 2 → (b ||| 2 ^ i) < 4 ∧ (nI b ||| ((1 : Int32) <<< (nI i &&& 31))) = nI (b ||| 2 ^ i) ∧ (¬ kq (nI (b ||| 2 ^ i)) i = 0) ∧ ∀ j, j < 2 → ¬ j = i → kq (nI (b ||| 2 ^ i)) j = kq (nI b) j := by decide +kernel
def Im (h : jv_H) (N M : Nat) : Prop := (∃ b, b < 4 ∧ h.1 0 11 = nI b) ∧ ∀ i, i < 2 → (kq (h.1 0 11) i = 0 ∧ h.1 49 i = 0) ∨ (¬ kq (h.1 0 11) i = 0 ∧ h.1 49 i = 1 ∧ ∃ P, Cr h N M (35 + 2 * i) (36 + 2 * i) 48 (210 * i) P)
def Inv (h : jv_H) : Prop := ∃ N M D, Tl h N M D ∧ (∃ P, Cr h N M 20 21 47 0 P) ∧ Im h N M ∧ Tx h ∧ Hd h ∧ h.2 34 1 = h.2 40 14
/-- cells (and places) that no later call reads before it writes them -/
def jq_s (k j : Nat) : Prop := (2 = k) ∨ (10 ≤ k ∧ k ≤ 17) ∨ k = 19 ∨ (23 ≤ k ∧ k ≤ 30) ∨ k = 39 ∨ (53 ≤ k ∧ k ≤ 60) ∨ (k = 9 ∧ ¬ j = 1) ∨ (k = 40 ∧ 17 ≤ j)
def Sm (h h' : jv_H) : Prop := (∀ k j, ¬ jq_s k j → h'.1 k j = h.1 k j) ∧ h'.2 = h.2
theorem Sm.rf (h : jv_H) : Sm h h := ⟨fun _ _ _ => rfl, rfl⟩
theorem Sm.tr {h h1 h2 : jv_H} (a : Sm h h1) (b : Sm h1 h2) : Sm h h2 := ⟨fun k j q => (b.1 k j q).trans (a.1 k j q), b.2.trans a.2⟩
theorem Sm.p {h h1 : jv_H} (a : Sm h h1) (k j : Nat) (v : Int32) (hs : jq_s k j) : Sm h (jv_p h1 k j v) := ⟨fun k' j' q => by
  rw [← a.1 k' j' q]
  by_cases e : k' = k
  · subst e
    exact q_p_j _ (fun e2 => q (by rw [e2]; exact hs))
  · rw [q_p_k _ e], a.2⟩
theorem Tl.sm {h h' : jv_H} {N M : Nat} {D : Nat → Nat → Nat} (a : Tl h N M D) (s : Sm h h') : Tl h' N M D := by
  obtain ⟨a1, a2, a3, a4, a5, a6, a7, a8, a9, a10⟩ := a
  refine ⟨a1, a2, ?_, ?_, ?_, ?_, fun t ht => ?_, fun n hn => ?_, a9, a10⟩
  · rw [s.1 _ _ (by unfold jq_s; omega)]; exact a3
  · rw [s.1 _ _ (by unfold jq_s; omega)]; exact a4
  · rw [s.1 _ _ (by unfold jq_s; omega)]; exact a5
  · rw [s.1 _ _ (by unfold jq_s; omega)]; exact a6
  · rw [s.1 3 t (by unfold jq_s; omega), s.1 41 t (by unfold jq_s; omega), s.1 4 t (by unfold jq_s; omega), s.1 42 t (by unfold jq_s; omega), s.1 5 t (by unfold jq_s; omega), s.1 43 t (by unfold jq_s; omega)]
    exact a7 t ht
  · rw [s.1 6 n (by unfold jq_s; omega), s.1 44 n (by unfold jq_s; omega), s.1 7 n (by unfold jq_s; omega), s.1 45 n (by unfold jq_s; omega), s.1 8 n (by unfold jq_s; omega), s.1 46 n (by unfold jq_s; omega)]
    exact a8 n hn
theorem Rw.cg {N M : Nat} {ρ σ : Nat → Int32} (hN : N ≤ 6) (e : ∀ j, j < 19 → σ j = ρ j) (a : Rw N M ρ) : Rw N M σ := by
  obtain ⟨⟨y, w1, w2⟩, w3, w4⟩ := a
  refine ⟨⟨y, w1, (e 0 (by omega)).trans w2⟩, fun t ht => ?_, fun s t hs ht he => ?_⟩
  · rw [e (1 + t) (by omega), e (7 + t) (by omega), e (13 + t) (by omega)]; exact w3 t ht
  · rw [e (13 + s) (by omega), e (13 + t) (by omega)] at he; exact w4 s t hs ht he
theorem Re.cg {N : Nat} {ρ σ ρ' σ' : Nat → Int32} (hN : N ≤ 6) (e1 : ∀ j, j < 19 → ρ' j = ρ j) (e2 : ∀ j, j < 19 → σ' j = σ j) (a : Re N ρ σ) : Re N ρ' σ' := by
  refine ⟨by rw [e1 0 (by omega), e2 0 (by omega)]; exact a.1, fun t ht => ?_⟩
  rw [e1 (1 + t) (by omega), e1 (7 + t) (by omega), e1 (13 + t) (by omega), e2 (1 + t) (by omega), e2 (7 + t) (by omega), e2 (13 + t) (by omega)]
  exact a.2 t ht
theorem Cr.eq {h h' : jv_H} {N M pc rc mc off P : Nat} (a : Cr h N M pc rc mc off P) (h1 : h'.1 pc 1 = h.1 pc 1) (h2 : ∀ j, j < 209 → h'.1 rc j = h.1 rc j) (h3 : ∀ j, off ≤ j → j < off + 210 → h'.1 mc j = h.1 mc j) : Cr h' N M pc rc mc off P := by
  obtain ⟨a0, a1, a2, a3, a4, a5, a6⟩ := a
  refine ⟨a0, a1, h1.trans a2, (h3 _ (by omega) (by omega)).trans a3, a4.cg a0 (fun j hj => h3 _ (by omega) (by omega)), a5.cg a0 (fun j hj => h2 _ (by omega)) (fun j hj => h3 _ (by omega) (by omega)), fun r hr => ?_⟩
  exact ⟨(a6 r hr).1.cg a0 (fun j hj => h3 _ (by omega) (by omega)), (a6 r hr).2.cg a0 (fun j hj => h2 _ (by omega)) (fun j hj => h3 _ (by omega) (by omega))⟩
theorem Cr.sm {h h' : jv_H} {N M P : Nat} (a : Cr h N M 20 21 47 0 P) (s : Sm h h') : Cr h' N M 20 21 47 0 P := a.eq (s.1 _ _ (by unfold jq_s; omega)) (fun j _ => s.1 _ _ (by unfold jq_s; omega)) (fun j _ _ => s.1 _ _ (by unfold jq_s; omega))
theorem Im.eq {h h' : jv_H} {N M : Nat} (a : Im h N M) (h1 : ∀ k, (k = 0 ∨ 35 ≤ k) → k ≤ 38 → h'.1 k = h.1 k) (h2 : h'.1 48 = h.1 48) (h3 : h'.1 49 = h.1 49) : Im h' N M := by
  refine ⟨by rw [h1 0 (by omega) (by omega)]; exact a.1, fun i hi => ?_⟩
  rw [h1 0 (by omega) (by omega), h3]
  rcases a.2 i hi with q | ⟨q1, q2, P, q3⟩
  · exact Or.inl q
  · exact Or.inr ⟨q1, q2, P, q3.eq (by rw [h1 (35 + 2 * i) (by omega) (by omega)]) (fun j _ => by rw [h1 (36 + 2 * i) (by omega) (by omega)]) (fun j _ _ => by rw [h2])⟩
theorem Im.sm {h h' : jv_H} {N M : Nat} (a : Im h N M) (s : Sm h h') : Im h' N M := a.eq (fun k h1 h2 => funext fun j => s.1 _ _ (by unfold jq_s; omega)) (funext fun j => s.1 _ _ (by unfold jq_s; omega)) (funext fun j => s.1 _ _ (by unfold jq_s; omega))
theorem Tx.eq {h h' : jv_H} (a : Tx h) (h1 : h'.1 9 1 = h.1 9 1) (h2 : h'.1 40 16 = h.1 40 16) (h3 : h'.1 18 = h.1 18) (h4 : h'.1 52 = h.1 52) : Tx h' := by
  obtain ⟨L, q1, q2, q3, q4⟩ := a
  exact ⟨L, q1, h1.trans q2, h2.trans q3, by rw [h3, h4]; exact q4⟩
theorem Tx.sm {h h' : jv_H} (a : Tx h) (s : Sm h h') : Tx h' := a.eq (s.1 _ _ (by unfold jq_s; omega)) (s.1 _ _ (by unfold jq_s; omega)) (funext fun j => s.1 _ _ (by unfold jq_s; omega)) (funext fun j => s.1 _ _ (by unfold jq_s; omega))
theorem Hd.eq {h h' : jv_H} (a : Hd h) (h1 : h'.1 31 3 = h.1 31 3) (h2 : h'.1 40 13 = h.1 40 13) (h3 : h'.1 32 = h.1 32) (h4 : h'.1 33 = h.1 33) (h5 : h'.1 50 = h.1 50) (h6 : h'.1 51 = h.1 51) : Hd h' := by
  obtain ⟨K, q1, q2, q3, q4⟩ := a
  exact ⟨K, q1, h1.trans q2, h2.trans q3, by rw [h3, h4, h5, h6]; exact q4⟩
theorem Hd.sm {h h' : jv_H} (a : Hd h) (s : Sm h h') : Hd h' := a.eq (s.1 _ _ (by unfold jq_s; omega)) (s.1 _ _ (by unfold jq_s; omega)) (funext fun j => s.1 _ _ (by unfold jq_s; omega)) (funext fun j => s.1 _ _ (by unfold jq_s; omega)) (funext fun j => s.1 _ _ (by unfold jq_s; omega)) (funext fun j => s.1 _ _ (by unfold jq_s; omega))
theorem Inv.sm {h h' : jv_H} (a : Inv h) (s : Sm h h') : Inv h' := by
  obtain ⟨N, M, D, a1, ⟨P, a2⟩, a3, a4, a5, a6⟩ := a
  exact ⟨N, M, D, a1.sm s, ⟨P, a2.sm s⟩, a3.sm s, a4.sm s, a5.sm s, by rw [s.2]; exact a6⟩
theorem Tl.eq {h h' : jv_H} {N M : Nat} {D : Nat → Nat → Nat} (a : Tl h N M D) (h1 : ∀ k, 1 ≤ k → k ≤ 8 → ¬ k = 2 → h'.1 k = h.1 k) (h2 : h'.1 40 0 = h.1 40 0) (h3 : h'.1 40 1 = h.1 40 1) (h4 : ∀ k, 41 ≤ k → k ≤ 46 → h'.1 k = h.1 k) : Tl h' N M D := by
  obtain ⟨a1, a2, a3, a4, a5, a6, a7, a8, a9, a10⟩ := a
  refine ⟨a1, a2, ?_, ?_, h2.trans a5, h3.trans a6, fun t ht => ?_, fun n hn => ?_, a9, a10⟩
  · rw [h1 1 (by omega) (by omega) (by omega)]; exact a3
  · rw [h1 1 (by omega) (by omega) (by omega)]; exact a4
  · rw [h1 3 (by omega) (by omega) (by omega), h1 4 (by omega) (by omega) (by omega), h1 5 (by omega) (by omega) (by omega), h4 41 (by omega) (by omega), h4 42 (by omega) (by omega), h4 43 (by omega) (by omega)]; exact a7 t ht
  · rw [h1 6 (by omega) (by omega) (by omega), h1 7 (by omega) (by omega) (by omega), h1 8 (by omega) (by omega) (by omega), h4 44 (by omega) (by omega), h4 45 (by omega) (by omega), h4 46 (by omega) (by omega)]; exact a8 n hn
