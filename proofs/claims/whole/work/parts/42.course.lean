/-! the course: cells of a row, what is remembered, images -/
theorem w0 : (0 : Int32) = nI 0 := rfl
theorem w1 : (1 : Int32) = nI 1 := rfl
theorem w2 : (2 : Int32) = nI 2 := rfl
theorem w3 : (3 : Int32) = nI 3 := rfl
theorem w4 : (4 : Int32) = nI 4 := rfl
theorem w5 : (5 : Int32) = nI 5 := rfl
theorem w6 : (6 : Int32) = nI 6 := rfl
theorem w7 : (7 : Int32) = nI 7 := rfl
theorem w8 : (8 : Int32) = nI 8 := rfl
theorem w10 : (10 : Int32) = nI 10 := rfl
theorem w13 : (13 : Int32) = nI 13 := rfl
theorem w18 : (18 : Int32) = nI 18 := rfl
theorem w19 : (19 : Int32) = nI 19 := rfl
theorem w20 : (20 : Int32) = nI 20 := rfl
theorem w24 : (24 : Int32) = nI 24 := rfl
theorem w25 : (25 : Int32) = nI 25 := rfl
theorem w26 : (26 : Int32) = nI 26 := rfl
theorem w30 : (30 : Int32) = nI 30 := rfl
theorem w31 : (31 : Int32) = nI 31 := rfl
theorem w39 : (39 : Int32) = nI 39 := rfl
theorem w49 : (49 : Int32) = nI 49 := rfl
theorem w50 : (50 : Int32) = nI 50 := rfl
theorem w59 : (59 : Int32) = nI 59 := rfl
theorem w97 : (97 : Int32) = nI 97 := rfl
theorem w99 : (99 : Int32) = nI 99 := rfl
theorem w100 : (100 : Int32) = nI 100 := rfl
theorem w119 : (119 : Int32) = nI 119 := rfl
theorem w120 : (120 : Int32) = nI 120 := rfl
theorem w122 : (122 : Int32) = nI 122 := rfl
theorem w171 : (171 : Int32) = nI 171 := rfl
theorem w190 : (190 : Int32) = nI 190 := rfl
theorem w198 : (198 : Int32) = nI 198 := rfl
theorem w209 : (209 : Int32) = nI 209 := rfl
theorem w210 : (210 : Int32) = nI 210 := rfl
theorem w255 : (255 : Int32) = nI 255 := rfl
theorem s_p (h : jv_H) (k j : Nat) (v : Int32) (f : Nat → Int32) : jv_s (jv_p h k j v) k f = jv_s h k f := by
  unfold jv_p jv_s
  congr 1
  funext a
  by_cases ha : a = k <;> simp [ha]
theorem s_at (h : jv_H) (k : Nat) (f : Nat → Int32) : (jv_s h k f).1 k = f := jv_s_same h k f
theorem s_ne (h : jv_H) {k a : Nat} (f : Nat → Int32) (ha : ¬ a = k) : (jv_s h k f).1 a = h.1 a := jv_s_ne h f ha
theorem s_2 (h : jv_H) (k : Nat) (f : Nat → Int32) : (jv_s h k f).2 = h.2 := rfl
theorem q_cell {h : jv_H} {P j : Nat} (hP : h.1 20 1 = nI P) (h10 : P ≤ 10) (hj : j < 19) : f1_cell_20 (nI j) h = some (h.1 21 (19 * P + j), h) := by
  unfold f1_cell_20
  simp only [jv_let, hP]
  simp (disch := omega) only [w19, w209, pk_mul, nI_add, q_lt0, q_le, q_ix, q_cl, if_pos, if_neg]
  simp (disch := omega) only [if_false, if_neg, if_pos]
  rw [show P * 19 + j = 19 * P + j by omega]
theorem q_setCell {h : jv_H} {P j : Nat} (v : Int32) (hP : h.1 20 1 = nI P) (h10 : P ≤ 10) (hj : j < 19) : f1_setCell_20 (nI j) v h = some ((), jv_p h 21 (19 * P + j) v) := by
  unfold f1_setCell_20
  simp only [jv_let, hP]
  simp (disch := omega) only [w19, w209, pk_mul, nI_add, q_lt0, q_le, q_ix, q_cl]
  simp only [if_false]
  rw [if_neg (by omega), if_pos (by omega), show P * 19 + j = 19 * P + j by omega]
theorem q_year {h : jv_H} {P : Nat} (hP : h.1 20 1 = nI P) (h10 : P ≤ 10) : f1_year_20 h = some (h.1 21 (19 * P + 0), h) := by
  unfold f1_year_20
  rw [w0, q_cell hP h10 (by omega)]
  rfl
theorem q_heat {h : jv_H} {P t : Nat} (hP : h.1 20 1 = nI P) (h10 : P ≤ 10) (ht : t < 6) : f1_heat_20 (nI t) h = some (h.1 21 (19 * P + (1 + t)), h) := by
  unfold f1_heat_20
  rw [w1, nI_add, q_cell hP h10 (by omega)]
  rfl
theorem q_place {h : jv_H} {P t : Nat} (hP : h.1 20 1 = nI P) (h10 : P ≤ 10) (ht : t < 6) : f1_place_20 (nI t) h = some (h.1 21 (19 * P + (7 + t)), h) := by
  unfold f1_place_20
  rw [w7, nI_add, q_cell hP h10 (by omega)]
  rfl
theorem q_owner {h : jv_H} {P t : Nat} (hP : h.1 20 1 = nI P) (h10 : P ≤ 10) (ht : t < 6) : f1_owner_20 (nI t) h = some (h.1 21 (19 * P + (13 + t)), h) := by
  unfold f1_owner_20
  rw [w13, nI_add, q_cell hP h10 (by omega)]
  rfl
theorem q_setYear {h : jv_H} {P : Nat} (v : Int32) (hP : h.1 20 1 = nI P) (h10 : P ≤ 10) : f1_setYear_20 v h = some ((), jv_p h 21 (19 * P + 0) v) := by
  unfold f1_setYear_20
  rw [w0, q_setCell v hP h10 (by omega)]
  rfl
theorem q_setHeat {h : jv_H} {P t : Nat} (v : Int32) (hP : h.1 20 1 = nI P) (h10 : P ≤ 10) (ht : t < 6) : f1_setHeat_20 (nI t) v h = some ((), jv_p h 21 (19 * P + (1 + t)) v) := by
  unfold f1_setHeat_20
  rw [w1, nI_add, q_setCell v hP h10 (by omega)]
  rfl
theorem q_setPlace {h : jv_H} {P t : Nat} (v : Int32) (hP : h.1 20 1 = nI P) (h10 : P ≤ 10) (ht : t < 6) : f1_setPlace_20 (nI t) v h = some ((), jv_p h 21 (19 * P + (7 + t)) v) := by
  unfold f1_setPlace_20
  rw [w7, nI_add, q_setCell v hP h10 (by omega)]
  rfl
theorem q_setOwner {h : jv_H} {P t : Nat} (v : Int32) (hP : h.1 20 1 = nI P) (h10 : P ≤ 10) (ht : t < 6) : f1_setOwner_20 (nI t) v h = some ((), jv_p h 21 (19 * P + (13 + t)) v) := by
  unfold f1_setOwner_20
  rw [w13, nI_add, q_setCell v hP h10 (by omega)]
  rfl
theorem q_mheat {h : jv_H} {t : Nat} (ht : t < 6) : f9_heat_40 (nI t) h = some (h.1 47 (1 + t), h) := by
  unfold f9_heat_40
  simp (disch := omega) only [w1, nI_add, q_ix, q_cl]
  rw [if_pos (by omega)]
theorem q_cp {a b n n0 n1 : Nat} (ha : a < 2147483648) (hb : b < 2147483648) (hn : n < 2147483648) : jv_cp (nI a) (nI b) (nI n) n0 n1 = (a + n ≤ n0 ∧ b + n ≤ n1) := by
  show (0 ≤ (nI a).toInt ∧ 0 ≤ (nI b).toInt ∧ 0 ≤ (nI n).toInt ∧ (nI a).toInt + (nI n).toInt ≤ n0 ∧ (nI b).toInt + (nI n).toInt ≤ n1) = _
  rw [q_ti ha, q_ti hb, q_ti hn]
  exact propext (by omega)
/-- what remember() leaves: s rows were lost (0 or 1) -/
theorem q_remember {h : jv_H} {P : Nat} (hP : h.1 20 1 = nI P) (h10 : P ≤ 10) : ∃ h1 P' s, f1_remember_20 h = some ((), h1) ∧ P' + s = P + 1 ∧ P' ≤ 10 ∧ 1 ≤ P' ∧ s = P / 10 ∧ h1.1 20 1 = nI P' ∧ (∀ k, ¬ k = 20 → ¬ k = 21 → h1.1 k = h.1 k) ∧ h1.2 = h.2 ∧ (∀ j, j < 19 → h1.1 21 (19 * P' + j) = h.1 21 (19 * P + j)) ∧ ∀ r, r < P' → ∀ j, j < 19 → h1.1 21 (19 * r + j) = h.1 21 (19 * (r + s) + j) := by
  have key : ∀ (h : jv_H) (P : Nat), h.1 20 1 = nI P → P ≤ 9 → g1_remember_20_b32 h = some ((), jv_p (jv_y h 21 21 (nI (P * 19)) (nI ((P + 1) * 19)) (nI 19)) 20 1 (nI (P + 1))) := by
    intro h P hP h9
    unfold g1_remember_20_b32
    simp only [jv_let, hP, w19, w1, pk_mul, nI_add]
    simp (disch := omega) only [q_cp, if_pos, q_y_k, hP, nI_add]
  unfold f1_remember_20
  rw [hP, w10]
  by_cases h9 : P ≤ 9
  · rw [if_pos ((q_lt (by omega) (by omega)).mpr (by omega)), key h P hP h9]
    refine ⟨_, P + 1, 0, rfl, by omega, by omega, by omega, by omega, q_p_same _ _ _ _, fun k k1 k2 => by rw [q_p_k _ k1, q_y_k _ k2], rfl, fun j hj => ?_, fun r hr j hj => ?_⟩
    · rw [q_p_k _ (by omega), q_y_b, q_cl (by omega), q_cl (by omega), q_cl (by omega), if_pos (by omega)]
      exact congrArg (h.1 21) (by omega)
    · rw [q_p_k _ (by omega), q_y_b, q_cl (by omega), q_cl (by omega), q_cl (by omega), if_neg (by omega)]
      rfl
  · have h10' : P = 10 := by omega
    subst h10'
    rw [if_neg (fun q => absurd ((q_lt (by omega) (by omega)).mp q) (by omega)), w19, w0, w190, if_pos ((q_cp (by omega) (by omega) (by omega)).mpr (by omega))]
    simp only [jv_let]
    rw [show (9 : Int32) = nI 9 from rfl, key _ 9 (q_p_same _ _ _ _) (by omega)]
    refine ⟨_, 10, 1, rfl, by omega, by omega, by omega, by omega, q_p_same _ _ _ _, fun k k1 k2 => by rw [q_p_k _ k1, q_y_k _ k2, q_p_k _ k1, q_y_k _ k2], rfl, fun j hj => ?_, fun r hr j hj => ?_⟩
    · rw [q_p_k _ (by omega), q_y_b, q_cl (by omega), q_cl (by omega), q_cl (by omega), if_pos (by omega), q_p_k _ (by omega), q_y_b, q_cl (by omega), q_cl (by omega), q_cl (by omega), if_pos (by omega)]
      exact congrArg (h.1 21) (by omega)
    · rw [q_p_k _ (by omega), q_y_b, q_cl (by omega), q_cl (by omega), q_cl (by omega), if_neg (by omega), q_p_k _ (by omega), q_y_b, q_cl (by omega), q_cl (by omega), q_cl (by omega), if_pos (by omega)]
      exact congrArg (h.1 21) (by omega)
theorem q_save1 : ∀ (m k fuel : Nat) (h : jv_H), k + m = 171 → m < fuel → f9_save_40_l14 fuel (nI k) h = g9_save_40_b54 (jv_p (jv_s h 47 (fun i => if 20 + k ≤ i ∧ i < 191 then h.1 47 (i + 19) else h.1 47 i)) 47 19 (nI 9)) := by
  intro m
  induction m with
  | zero =>
    intro k fuel h hk hf
    obtain ⟨n, rfl⟩ : ∃ n, fuel = n + 1 := ⟨fuel - 1, by omega⟩
    show g9_save_40_b14 (f9_save_40_l14 n) (nI k) h = _
    unfold g9_save_40_b14
    simp (disch := omega) only [w171, w19, q_le, q_ix, q_cl, jv_let]
    rw [if_pos (by omega), if_pos (by omega)]
    congr 2
    have : (fun i => if 20 + k ≤ i ∧ i < 191 then h.1 47 (i + 19) else h.1 47 i) = h.1 47 := by
      funext i
      rw [if_neg (by omega)]
    rw [this]
    unfold jv_s
    ext a : 1
    · funext a
      by_cases ha : a = 47 <;> simp [ha]
    · rfl
  | succ m ih =>
    intro k fuel h hk hf
    obtain ⟨n, rfl⟩ : ∃ n, fuel = n + 1 := ⟨fuel - 1, by omega⟩
    show g9_save_40_b14 (f9_save_40_l14 n) (nI k) h = _
    unfold g9_save_40_b14
    simp (disch := omega) only [w171, w39, w20, w1, nI_add, q_le, q_ix, q_cl, jv_let]
    rw [if_neg (by omega), if_pos (by omega), if_pos (by omega), ih (k + 1) n _ (by omega) (by omega), s_p]
    congr 3
    funext i
    by_cases hi : i = 20 + k
    · subst hi
      simp (disch := omega) only [if_neg, if_pos, q_p_same]
      exact congrArg (h.1 47) (by omega)
    · by_cases h2 : 20 + k ≤ i ∧ i < 191
      · simp (disch := omega) only [if_pos, q_p_j]
      · simp (disch := omega) only [if_neg, q_p_j]
theorem q_save2 {U : Nat} (hU : U ≤ 9) : ∀ (m k fuel : Nat) (h : jv_H), h.1 47 19 = nI U → k + m = 19 → m < fuel → f9_save_40_l56 fuel (nI k) h = some ((), jv_p (jv_s h 47 (fun i => if 20 + 19 * U + k ≤ i ∧ i < 20 + 19 * U + 19 then h.1 47 (i - (20 + 19 * U)) else h.1 47 i)) 47 19 (nI (U + 1))) := by
  intro m
  induction m with
  | zero =>
    intro k fuel h h19 hk hf
    obtain ⟨n, rfl⟩ : ∃ n, fuel = n + 1 := ⟨fuel - 1, by omega⟩
    show g9_save_40_b56 (f9_save_40_l56 n) (nI k) h = _
    unfold g9_save_40_b56
    simp (disch := omega) only [w1, w19, q_le, q_ix, q_cl, jv_let, h19, nI_add]
    rw [if_pos (by omega), if_pos (by omega), if_pos (by omega)]
    congr 3
    have : (fun i => if 20 + 19 * U + k ≤ i ∧ i < 20 + 19 * U + 19 then h.1 47 (i - (20 + 19 * U)) else h.1 47 i) = h.1 47 := by
      funext i
      rw [if_neg (by omega)]
    rw [this]
    unfold jv_s
    ext a : 1
    · funext a
      by_cases ha : a = 47 <;> simp [ha]
    · rfl
  | succ m ih =>
    intro k fuel h h19 hk hf
    obtain ⟨n, rfl⟩ : ∃ n, fuel = n + 1 := ⟨fuel - 1, by omega⟩
    show g9_save_40_b56 (f9_save_40_l56 n) (nI k) h = _
    unfold g9_save_40_b56
    simp (disch := omega) only [w19, w20, w1, q_cl, h19, nI_add, pk_mul]
    simp (disch := omega) only [q_le, q_ix, q_cl, jv_let]
    rw [if_neg (by omega), if_pos (by omega), if_pos (by omega), if_pos (by omega), ih (k + 1) n _ (by rw [q_p_j _ (by omega)]; exact h19) (by omega) (by omega), s_p]
    congr 4
    funext i
    by_cases hi : i = 20 + 19 * U + k
    · subst hi
      simp (disch := omega) only [if_neg, if_pos, q_p_same]
      exact congrArg (h.1 47) (by omega)
    · by_cases h2 : 20 + 19 * U + k ≤ i ∧ i < 20 + 19 * U + 19
      · simp (disch := omega) only [if_pos, q_p_j]
      · simp (disch := omega) only [if_neg, q_p_j]
theorem q_save {h : jv_H} {P : Nat} (hP : h.1 47 19 = nI P) (h10 : P ≤ 10) : ∃ h1 P' s, f9_save_40 h = some ((), h1) ∧ P' + s = P + 1 ∧ P' ≤ 10 ∧ 1 ≤ P' ∧ s = P / 10 ∧ h1.1 47 19 = nI P' ∧ (∀ k, ¬ k = 47 → h1.1 k = h.1 k) ∧ h1.2 = h.2 ∧ (∀ j, j < 19 → h1.1 47 j = h.1 47 j) ∧ ∀ r, r < P' → ∀ j, j < 19 → h1.1 47 (20 + 19 * r + j) = if r + 1 = P' then h.1 47 j else h.1 47 (20 + 19 * (r + s) + j) := by
  unfold f9_save_40
  simp (disch := omega) only [w19, w10, w0, q_ix, q_cl, hP, q_eq, jv_let]
  rw [if_pos (by omega)]
  by_cases h9 : P ≤ 9
  · rw [if_neg (by omega)]
    unfold g9_save_40_b54
    simp only [jv_let]
    rw [w0, q_save2 h9 19 0 jv_fuel h hP (by omega) (by unfold jv_fuel; omega)]
    refine ⟨_, P + 1, 0, rfl, by omega, by omega, by omega, by omega, q_p_same _ _ _ _, fun k hk => by rw [q_p_k _ hk, s_ne _ _ hk], rfl, fun j hj => ?_, fun r hr j hj => ?_⟩
    · rw [q_p_j _ (by omega), s_at, if_neg (by omega)]
    · rw [q_p_j _ (by omega), s_at]
      by_cases hrp : r + 1 = P + 1
      · rw [if_pos (by omega), if_pos hrp]
        have hrP : r = P := by omega
        exact congrArg (h.1 47) (by subst hrP; omega)
      · rw [if_neg (by omega), if_neg hrp]
        rfl
  · have h10' : P = 10 := by omega
    subst h10'
    rw [if_pos rfl, q_save1 171 0 jv_fuel h (by omega) (by unfold jv_fuel; omega)]
    unfold g9_save_40_b54
    simp only [jv_let]
    rw [w0, q_save2 (U := 9) (by omega) 19 0 jv_fuel _ (q_p_same _ _ _ _) (by omega) (by unfold jv_fuel; omega)]
    refine ⟨_, 10, 1, rfl, by omega, by omega, by omega, by omega, q_p_same _ _ _ _, fun k hk => by rw [q_p_k _ hk, s_ne _ _ hk, q_p_k _ hk, s_ne _ _ hk], rfl, fun j hj => ?_, fun r hr j hj => ?_⟩
    · rw [q_p_j _ (by omega), s_at, if_neg (by omega), q_p_j _ (by omega), s_at, if_neg (by omega)]
    · rw [q_p_j _ (by omega), s_at]
      by_cases hrp : r + 1 = 10
      · rw [if_pos (by omega), if_pos hrp, q_p_j _ (by omega), s_at, if_neg (by omega)]
        have hrP : r = 9 := by omega
        exact congrArg (h.1 47) (by subst hrP; omega)
      · rw [if_neg (by omega), if_neg hrp, q_p_j _ (by omega), s_at, if_pos (by omega)]
        exact congrArg (h.1 47) (by omega)
