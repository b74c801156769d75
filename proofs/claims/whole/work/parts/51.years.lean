/-! years -/
/-- heats: those below t are k years on -/
def hk (D : Nat → Nat → Nat) (pl : Nat → Int32) (ht : Nat → Nat) (k t : Nat) : Nat → Nat := fun s => if s < t then agn (D 0 s) (tz D (pl s)) k (ht s) else ht s
theorem hk_0 (D : Nat → Nat → Nat) (pl : Nat → Int32) (ht : Nat → Nat) (t : Nat) : hk D pl ht 0 t = ht := by
  funext s
  unfold hk
  split <;> rfl
theorem hk_z (D : Nat → Nat → Nat) (pl : Nat → Int32) (ht : Nat → Nat) (k : Nat) : hk D pl ht k 0 = ht := by
  funext s
  unfold hk
  rw [if_neg (by omega)]
theorem hk_s (D : Nat → Nat → Nat) (pl : Nat → Int32) (ht : Nat → Nat) (k t : Nat) : hk D pl (hk D pl ht k t) 1 t = hk D pl ht (k + 1) t := by
  funext s
  unfold hk
  by_cases q : s < t
  · simp only [if_pos q, agn_s]; rfl
  · simp only [if_neg q]
theorem hk_at (D : Nat → Nat → Nat) (pl : Nat → Int32) (ht : Nat → Nat) (k t : Nat) : hk D pl ht k t t = ht t := if_neg (by omega)
theorem hk_t (D : Nat → Nat → Nat) (pl : Nat → Int32) (ht : Nat → Nat) (k t s : Nat) : hk D pl ht k (t + 1) s = if s = t then agn (D 0 t) (tz D (pl t)) k (ht t) else hk D pl ht k t s := by
  unfold hk
  by_cases q : s = t
  · subst q
    rw [if_pos (by omega), if_pos rfl]
  · rw [if_neg q]
    by_cases r : s < t
    · rw [if_pos r, if_pos (by omega)]
    · rw [if_neg r, if_neg (by omega)]
theorem q_yl {N M P y k : Nat} {D : Nat → Nat → Nat} {ht : Nat → Nat} {pl : Nat → Int32} {ow : Nat → Nat} (hk9 : k ≤ 99) (hy : y + k ≤ 99) : ∀ (m t fuel : Nat) (h : jv_H), Vc h N M P y D (hk D pl ht k t) pl ow → t + m = N → m < fuel → ∃ h', f8_years_0_l38 fuel (nI k) (nI t) h = some (nI (pc (bs (fun s => decide (hk D pl ht k N s = 0)) N)), h') ∧ Vc h' N M P (y + k) D (hk D pl ht k N) pl ow ∧ (∀ c, ¬ c = 21 → h'.1 c = h.1 c) ∧ h'.2 = h.2 ∧ ∀ j, j < 19 * P → h'.1 21 j = h.1 21 j := by
  intro m
  induction m with
  | zero =>
    intro t fuel h V hi hf
    obtain ⟨n, rfl⟩ : ∃ n, fuel = n + 1 := ⟨fuel - 1, by omega⟩
    have : t = N := by omega
    subst this
    have n6 := V.n6
    have V' : Vc (jv_p h 21 (19 * P + 0) (nI (y + k))) t M P (y + k) D (hk D pl ht k t) pl ow := ⟨⟨V.p10, by rw [q_p_k _ (by omega)]; exact V.p⟩, V.2.mk (by rw [q_p_k _ (by omega)]) (by rw [q_p_k _ (by omega)]) (fun i hi => q_p_k _ (by omega)) ⟨hy, q_p_same _ _ _ _⟩ (fun t q => by rw [q_p_j _ (by omega)]; exact V.hea q) (fun t q => by rw [q_p_j _ (by omega)]; exact V.pla q) (fun t q => by rw [q_p_j _ (by omega)]; exact V.own q) V.inj⟩
    refine ⟨_, ?_, V', fun c hc => q_p_k _ hc, rfl, fun j hj => q_p_j _ (by omega)⟩
    show g8_years_0_b38 (f8_years_0_l38 n) (nI k) (nI t) h = _
    unfold g8_years_0_b38
    rw [V.nt, if_pos (by rw [q_le (by omega) (by omega)]; omega), q_year V.p V.p10, V.yr.2]
    simp only [Option.bind_some]
    rw [nI_add, q_setYear _ V.p V.p10]
    simp only [Option.bind_some]
    rw [b_broken V']
    simp only [Option.bind_some]
    rw [q_bitCount (bs_64 _ n6)]
    rfl
  | succ m ih =>
    intro t fuel h V hi hf
    obtain ⟨n, rfl⟩ : ∃ n, fuel = n + 1 := ⟨fuel - 1, by omega⟩
    have n6 := V.n6
    have htN : t < N := by omega
    have hx := V.hea htN
    have hat := hk_at D pl ht k t
    have V' : Vc (jv_p h 21 (19 * P + (1 + t)) (nI (agn (D 0 t) (tz D (pl t)) k (ht t)))) N M P y D (hk D pl ht k (t + 1)) pl ow := ⟨⟨V.p10, by rw [q_p_k _ (by omega)]; exact V.p⟩, V.2.mk (by rw [q_p_k _ (by omega)]) (by rw [q_p_k _ (by omega)]) (fun i hi => q_p_k _ (by omega)) ⟨V.yr.1, by rw [q_p_j _ (by omega)]; exact V.yr.2⟩ (fun s q => by
      rw [hk_t, q_p_if]
      by_cases e : s = t
      · rw [if_pos e, if_pos (by omega)]
        exact ⟨agn_le k (by rw [← hat]; exact hx.1), rfl⟩
      · rw [if_neg e, if_neg (by omega)]; exact V.hea q) (fun t q => by rw [q_p_j _ (by omega)]; exact V.pla q) (fun t q => by rw [q_p_j _ (by omega)]; exact V.own q) V.inj⟩
    obtain ⟨h', i1, i2, i3, i4, i5⟩ := ih (t + 1) n _ V' (by omega) (by omega)
    refine ⟨h', ?_, i2, fun c hc => by rw [i3 c hc, q_p_k _ hc], by rw [i4, q_p_2], fun j hj => by rw [i5 j hj, q_p_j _ (by omega)]⟩
    show g8_years_0_b38 (f8_years_0_l38 n) (nI k) (nI t) h = _
    unfold g8_years_0_b38
    rw [V.nt, if_neg (by rw [q_le (by omega) (by omega)]; omega), b_heatIn V htN hk9, hat]
    simp only [Option.bind_some]
    rw [q_setHeat _ V.p V.p10 (by omega)]
    simp only [Option.bind_some, jv_let]
    rw [w1, nI_add, i1]
theorem q_myl {N M y k i : Nat} {D : Nat → Nat → Nat} {ht : Nat → Nat} {pl : Nat → Int32} {ow : Nat → Nat} (k36 : Int32 → Int32 → jv_H → Option (Int32 × jv_H)) : ∀ (m t fuel : Nat) (h : jv_H), Vm h N M y D (hk D pl ht 1 t) pl ow → t + m = N → m < fuel → ∃ h', f9_years_40_l43 k36 fuel (nI k) (nI i) (nI t) h = k36 (nI k) (nI (i + 1)) h' ∧ Vm h' N M y D (hk D pl ht 1 N) pl ow ∧ (∀ c, ¬ c = 47 → h'.1 c = h.1 c) ∧ h'.2 = h.2 ∧ ∀ j, 19 ≤ j → h'.1 47 j = h.1 47 j := by
  intro m
  induction m with
  | zero =>
    intro t fuel h V hi hf
    obtain ⟨n, rfl⟩ : ∃ n, fuel = n + 1 := ⟨fuel - 1, by omega⟩
    have : t = N := by omega
    subst this
    have n6 := V.n6
    refine ⟨h, ?_, V, fun c hc => rfl, rfl, fun j hj => rfl⟩
    show g9_years_40_b43 k36 (f9_years_40_l43 k36 n) (nI k) (nI i) (nI t) h = _
    unfold g9_years_40_b43
    rw [V.nt, if_pos (by rw [q_le (by omega) (by omega)]; omega)]
    simp only [jv_let]
    rw [w1, nI_add]
  | succ m ih =>
    intro t fuel h V hi hf
    obtain ⟨n, rfl⟩ : ∃ n, fuel = n + 1 := ⟨fuel - 1, by omega⟩
    have n6 := V.n6
    have htN : t < N := by omega
    have hx := V.hea htN
    have hp := V.pla htN
    have hat := hk_at D pl ht 1 t
    rw [hat] at hx
    have V' : Vm (jv_p h 47 (1 + t) (nI (ag (D 0 t) (tz D (pl t)) (ht t)))) N M y D (hk D pl ht 1 (t + 1)) pl ow := Vz.mk V (by rw [q_p_k _ (by omega)]) (by rw [q_p_k _ (by omega)]) (fun i hi => q_p_k _ (by omega)) ⟨V.yr.1, by rw [q_p_j _ (by omega)]; exact V.yr.2⟩ (fun s q => by
      rw [hk_t, Nat.zero_add, q_p_if]
      by_cases e : s = t
      · rw [if_pos e, if_pos (by omega)]
        exact ⟨ag_le hx.1, rfl⟩
      · rw [if_neg e, if_neg (by omega)]; exact V.hea q) (fun t q => by rw [Nat.zero_add, q_p_j _ (by omega)]; exact V.pla q) (fun t q => by rw [Nat.zero_add, q_p_j _ (by omega)]; exact V.own q) V.inj
    obtain ⟨h', i1, i2, i3, i4, i5⟩ := ih (t + 1) n _ V' (by omega) (by omega)
    refine ⟨h', ?_, i2, fun c hc => by rw [i3 c hc, q_p_k _ hc], by rw [i4, q_p_2], fun j hj => by rw [i5 j hj, q_p_j _ (by omega)]⟩
    show g9_years_40_b43 k36 (f9_years_40_l43 k36 n) (nI k) (nI i) (nI t) h = _
    unfold g9_years_40_b43
    rw [V.nt, if_neg (by rw [q_le (by omega) (by omega)]; omega), q_mheat (by omega), hx.2]
    simp only [Option.bind_some]
    rw [show (7 : Int32) + nI t = nI (7 + t) from by rw [w7, nI_add], show (1 : Int32) + nI t = nI (1 + t) from by rw [w1, nI_add], if_pos (by rw [q_ix (by omega)]; omega), q_cl (by omega), hp.1, q_aged V htN hx.1 hp.2]
    simp only [Option.bind_some, jv_let]
    rw [if_pos (by rw [q_ix (by omega)]; omega), q_cl (by omega), w1, nI_add, i1]
theorem q_myo {N M y k : Nat} {D : Nat → Nat → Nat} {ht : Nat → Nat} {pl : Nat → Int32} {ow : Nat → Nat} (hk9 : k ≤ 99) (hy : y + k ≤ 99) : ∀ (m i fuel : Nat) (h : jv_H), Vm h N M y D (hk D pl ht i N) pl ow → i + m = k → m < fuel → ∃ h', f9_years_40_l36 fuel (nI k) (nI i) h = some (nI (pc (bs (fun s => decide (hk D pl ht k N s = 0)) N)), h') ∧ Vm h' N M (y + k) D (hk D pl ht k N) pl ow ∧ (∀ c, ¬ c = 47 → h'.1 c = h.1 c) ∧ h'.2 = h.2 ∧ ∀ j, 19 ≤ j → h'.1 47 j = h.1 47 j := by
  intro m
  induction m with
  | zero =>
    intro i fuel h V hi hf
    obtain ⟨n, rfl⟩ : ∃ n, fuel = n + 1 := ⟨fuel - 1, by omega⟩
    have : i = k := by omega
    subst this
    have n6 := V.n6
    have V' : Vm (jv_p h 47 0 (nI (y + i))) N M (y + i) D (hk D pl ht i N) pl ow := Vz.mk V (by rw [q_p_k _ (by omega)]) (by rw [q_p_k _ (by omega)]) (fun i hi => q_p_k _ (by omega)) ⟨hy, q_p_same _ _ _ _⟩ (fun t q => by rw [Nat.zero_add, q_p_j _ (by omega)]; exact V.hea q) (fun t q => by rw [Nat.zero_add, q_p_j _ (by omega)]; exact V.pla q) (fun t q => by rw [Nat.zero_add, q_p_j _ (by omega)]; exact V.own q) V.inj
    refine ⟨_, ?_, V', fun c hc => q_p_k _ hc, rfl, fun j hj => q_p_j _ (by omega)⟩
    have yr : h.1 47 0 = nI y := V.yr.2
    show g9_years_40_b36 (f9_years_40_l36 n) (nI i) (nI i) h = _
    unfold g9_years_40_b36
    rw [if_pos (by rw [q_le (by omega) (by omega)]; omega), if_pos (by decide), if_pos (by decide)]
    simp only [jv_let, show Int32.toNatClampNeg (0 : Int32) = 0 from rfl, yr, nI_add]
    rw [b_mbroken V']
    simp only [Option.bind_some]
    rw [q_bits (bs_64 _ n6)]
    rfl
  | succ m ih =>
    intro i fuel h V hi hf
    obtain ⟨n, rfl⟩ : ∃ n, fuel = n + 1 := ⟨fuel - 1, by omega⟩
    have n6 := V.n6
    have V0 : Vm h N M y D (hk D pl (hk D pl ht i N) 1 0) pl ow := by rw [hk_z]; exact V
    obtain ⟨h1, j1, j2, j3, j4, j5⟩ := q_myl (k := k) (i := i) (f9_years_40_l36 n) N 0 jv_fuel h V0 (by omega) (by unfold jv_fuel; omega)
    rw [hk_s] at j2
    obtain ⟨h', i1, i2, i3, i4, i5⟩ := ih (i + 1) n _ j2 (by omega) (by omega)
    refine ⟨h', ?_, i2, fun c hc => by rw [i3 c hc, j3 c hc], by rw [i4, j4], fun j hj => by rw [i5 j hj, j5 j hj]⟩
    show g9_years_40_b36 (f9_years_40_l36 n) (nI k) (nI i) h = _
    unfold g9_years_40_b36
    rw [if_neg (by rw [q_le (by omega) (by omega)]; omega)]
    simp only [jv_let]
    rw [w0, j1, i1]
theorem p_years : ok_years Inv := by
  intro a h hI
  obtain ⟨N, M, D, a1, ⟨P, a2⟩, a3, a4, a5, a6⟩ := id hI
  obtain ⟨y, ht, pl, ow, V, W, CS⟩ := Vw.of a1 a2
  have t1 := V.n6
  have hy9 := V.yr.1
  have yr : h.1 47 0 = nI y := W.yr.2
  have h10 : ¬ (1 : Int32) = 0 := by decide
  by_cases hb : (1 : Int) ≤ a.toInt ∧ a.toInt ≤ 9
  · obtain ⟨k, hk10, rfl⟩ : ∃ t, t < 10 ∧ a = nI t := by
      rcases q_arg a 10 (by omega) with q | q
      · exact q
      · exact absurd hb (by omega)
    by_cases hy : y + k ≤ 99
    · have hy' : nI (y + k) ≤ 99 := by rw [w99, q_le (by omega) (by omega)]; exact hy
      obtain ⟨h1, P', s, f1, f2, f3, f4, f4', f5, f6, f7, f8, f9⟩ := q_remember V.p V.p10
      have V1 := V.rem f3 f5 f6 f8
      obtain ⟨hA, c1, V', c3, c4, c5⟩ := q_yl (k := k) (ht := ht) (by omega) hy N 0 jv_fuel h1 (by rw [hk_z]; exact V1) (by omega) (by unfold jv_fuel; omega)
      have k48 : hA.1 47 = h.1 47 := by rw [c3 _ (by omega), f6 _ (by omega) (by omega)]
      have W1 : Vm hA N M y D ht pl ow := Vz.eq W (by rw [c3 _ (by omega), f6 _ (by omega) (by omega)]) (by rw [c3 _ (by omega), f6 _ (by omega) (by omega)]) (fun i hi => by rw [c3 _ (by omega), f6 _ (by omega) (by omega)]) (fun j hj => by rw [k48])
      have hm : hA.1 47 19 = nI P := by rw [k48]; exact a2.2.2.2.1
      have yrA : hA.1 47 0 = nI y := W1.yr.2
      obtain ⟨h3, P'', s', g1, g2, g3, g4, g4', g5, g6, g7, g8, g9⟩ := q_save hm V.p10
      have hs : s' = s := by rw [g4', f4']
      subst hs
      have hP : P'' = P' := by omega
      subst hP
      have W3 : Vm h3 N M y D ht pl ow := Vz.eq W1 (by rw [g6 _ (by omega)]) (by rw [g6 _ (by omega)]) (fun i hi => g6 _ (by omega)) (fun j hj => by rw [Nat.zero_add, g8 j hj])
      obtain ⟨hB, d1, W', d3, d4, d5⟩ := q_myo (k := k) (ht := ht) (by omega) hy k 0 jv_fuel h3 (by rw [hk_0]; exact W3) (by omega) (by unfold jv_fuel; omega)
      have hBk : ∀ c, ¬ c = 47 → hB.1 c = hA.1 c := fun c hc => by rw [d3 c hc, g6 c hc]
      have V'' : Vc hB N M P'' (y + k) D (hk D pl ht k N) pl ow := ⟨⟨f3, by rw [hBk _ (by omega)]; exact V'.p⟩, V'.2.eq (by rw [hBk _ (by omega)]) (by rw [hBk _ (by omega)]) (fun i hi => hBk _ (by omega)) (fun j hj => by rw [hBk _ (by omega)])⟩
      refine ⟨nI (pc (bs (fun s => decide (hk D pl ht k N s = 0)) N)), hA, hB, ?_, ?_, Inv.step a1 a2 a3 a4 a5 a6 f2 (fun k q1 q2 q3 => by rw [hBk k q3, c3 k q2, f6 k q1 q2]) ?_ ?_ (fun r hr j hj => ?_) (fun r hr j hj => ?_) V'' W'⟩
      · unfold f8_years_0
        simp only [q_within, show (1 : Int32).toInt = 1 from rfl, show (9 : Int32).toInt = 9 from rfl, if_pos hb, Option.bind_some, if_neg h10, q_year V.p V.p10, V.yr.2, nI_add, if_pos hy', f1, jv_let]
        exact c1
      · unfold f9_years_40
        simp only [q_in, show (1 : Int64).toInt = 1 from rfl, show (9 : Int64).toInt = 9 from rfl, if_pos hb, Option.bind_some, if_neg h10, if_pos (show jv_ix (0 : Int32) 210 by decide), show Int32.toNatClampNeg (0 : Int32) = 0 from rfl, yrA, nI_add, if_pos hy', g1, jv_let]
        exact d1
      · rw [d4, g7, c4, f7]
      · rw [d5 _ (by omega)]; exact g5
      · rw [hBk _ (by omega), c5 _ (by omega), f9 r hr j hj]
      · rw [d5 _ (by omega), g9 r hr j hj, k48]
    · have hy' : ¬ nI (y + k) ≤ 99 := by rw [w99, q_le (by omega) (by omega)]; exact hy
      refine ⟨-2, h, h, ?_, ?_, hI⟩
      · unfold f8_years_0
        simp only [q_within, show (1 : Int32).toInt = 1 from rfl, show (9 : Int32).toInt = 9 from rfl, if_pos hb, Option.bind_some, if_neg h10, q_year V.p V.p10, V.yr.2, nI_add, if_neg hy']
      · unfold f9_years_40
        simp only [q_in, show (1 : Int64).toInt = 1 from rfl, show (9 : Int64).toInt = 9 from rfl, if_pos hb, Option.bind_some, if_neg h10, if_pos (show jv_ix (0 : Int32) 210 by decide), show Int32.toNatClampNeg (0 : Int32) = 0 from rfl, yr, nI_add, if_neg hy']
  · refine ⟨-1, h, h, ?_, ?_, hI⟩
    · unfold f8_years_0
      simp only [q_within, show (1 : Int32).toInt = 1 from rfl, show (9 : Int32).toInt = 9 from rfl, if_neg hb, Option.bind_some]
      rfl
    · unfold f9_years_40
      simp only [q_in, show (1 : Int64).toInt = 1 from rfl, show (9 : Int64).toInt = 9 from rfl, if_neg hb, Option.bind_some]
      rfl
