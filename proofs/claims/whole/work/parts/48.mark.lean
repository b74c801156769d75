/-! best, mark -/
section BE
variable {h : jv_H} {N M P y : Nat} {D : Nat → Nat → Nat} {ht : Nat → Nat} {pl : Nat → Int32} {ow : Nat → Nat}
/-- what it is worth to fetch t in k years -/
def wo (D : Nat → Nat → Nat) (ht : Nat → Nat) (pl : Nat → Int32) (y t k : Nat) : Int32 :=
  if y + k ≤ D 1 t then (if (0 : Int32) < 50 - nI (agn (D 0 t) (tz D (pl t)) k (ht t)) then 50 - nI (agn (D 0 t) (tz D (pl t)) k (ht t)) else 0) - 2 * nI k
  else (if (0 : Int32) < 50 - nI (agn (D 0 t) (tz D (pl t)) k (ht t)) then 50 - nI (agn (D 0 t) (tz D (pl t)) k (ht t)) else 0) - 2 * nI k - 30
theorem b_worth (V : Vc h N M P y D ht pl ow) {t k : Nat} (htN : t < N) (hk : k ≤ 99) : f3_worthOfFetching_22 (nI t) (nI k) h = some (wo D ht pl y t k, h) := by
  have t1 := V.n6
  have hd := V.du htN
  have hy := V.yr
  have b1 : 0 ≤ (nI t).toInt ∧ (nI t).toInt < N := by rw [q_ti (by omega)]; omega
  have h10 : ¬ (1 : Int32) = 0 := by decide
  unfold f3_worthOfFetching_22 wo
  simp only [q_hasT _ V.nt t1, Option.bind_some, if_pos b1, if_neg h10, b_heatIn V htN hk, jv_let, q_year V.p V.p10, hy.2, nI_add, if_pos (show jv_ix (nI t) 6 by rw [q_ix (by omega)]; omega), q_cl (show t < 2147483648 by omega), hd.1, q_le (show y + k < 2147483648 by omega) (show D 1 t < 2147483648 by omega)]
  by_cases c : y + k ≤ D 1 t
  · rw [if_pos c, if_pos c]
  · rw [if_neg c, if_neg c]
theorem b_mworth (V : Vm h N M y D ht pl ow) {t k : Nat} (htN : t < N) (hk : k ≤ 99) : f9_worthBehind_40 (nI t) (nI k) h = some (wo D ht pl y t k, h) := by
  have t1 := V.n6
  have hd := V.du htN
  have hy := V.yr
  have key : ∀ s0 : Int32, g9_worthBehind_40_b19 (nI t) (nI k) s0 h = some (if y + k ≤ D 1 t then s0 - 2 * nI k else s0 - 2 * nI k - 30, h) := by
    intro s0
    unfold g9_worthBehind_40_b19
    simp only [jv_let, if_pos (show jv_ix (0 : Int32) 210 by decide), show (0 : Int32).toNatClampNeg = 0 from rfl, hy.2, nI_add, if_pos (show jv_ix (nI t) 6 by rw [q_ix (by omega)]; omega), q_cl (show t < 2147483648 by omega), hd.1, q_le (show y + k < 2147483648 by omega) (show D 1 t < 2147483648 by omega)]
    by_cases c : y + k ≤ D 1 t
    · rw [if_pos c, if_pos c]
    · rw [if_neg c, if_neg c]
  unfold f9_worthBehind_40 wo
  simp only [b_hotIn V htN hk, Option.bind_some, jv_let, key]
  generalize (50 : Int32) - nI (agn (D 0 t) (tz D (pl t)) k (ht t)) = z
  by_cases c : z ≤ 0
  · rw [if_pos c, if_neg (Int32.not_lt.mpr c)]
  · rw [if_neg c, if_pos (Int32.not_le.mp c)]
/-- the best so far, m years left to look at -/
def bb (w : Nat → Int32) : Nat → Nat → Nat → Nat
  | 0, _, b => b
  | m + 1, k, b => bb w m (k + 1) (if w k ≤ w b then b else k)
theorem q_best (V : Vc h N M P y D ht pl ow) {t : Nat} (htN : t < N) (wt : Int32) : ∀ (m k b fuel : Nat), k + m = 21 → m < fuel → b ≤ 20 → f8_best_0_l39 fuel (nI t) wt (nI b) (wo D ht pl y t b) (nI k) h = (if wt = 0 then some (nI (bb (wo D ht pl y t) m k b), h) else some (wo D ht pl y t (bb (wo D ht pl y t) m k b), h)) := by
  intro m
  induction m with
  | zero =>
    intro k b fuel hk hf hb
    obtain ⟨n, rfl⟩ : ∃ n, fuel = n + 1 := ⟨fuel - 1, by omega⟩
    show g8_best_0_b39 (f8_best_0_l39 n) (nI t) wt (nI b) _ (nI k) h = _
    unfold g8_best_0_b39
    rw [if_pos (by rw [w20, q_lt (by omega) (by omega)]; omega)]
    rfl
  | succ m ih =>
    intro k b fuel hk hf hb
    obtain ⟨n, rfl⟩ : ∃ n, fuel = n + 1 := ⟨fuel - 1, by omega⟩
    show g8_best_0_b39 (f8_best_0_l39 n) (nI t) wt (nI b) _ (nI k) h = _
    unfold g8_best_0_b39 g8_best_0_b72
    rw [if_neg (by rw [w20, q_lt (by omega) (by omega)]; omega)]
    simp only [b_worth V htN (show k ≤ 99 by omega), Option.bind_some, jv_let, bb]
    rw [w1, nI_add]
    by_cases c : wo D ht pl y t k ≤ wo D ht pl y t b
    · rw [if_pos c, if_pos c, ih (k + 1) b n (by omega) (by omega) hb]
    · rw [if_neg c, if_neg c, ih (k + 1) k n (by omega) (by omega) (by omega)]
theorem q_mbest (V : Vm h N M y D ht pl ow) {t : Nat} (htN : t < N) (wt : Int32) : ∀ (m k b fuel : Nat), k + m = 21 → m < fuel → b ≤ 20 → f9_best_40_l26 fuel (nI t) wt (nI b) (nI k) h = (if wt = 0 then some (nI (bb (wo D ht pl y t) m k b), h) else some (wo D ht pl y t (bb (wo D ht pl y t) m k b), h)) := by
  intro m
  induction m with
  | zero =>
    intro k b fuel hk hf hb
    obtain ⟨n, rfl⟩ : ∃ n, fuel = n + 1 := ⟨fuel - 1, by omega⟩
    show g9_best_40_b26 (f9_best_40_l26 n) (nI t) wt (nI b) (nI k) h = _
    unfold g9_best_40_b26
    rw [if_pos (by rw [w20, q_lt (by omega) (by omega)]; omega), b_mworth V htN (show b ≤ 99 by omega)]
    rfl
  | succ m ih =>
    intro k b fuel hk hf hb
    obtain ⟨n, rfl⟩ : ∃ n, fuel = n + 1 := ⟨fuel - 1, by omega⟩
    show g9_best_40_b26 (f9_best_40_l26 n) (nI t) wt (nI b) (nI k) h = _
    unfold g9_best_40_b26 g9_best_40_b55
    rw [if_neg (by rw [w20, q_lt (by omega) (by omega)]; omega)]
    simp only [b_mworth V htN (show k ≤ 99 by omega), b_mworth V htN (show b ≤ 99 by omega), Option.bind_some, jv_let, bb]
    rw [w1, nI_add]
    by_cases c : wo D ht pl y t k ≤ wo D ht pl y t b
    · rw [if_pos c, if_pos c, ih (k + 1) b n (by omega) (by omega) hb]
    · rw [if_neg c, if_neg c, ih (k + 1) k n (by omega) (by omega) (by omega)]
end BE
theorem p_best : ok_best Inv := by
  intro a b h hI
  obtain ⟨N, M, P, y, D, ht, pl, ow, V, W, -⟩ := hI.vw
  have t1 := V.n6
  have h10 : ¬ (1 : Int32) = 0 := by decide
  rcases q_arg a N (by omega) with ⟨t, htN, rfl⟩ | hb
  · have hb : 0 ≤ (nI t).toInt ∧ (nI t).toInt < N := by rw [q_ti (by omega)]; omega
    by_cases hb2 : 0 ≤ b.toInt ∧ b.toInt ≤ 1
    · have e1 : f8_best_0 (nI t) b h = (if b = 0 then some (nI (bb (wo D ht pl y t) 20 1 0), h) else some (wo D ht pl y t (bb (wo D ht pl y t) 20 1 0), h)) := by
        unfold f8_best_0
        simp only [q_hasT _ V.nt t1, q_within, Option.bind_some, if_pos hb, show (0 : Int32).toInt = 0 from rfl, show (1 : Int32).toInt = 1 from rfl, if_pos hb2, if_neg h10, jv_let]
        rw [w0, b_worth V htN (by omega)]
        simp only [Option.bind_some]
        rw [w1, q_best V htN b 20 1 0 jv_fuel (by omega) (by unfold jv_fuel; omega) (by omega)]
        rfl
      have e2 : f9_best_40 (nI t) b h = (if b = 0 then some (nI (bb (wo D ht pl y t) 20 1 0), h) else some (wo D ht pl y t (bb (wo D ht pl y t) 20 1 0), h)) := by
        unfold f9_best_40
        simp only [q_isT _ W.nt t1, q_in, Option.bind_some, if_pos hb, show (0 : Int64).toInt = 0 from rfl, show (1 : Int64).toInt = 1 from rfl, if_pos hb2, if_neg h10, jv_let]
        rw [w0, w1, q_mbest W htN b 20 1 0 jv_fuel (by omega) (by unfold jv_fuel; omega) (by omega)]
        rfl
      by_cases c : b = 0
      · rw [if_pos c] at e1 e2
        exact ⟨_, h, h, e1, e2, hI⟩
      · rw [if_neg c] at e1 e2
        exact ⟨_, h, h, e1, e2, hI⟩
    · refine ⟨-1000000, h, h, ?_, ?_, hI⟩
      · unfold f8_best_0
        simp only [q_hasT _ V.nt t1, q_within, Option.bind_some, if_pos hb, show (0 : Int32).toInt = 0 from rfl, show (1 : Int32).toInt = 1 from rfl, if_neg hb2]
        rfl
      · unfold f9_best_40
        simp only [q_isT _ W.nt t1, q_in, Option.bind_some, if_pos hb, show (0 : Int64).toInt = 0 from rfl, show (1 : Int64).toInt = 1 from rfl, if_neg hb2]
        rfl
  · refine ⟨-1000000, h, h, ?_, ?_, hI⟩
    · unfold f8_best_0
      simp only [q_hasT _ V.nt t1, Option.bind_some, if_neg hb]
      rfl
    · unfold f9_best_40
      simp only [q_isT _ W.nt t1, Option.bind_some, if_neg hb]
      rfl
theorem Vc.l {h : jv_H} {N M P y : Nat} {D : Nat → Nat → Nat} {ht : Nat → Nat} {pl : Nat → Int32} {ow : Nat → Nat} (V : Vc h N M P y D ht pl ow) (k j : Nat) (v : Int64) : Vc (jv_l h k j v) N M P y D ht pl ow := V
theorem Vm.l {h : jv_H} {N M y : Nat} {D : Nat → Nat → Nat} {ht : Nat → Nat} {pl : Nat → Int32} {ow : Nat → Nat} (V : Vm h N M y D ht pl ow) (k j : Nat) (v : Int64) : Vm (jv_l h k j v) N M y D ht pl ow := V
theorem Inv.l {h h1 h2 : jv_H} (hI : Inv h) (z : Int64) (e1 : h1 = jv_l h 34 1 z) (e2 : h2 = jv_l h1 40 14 z) : Inv h2 := by
  obtain ⟨N, M, D, a1, a2, a3, a4, a5, a6⟩ := hI
  subst e1; subst e2
  exact ⟨N, M, D, a1, a2, a3, a4, a5, by rw [q_l_ne _ (by omega), q_l_same, q_l_same]⟩
theorem l_l (h : jv_H) (k j : Nat) (u v : Int64) : jv_l (jv_l h k j u) k j v = jv_l h k j v := by
  unfold jv_l
  congr 1
  funext a b
  by_cases e : a = k ∧ b = j <;> simp [e]
theorem p_mark : ok_mark Inv := by
  intro a b h hI
  obtain ⟨N, M, P, y, D, ht, pl, ow, V, W, -⟩ := hI.vw
  have t1 := V.n6
  have h10 : ¬ (1 : Int32) = 0 := by decide
  have htr : h.2 40 14 = h.2 34 1 := by obtain ⟨_, _, _, _, _, _, _, _, q⟩ := hI; exact q.symm
  rcases q_arg b N (by omega) with ⟨t, htN, rfl⟩ | hb
  · have hb : 0 ≤ (nI t).toInt ∧ (nI t).toInt < N := by rw [q_ti (by omega)]; omega
    have t6 : t < 6 := by omega
    have hx := V.hea htN
    have hx2 := W.hea htN
    have hg := V.gr htN
    have hg2 := W.gr htN
    have hy := V.yr
    have hy2 := W.yr
    have hix : jv_ix (nI t) 6 := by rw [q_ix (by omega)]; omega
    have hcl : (nI t).toNatClampNeg = t := q_cl (by omega)
    have hbk := bs_64 (fun t => decide (ht t = 0)) t1
    have f1 : ∀ z : Int64, f1_heat_20 (nI t) (jv_l h 34 1 z) = some (nI (ht t), jv_l h 34 1 z) := fun z => by rw [q_heat (V.l 34 1 z).p V.p10 t6, ((V.l 34 1 z).hea htN).2]
    have f2 : ∀ z : Int64, f3_broken_22 (jv_l h 34 1 z) = _ := fun z => b_broken (V.l 34 1 z)
    have f3 : ∀ z : Int64, f1_year_20 (jv_l h 34 1 z) = some (nI y, jv_l h 34 1 z) := fun z => by rw [q_year (V.l 34 1 z).p V.p10, (V.l 34 1 z).yr.2]
    have f4 : ∀ z : Int64, f2_hasTemper_1 (nI t) (jv_l h 34 1 z) = some (1, jv_l h 34 1 z) := fun z => by rw [q_hasT _ (V.l 34 1 z).nt t1, if_pos hb]
    have m1 : ∀ (u z : Int64), f9_heat_40 (nI t) (jv_l (jv_l h 34 1 u) 40 14 z) = some (nI (ht t), jv_l (jv_l h 34 1 u) 40 14 z) := fun u z => by rw [q_mheat t6, (((W.l 34 1 u).l 40 14 z).hea htN).2]
    have m2 : ∀ (u z : Int64), f9_broken_40 (jv_l (jv_l h 34 1 u) 40 14 z) = _ := fun u z => b_mbroken ((W.l 34 1 u).l 40 14 z)
    have m3 : ∀ u : Int64, (jv_l h 34 1 u).2 40 14 = h.2 34 1 := fun u => by rw [q_l_ne _ (by omega)]; exact htr
    have ne : ∀ k : Nat, k ≤ 5 → (a = nI k ∨ ¬ a = nI k) := fun k _ => Classical.em _
    by_cases ha : 0 ≤ a.toInt ∧ a.toInt ≤ 5
    · obtain ⟨k, hk, rfl⟩ : ∃ t, t < 6 ∧ a = nI t := by
        rcases q_arg a 6 (by omega) with q | q
        · exact q
        · exact absurd ha (by omega)
      have mk : ∀ u : Int64, f9_mark_40 (nI k) (nI t) (jv_l h 34 1 u) = (f9_markAs_40 (nI k) (nI t) (jv_l h 34 1 u)).bind fun q3 => some (q3.1, q3.2) := fun u => by
        unfold f9_mark_40
        simp only [q_in, Option.bind_some, show (0 : Int64).toInt = 0 from rfl, show (5 : Int64).toInt = 5 from rfl, if_pos ha, if_neg h10, q_isT _ (W.l 34 1 u).nt t1, if_pos hb]
      rcases (show k = 0 ∨ k = 1 ∨ k = 2 ∨ k = 3 ∨ k = 4 ∨ k = 5 by omega) with rfl | rfl | rfl | rfl | rfl | rfl
      · refine ⟨nI (ht t), jv_l h 34 1 (h.2 34 1 + 1), jv_l (jv_l h 34 1 (h.2 34 1 + 1)) 40 14 (h.2 34 1 + 1), ?_, ?_, hI.l _ rfl rfl⟩
        · unfold f8_mark_0
          simp only [q_hasT _ V.nt t1, Option.bind_some, if_pos hb, if_neg h10]
          rw [if_pos (by decide)]
          unfold f4_asTemper_34
          simp only [jv_let, f1, Option.bind_some]
        · rw [mk]
          unfold f9_markAs_40 f9_markAs0_40
          simp only [jv_let, m3, m1, Option.bind_some]
          rfl
      · refine ⟨nI (ht t) + nI (D 0 t), jv_l h 34 1 (h.2 34 1 + 10 + 1), jv_l (jv_l h 34 1 (h.2 34 1 + 10 + 1)) 40 14 (h.2 34 1 + 10 + 1), ?_, ?_, hI.l _ rfl rfl⟩
        · unfold f8_mark_0
          simp only [q_hasT _ V.nt t1, Option.bind_some, if_pos hb, if_neg h10]
          rw [if_neg (by decide), if_pos (by decide)]
          unfold f4_asRage_34 f4_asTemper_34
          simp only [jv_let, q_l_same, l_l, f1, Option.bind_some, f4, if_neg h10, if_pos hix, hcl, q_l_1, hg.1]
        · rw [mk]
          unfold f9_markAs_40 f9_markAs0_40
          rw [if_pos (by decide)]
          simp only [jv_let, m3, q_l_same, l_l, m1, Option.bind_some, if_pos hix, hcl, q_l_1, hg2.1]
      · refine ⟨nI (ht t) - nI (pc (bs (fun t => decide (ht t = 0)) N)), jv_l h 34 1 (h.2 34 1 + 100 + 1), jv_l (jv_l h 34 1 (h.2 34 1 + 100 + 1)) 40 14 (h.2 34 1 + 100 + 1), ?_, ?_, hI.l _ rfl rfl⟩
        · unfold f8_mark_0
          simp only [q_hasT _ V.nt t1, Option.bind_some, if_pos hb, if_neg h10]
          rw [if_neg (by decide), if_neg (by decide), if_pos (by decide)]
          unfold f4_asSulk_34 f4_asTemper_34
          simp only [jv_let, q_l_same, l_l, f1, Option.bind_some, f2, q_bitCount hbk]
        · rw [mk]
          unfold f9_markAs_40 f9_markAs0_40
          rw [if_neg (by decide), if_pos (by decide)]
          simp only [jv_let, m3, q_l_same, l_l, m1, Option.bind_some, m2, q_bits hbk]
      · refine ⟨(nI (ht t) + nI (D 0 t)) * 2, jv_l h 34 1 (h.2 34 1 + 1000 + 10 + 1), jv_l (jv_l h 34 1 (h.2 34 1 + 1000 + 10 + 1)) 40 14 (h.2 34 1 + 1000 + 10 + 1), ?_, ?_, hI.l _ rfl rfl⟩
        · unfold f8_mark_0
          simp only [q_hasT _ V.nt t1, Option.bind_some, if_pos hb, if_neg h10]
          rw [if_neg (by decide), if_neg (by decide), if_neg (by decide), if_pos (by decide)]
          unfold f4_asStorm_34 f4_asRage_34 f4_asTemper_34
          simp only [jv_let, q_l_same, l_l, f1, Option.bind_some, f4, if_neg h10, if_pos hix, hcl, q_l_1, hg.1]
        · rw [mk]
          unfold f9_markAs_40 f9_markAs0_40
          rw [if_neg (by decide), if_neg (by decide), if_pos (by decide)]
          simp only [jv_let, m3, q_l_same, l_l, m1, Option.bind_some, if_pos hix, hcl, q_l_1, hg2.1]
          rw [show h.2 34 1 + 1010 + 1 = h.2 34 1 + 1000 + 10 + 1 by rw [show (1010 : Int64) = 1000 + 10 from by decide, Int64.add_assoc, Int64.add_assoc, Int64.add_assoc, Int64.add_assoc], Int32.mul_comm]
      · refine ⟨nI (ht t) - nI (pc (bs (fun t => decide (ht t = 0)) N)) + nI t, jv_l h 34 1 (h.2 34 1 + 10000 + 100 + 1), jv_l (jv_l h 34 1 (h.2 34 1 + 10000 + 100 + 1)) 40 14 (h.2 34 1 + 10000 + 100 + 1), ?_, ?_, hI.l _ rfl rfl⟩
        · unfold f8_mark_0
          simp only [q_hasT _ V.nt t1, Option.bind_some, if_pos hb, if_neg h10]
          rw [if_neg (by decide), if_neg (by decide), if_neg (by decide), if_neg (by decide), if_pos (by decide)]
          unfold f4_asGrudge_34 f4_asSulk_34 f4_asTemper_34
          simp only [jv_let, q_l_same, l_l, f1, Option.bind_some, f2, q_bitCount hbk]
        · rw [mk]
          unfold f9_markAs_40 f9_markAs0_40
          rw [if_neg (by decide), if_neg (by decide), if_neg (by decide), if_pos (by decide)]
          simp only [jv_let, m3, q_l_same, l_l, m1, Option.bind_some, m2, q_bits hbk]
          rw [show h.2 34 1 + 10100 + 1 = h.2 34 1 + 10000 + 100 + 1 by rw [show (10100 : Int64) = 10000 + 100 from by decide, Int64.add_assoc, Int64.add_assoc, Int64.add_assoc, Int64.add_assoc]]
      · refine ⟨nI (ht t) + nI y, jv_l h 34 1 (h.2 34 1 + 100000 + 1), jv_l (jv_l h 34 1 (h.2 34 1 + 100000 + 1)) 40 14 (h.2 34 1 + 100000 + 1), ?_, ?_, hI.l _ rfl rfl⟩
        · unfold f8_mark_0
          simp only [q_hasT _ V.nt t1, Option.bind_some, if_pos hb, if_neg h10]
          rw [if_neg (by decide), if_neg (by decide), if_neg (by decide), if_neg (by decide), if_neg (by decide), if_pos (by decide)]
          unfold f4_asPet_34 f4_asTemper_34
          simp only [jv_let, q_l_same, l_l, f1, Option.bind_some, f3]
        · rw [mk]
          unfold f9_markAs_40 f9_markAs0_40
          rw [if_neg (by decide), if_neg (by decide), if_neg (by decide), if_neg (by decide), if_pos (by decide)]
          simp only [jv_let, m3, q_l_same, l_l, m1, Option.bind_some, if_pos (show jv_ix (0 : Int32) 210 by decide), show (0 : Int32).toNatClampNeg = 0 from rfl, q_l_1, hy2.2]
    · have ne : ∀ k : Nat, k ≤ 5 → ¬ a = nI k := by
        rintro k hk rfl
        rw [q_ti (by omega)] at ha
        omega
      refine ⟨-1000000, h, h, ?_, ?_, hI⟩
      · unfold f8_mark_0
        simp only [q_hasT _ V.nt t1, Option.bind_some, if_pos hb, if_neg h10, if_neg (show ¬ a = 0 from ne 0 (by omega)), if_neg (show ¬ a = 1 from ne 1 (by omega)), if_neg (show ¬ a = 2 from ne 2 (by omega)), if_neg (show ¬ a = 3 from ne 3 (by omega)), if_neg (show ¬ a = 4 from ne 4 (by omega)), if_neg (show ¬ a = 5 from ne 5 (by omega))]
      · unfold f9_mark_40
        simp only [q_in, Option.bind_some, show (0 : Int64).toInt = 0 from rfl, show (5 : Int64).toInt = 5 from rfl, if_neg ha]
        rfl
  · refine ⟨-1000000, h, h, ?_, ?_, hI⟩
    · unfold f8_mark_0
      simp only [q_hasT _ V.nt t1, Option.bind_some, if_neg hb]
      rfl
    · unfold f9_mark_40
      simp only [q_in, Option.bind_some, q_isT _ W.nt t1, if_neg hb]
      split <;> rfl
