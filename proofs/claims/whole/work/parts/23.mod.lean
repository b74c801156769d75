-- TemperNursesModel.broken()I at 40
def g9_broken_40_b28 (k4 : Int32 → Int32 → jv_H → Option (Int32 × jv_H)) (a2 : Int32) (s0 : Int32) (s1 : Int32) (h : jv_H) : Option (Int32 × jv_H) := jv_let (s0 ||| s1) fun x1 => jv_let (a2 + (1 : Int32)) fun x2 => k4 x1 x2 h
set_option maxRecDepth 20000 in
theorem b9_broken_40_b28 {l : Launch} {d : Nat} (hd : 1 ≤ d) (k4 : Int32 → Int32 → jv_H → Option (Int32 × jv_H)) (hk4 : ∀ (a1 a2 : Int32) (h : jv_H), jv_V l RX9 cX9_broken 3 (some .int) d (SC ++ SM) jv_ri 4 [(0, .ref 40), (1, .int a1), (2, .int a2)] [] h (k4 a1 a2 h)) : ∀ (a2 : Int32) (s0 : Int32) (s1 : Int32) (h : jv_H), jv_V l RX9 cX9_broken 3 (some .int) d (SC ++ SM) jv_ri 28 [(0, .ref 40), (2, .int a2)] [.int s1, .int s0] h (g9_broken_40_b28 k4 a2 s0 s1 h) := by
  intro a2 s0 s1 h
  unfold g9_broken_40_b28
  refine v_ior 29 rfl dX9_broken_28 ?_
  refine n_istore_n (fun x1 => [(0, .ref 40), (2, .int a2), (1, .int x1)]) 30 rfl dX9_broken_29 rfl (Nat.le_of_ble_eq_true rfl) rfl (fun _ => rfl) (fun x1 => ?_)
  refine n_iinc (fun x2 => [(0, .ref 40), (2, .int x2), (1, .int x1)]) 1 33 rfl dX9_broken_30 rfl ic_1 (Nat.le_of_ble_eq_true rfl) rfl (fun _ => rfl) (fun x2 => ?_)
  refine v_goto 4 rfl dX9_broken_33 ?_
  refine v_sub [0, 2, 1] rfl ?_
  exact hk4 x1 x2 h
def g9_broken_40_b4 (k4 : Int32 → Int32 → jv_H → Option (Int32 × jv_H)) (a1 : Int32) (a2 : Int32) (h : jv_H) : Option (Int32 × jv_H) := if (h.1 40 0) ≤ a2 then some (a1, h) else (f9_heat_40 a2 h).bind fun q1 => if q1.1 = 0 then g9_broken_40_b28 k4 a2 a1 ((1 : Int32) <<< (a2 &&& 31)) q1.2 else g9_broken_40_b28 k4 a2 a1 (0 : Int32) q1.2
set_option maxRecDepth 20000 in
theorem b9_broken_40_b4 {l : Launch} {d : Nat} (hd : 1 ≤ d) (k4 : Int32 → Int32 → jv_H → Option (Int32 × jv_H)) (hk4 : ∀ (a1 a2 : Int32) (h : jv_H), jv_V l RX9 cX9_broken 3 (some .int) d (SC ++ SM) jv_ri 4 [(0, .ref 40), (1, .int a1), (2, .int a2)] [] h (k4 a1 a2 h)) : ∀ (a1 : Int32) (a2 : Int32) (h : jv_H), jv_V l RX9 cX9_broken 3 (some .int) d (SC ++ SM) jv_ri 4 [(0, .ref 40), (1, .int a1), (2, .int a2)] [] h (g9_broken_40_b4 k4 a1 a2 h) := by
  intro a1 a2 h
  unfold g9_broken_40_b4
  refine v_iload_n 2 5 rfl dX9_broken_4 rfl rfl ?_
  refine v_aload_n 0 6 rfl dX9_broken_5 rfl rfl ?_
  refine v_geti 9 rfl fl_X9_71 sc_40 rfl dX9_broken_6 ?_
  refine v_icmp_ge 36 12 rfl rfl dX9_broken_9 (fun _ => ?_) (fun _ => ?_)
  · refine v_iload_n 1 37 rfl dX9_broken_36 rfl rfl ?_
    exact v_iret rfl dX9_broken_37
  · refine v_iload_n 1 13 rfl dX9_broken_12 rfl rfl ?_
    refine v_aload_n 0 14 rfl dX9_broken_13 rfl rfl ?_
    refine v_iload_n 2 15 rfl dX9_broken_14 rfl rfl ?_
    refine n_callv [.int a2] [.int a1] (fun r => .int r :: [.int a1]) 18 rfl (by omega) (Nat.le_of_ble_eq_true rfl) cb_X9_heat cv_X9_143 sc_40 cn_X9 rfl (Nat.le_of_ble_eq_true rfl) dX9_broken_15 rfl (fun _ => rfl) (e9_heat_40 (by omega) a2 h) (fun q1 => ?_)
    refine v_if_ne 27 21 rfl rfl dX9_broken_18 (fun _ => ?_) (fun _ => ?_)
    · refine v_iconst 28 rfl dX9_broken_27 ic_0 ?_
      refine v_sub [0, 2] rfl ?_
      exact b9_broken_40_b28 hd k4 hk4 a2 a1 (0 : Int32) q1.2
    · refine v_iconst 22 rfl dX9_broken_21 ic_1 ?_
      refine v_iload_n 2 23 rfl dX9_broken_22 rfl rfl ?_
      refine v_ishl 24 rfl dX9_broken_23 ?_
      refine v_goto 28 rfl dX9_broken_24 ?_
      refine v_sub [0, 2] rfl ?_
      exact b9_broken_40_b28 hd k4 hk4 a2 a1 ((1 : Int32) <<< (a2 &&& 31)) q1.2
def f9_broken_40_l4 : Nat → Int32 → Int32 → jv_H → Option (Int32 × jv_H)
  | 0 => fun _ _ _ => none
  | n + 1 => fun a1 a2 h => g9_broken_40_b4 (f9_broken_40_l4 n) a1 a2 h
theorem w9_broken_40_l4 {l : Launch} {d : Nat} (hd : 1 ≤ d) : ∀ (n : Nat) (a1 : Int32) (a2 : Int32) (h : jv_H), jv_V l RX9 cX9_broken 3 (some .int) d (SC ++ SM) jv_ri 4 [(0, .ref 40), (1, .int a1), (2, .int a2)] [] h (f9_broken_40_l4 n a1 a2 h) := by
  intro n
  induction n with
  | zero => intro a1 a2 h; exact v_none
  | succ n ih => intro a1 a2 h; exact b9_broken_40_b4 hd (f9_broken_40_l4 n) ih a1 a2 h
def f9_broken_40 (h : jv_H) : Option (Int32 × jv_H) := jv_let (0 : Int32) fun x1 => jv_let (0 : Int32) fun x2 => f9_broken_40_l4 jv_fuel x1 x2 h
set_option maxRecDepth 20000 in
theorem e9_broken_40 {l : Launch} {d : Nat} (hd : 1 ≤ d) (h : jv_H) : jv_E l yX9_broken cX9_broken 3 (some .int) d (SC ++ SM) jv_ri [.ref 40] h (f9_broken_40  h) := by
  refine e_of [(0, .ref 40)] rfl pn_X9 (fun _ => Nat.le_of_ble_eq_true rfl) (fun _ => rfl) ?_
  unfold f9_broken_40
  refine v_iconst 1 rfl dX9_broken_0 ic_0 ?_
  refine n_istore_n (fun x1 => [(0, .ref 40), (1, .int x1)]) 2 rfl dX9_broken_1 rfl (Nat.le_of_ble_eq_true rfl) rfl (fun _ => rfl) (fun x1 => ?_)
  refine v_iconst 3 rfl dX9_broken_2 ic_0 ?_
  refine n_istore_n (fun x2 => [(0, .ref 40), (1, .int x1), (2, .int x2)]) 4 rfl dX9_broken_3 rfl (Nat.le_of_ble_eq_true rfl) rfl (fun _ => rfl) (fun x2 => ?_)
  exact w9_broken_40_l4 hd jv_fuel x1 x2 h
-- TemperNursesModel.aged(III)I at 40
def g9_aged_40_b50 (a4 : Int32) (s0 : Int32) (h : jv_H) : Option (Int32 × jv_H) := jv_let s0 fun x1 => if a4 ≤ x1 then some ((0 : Int32), h) else some ((a4 - x1), h)
set_option maxRecDepth 20000 in
theorem b9_aged_40_b50 {l : Launch} {d : Nat} (hd : 0 ≤ d) : ∀ (a4 : Int32) (s0 : Int32) (h : jv_H), jv_V l RX9 cX9_aged 6 (some .int) d (SC ++ SM) jv_ri 50 [(4, .int a4)] [.int s0] h (g9_aged_40_b50 a4 s0 h) := by
  intro a4 s0 h
  unfold g9_aged_40_b50
  refine n_istore (fun x1 => [(4, .int a4), (5, .int x1)]) 52 rfl dX9_aged_50 (Nat.le_of_ble_eq_true rfl) rfl (fun _ => rfl) (fun x1 => ?_)
  refine v_iload 0 54 rfl dX9_aged_52 rfl ?_
  refine v_iload 1 56 rfl dX9_aged_54 rfl ?_
  refine v_icmp_le 67 59 rfl rfl dX9_aged_56 (fun _ => ?_) (fun _ => ?_)
  · refine v_iconst 68 rfl dX9_aged_67 ic_0 ?_
    exact v_iret rfl dX9_aged_68
  · refine v_iload 0 61 rfl dX9_aged_59 rfl ?_
    refine v_iload 1 63 rfl dX9_aged_61 rfl ?_
    refine v_isub 64 rfl dX9_aged_63 ?_
    refine v_goto 68 rfl dX9_aged_64 ?_
    exact v_iret rfl dX9_aged_68
def g9_aged_40_b32 (a3 : Int32) (s0 : Int32) (h : jv_H) : Option (Int32 × jv_H) := jv_let s0 fun x1 => if a3 = (-9 : Int32) then g9_aged_40_b50 x1 (0 : Int32) h else if jv_ix a3 4 then g9_aged_40_b50 x1 (h.1 44 (Int32.toNatClampNeg a3)) h else none
set_option maxRecDepth 20000 in
theorem b9_aged_40_b32 {l : Launch} {d : Nat} (hd : 0 ≤ d) : ∀ (a3 : Int32) (s0 : Int32) (h : jv_H), jv_V l RX9 cX9_aged 6 (some .int) d (SC ++ SM) jv_ri 32 [(0, .ref 40), (3, .int a3)] [.int s0] h (g9_aged_40_b32 a3 s0 h) := by
  intro a3 s0 h
  unfold g9_aged_40_b32
  refine n_istore (fun x1 => [(0, .ref 40), (3, .int a3), (4, .int x1)]) 34 rfl dX9_aged_32 (Nat.le_of_ble_eq_true rfl) rfl (fun _ => rfl) (fun x1 => ?_)
  refine v_iload_n 1 35 rfl dX9_aged_34 rfl rfl ?_
  refine v_bipush 37 rfl dX9_aged_35 bp_m9 ?_
  refine v_icmp_ne 44 40 rfl rfl dX9_aged_37 (fun _ => ?_) (fun _ => ?_)
  · refine v_aload_n 0 45 rfl dX9_aged_44 rfl rfl ?_
    refine v_getr 48 rfl fl_X9_19 sc_40 rfl dX9_aged_45 ?_
    refine v_iload_n 1 49 rfl dX9_aged_48 rfl rfl ?_
    refine v_iald 50 rfl sc_44 dX9_aged_49 (fun _ => ?_)
    refine v_sub [2] rfl ?_
    exact b9_aged_40_b50 hd x1 (h.1 44 (Int32.toNatClampNeg a3)) h
  · refine v_iconst 41 rfl dX9_aged_40 ic_0 ?_
    refine v_goto 50 rfl dX9_aged_41 ?_
    refine v_sub [2] rfl ?_
    exact b9_aged_40_b50 hd x1 (0 : Int32) h
def f9_aged_40 (a1 : Int32) (a2 : Int32) (a3 : Int32) (h : jv_H) : Option (Int32 × jv_H) := if a2 = 0 then some ((0 : Int32), h) else if jv_ix a1 6 then if (a2 + (h.1 41 (Int32.toNatClampNeg a1))) ≤ (99 : Int32) then if jv_ix a1 6 then g9_aged_40_b32 a3 (a2 + (h.1 41 (Int32.toNatClampNeg a1))) h else none else g9_aged_40_b32 a3 (99 : Int32) h else none
set_option maxRecDepth 20000 in
theorem e9_aged_40 {l : Launch} {d : Nat} (hd : 0 ≤ d) (a1 : Int32) (a2 : Int32) (a3 : Int32) (h : jv_H) : jv_E l yX9_aged cX9_aged 6 (some .int) d (SC ++ SM) jv_ri [.ref 40, .int a1, .int a2, .int a3] h (f9_aged_40 a1 a2 a3 h) := by
  refine e_of [(0, .ref 40), (1, .int a1), (2, .int a2), (3, .int a3)] rfl pn_X9 (fun _ => Nat.le_of_ble_eq_true rfl) (fun _ => rfl) ?_
  unfold f9_aged_40
  refine v_iload_n 2 1 rfl dX9_aged_0 rfl rfl ?_
  refine v_if_ne 6 4 rfl rfl dX9_aged_1 (fun _ => ?_) (fun _ => ?_)
  · refine v_iload_n 2 7 rfl dX9_aged_6 rfl rfl ?_
    refine v_aload_n 0 8 rfl dX9_aged_7 rfl rfl ?_
    refine v_getr 11 rfl fl_X9_7 sc_40 rfl dX9_aged_8 ?_
    refine v_iload_n 1 12 rfl dX9_aged_11 rfl rfl ?_
    refine v_iald 13 rfl sc_41 dX9_aged_12 (fun _ => ?_)
    refine v_iadd 14 rfl dX9_aged_13 ?_
    refine v_bipush 16 rfl dX9_aged_14 bp_99 ?_
    refine v_icmp_le 24 19 rfl rfl dX9_aged_16 (fun _ => ?_) (fun _ => ?_)
    · refine v_iload_n 2 25 rfl dX9_aged_24 rfl rfl ?_
      refine v_aload_n 0 26 rfl dX9_aged_25 rfl rfl ?_
      refine v_getr 29 rfl fl_X9_7 sc_40 rfl dX9_aged_26 ?_
      refine v_iload_n 1 30 rfl dX9_aged_29 rfl rfl ?_
      refine v_iald 31 rfl sc_41 dX9_aged_30 (fun _ => ?_)
      refine v_iadd 32 rfl dX9_aged_31 ?_
      refine v_sub [0, 3] rfl ?_
      exact b9_aged_40_b32 hd a3 (a2 + (h.1 41 (Int32.toNatClampNeg a1))) h
    · refine v_bipush 21 rfl dX9_aged_19 bp_99 ?_
      refine v_goto 32 rfl dX9_aged_21 ?_
      refine v_sub [0, 3] rfl ?_
      exact b9_aged_40_b32 hd a3 (99 : Int32) h
  · refine v_iconst 5 rfl dX9_aged_4 ic_0 ?_
    exact v_iret rfl dX9_aged_5
-- TemperNursesModel.years(I)I at 40
def g9_years_40_b43 (k36 : Int32 → Int32 → jv_H → Option (Int32 × jv_H)) (k43 : Int32 → Int32 → Int32 → jv_H → Option (Int32 × jv_H)) (a1 : Int32) (a2 : Int32) (a3 : Int32) (h : jv_H) : Option (Int32 × jv_H) := if (h.1 40 0) ≤ a3 then jv_let (a2 + (1 : Int32)) fun x1 => k36 a1 x1 h else (f9_heat_40 a3 h).bind fun q2 => if jv_ix ((7 : Int32) + a3) 210 then (f9_aged_40 a3 q2.1 (q2.2.1 47 (Int32.toNatClampNeg ((7 : Int32) + a3))) q2.2).bind fun q3 => if jv_ix ((1 : Int32) + a3) 210 then jv_let (jv_p q3.2 47 (Int32.toNatClampNeg ((1 : Int32) + a3)) q3.1) fun h4 => jv_let (a3 + (1 : Int32)) fun x5 => k43 a1 a2 x5 h4 else none else none
set_option maxRecDepth 20000 in
theorem b9_years_40_b43 {l : Launch} {d : Nat} (hd : 2 ≤ d) (k36 : Int32 → Int32 → jv_H → Option (Int32 × jv_H)) (hk36 : ∀ (a1 a2 : Int32) (h : jv_H), jv_V l RX9 cX9_years 4 (some .int) d (SC ++ SM) jv_ri 36 [(0, .ref 40), (1, .int a1), (2, .int a2)] [] h (k36 a1 a2 h)) (k43 : Int32 → Int32 → Int32 → jv_H → Option (Int32 × jv_H)) (hk43 : ∀ (a1 a2 a3 : Int32) (h : jv_H), jv_V l RX9 cX9_years 4 (some .int) d (SC ++ SM) jv_ri 43 [(0, .ref 40), (1, .int a1), (2, .int a2), (3, .int a3)] [] h (k43 a1 a2 a3 h)) : ∀ (a1 : Int32) (a2 : Int32) (a3 : Int32) (h : jv_H), jv_V l RX9 cX9_years 4 (some .int) d (SC ++ SM) jv_ri 43 [(0, .ref 40), (1, .int a1), (2, .int a2), (3, .int a3)] [] h (g9_years_40_b43 k36 k43 a1 a2 a3 h) := by
  intro a1 a2 a3 h
  unfold g9_years_40_b43
  refine v_iload_n 3 44 rfl dX9_years_43 rfl rfl ?_
  refine v_aload_n 0 45 rfl dX9_years_44 rfl rfl ?_
  refine v_geti 48 rfl fl_X9_71 sc_40 rfl dX9_years_45 ?_
  refine v_icmp_ge 84 51 rfl rfl dX9_years_48 (fun _ => ?_) (fun _ => ?_)
  · refine n_iinc (fun x1 => [(0, .ref 40), (1, .int a1), (2, .int x1), (3, .int a3)]) 2 87 rfl dX9_years_84 rfl ic_1 (Nat.le_of_ble_eq_true rfl) rfl (fun _ => rfl) (fun x1 => ?_)
    refine v_goto 36 rfl dX9_years_87 ?_
    refine v_sub [0, 1, 2] rfl ?_
    exact hk36 a1 x1 h
  · refine v_aload_n 0 52 rfl dX9_years_51 rfl rfl ?_
    refine v_getr 55 rfl fl_X9_28 sc_40 rfl dX9_years_52 ?_
    refine v_iconst 56 rfl dX9_years_55 ic_1 ?_
    refine v_iload_n 3 57 rfl dX9_years_56 rfl rfl ?_
    refine v_iadd 58 rfl dX9_years_57 ?_
    refine v_aload_n 0 59 rfl dX9_years_58 rfl rfl ?_
    refine v_iload_n 3 60 rfl dX9_years_59 rfl rfl ?_
    refine v_aload_n 0 61 rfl dX9_years_60 rfl rfl ?_
    refine v_iload_n 3 62 rfl dX9_years_61 rfl rfl ?_
    refine n_callv [.int a3] [.int a3, .ref 40, .int ((1 : Int32) + a3), .ref 47] (fun r => .int r :: [.int a3, .ref 40, .int ((1 : Int32) + a3), .ref 47]) 65 rfl (by omega) (Nat.le_of_ble_eq_true rfl) cb_X9_heat cv_X9_143 sc_40 cn_X9 rfl (Nat.le_of_ble_eq_true rfl) dX9_years_62 rfl (fun _ => rfl) (e9_heat_40 (by omega) a3 h) (fun q2 => ?_)
    refine v_aload_n 0 66 rfl dX9_years_65 rfl rfl ?_
    refine v_getr 69 rfl fl_X9_28 sc_40 rfl dX9_years_66 ?_
    refine v_bipush 71 rfl dX9_years_69 bp_7 ?_
    refine v_iload_n 3 72 rfl dX9_years_71 rfl rfl ?_
    refine v_iadd 73 rfl dX9_years_72 ?_
    refine v_iald 74 rfl sc_47 dX9_years_73 (fun _ => ?_)
    refine n_callv [.int a3, .int q2.1, .int (q2.2.1 47 (Int32.toNatClampNeg ((7 : Int32) + a3)))] [.int ((1 : Int32) + a3), .ref 47] (fun r => .int r :: [.int ((1 : Int32) + a3), .ref 47]) 77 rfl (by omega) (Nat.le_of_ble_eq_true rfl) cb_X9_aged cv_X9_175 sc_40 cn_X9 rfl (Nat.le_of_ble_eq_true rfl) dX9_years_74 rfl (fun _ => rfl) (e9_aged_40 (by omega) a3 q2.1 (q2.2.1 47 (Int32.toNatClampNeg ((7 : Int32) + a3))) q2.2) (fun q3 => ?_)
    refine n_iast 78 rfl sc_47 dX9_years_77 (fun h4 => ?_)
    refine n_iinc (fun x5 => [(0, .ref 40), (1, .int a1), (2, .int a2), (3, .int x5)]) 3 81 rfl dX9_years_78 rfl ic_1 (Nat.le_of_ble_eq_true rfl) rfl (fun _ => rfl) (fun x5 => ?_)
    refine v_goto 43 rfl dX9_years_81 ?_
    exact hk43 a1 a2 x5 h4
def f9_years_40_l43 (k36 : Int32 → Int32 → jv_H → Option (Int32 × jv_H)) : Nat → Int32 → Int32 → Int32 → jv_H → Option (Int32 × jv_H)
  | 0 => fun _ _ _ _ => none
  | n + 1 => fun a1 a2 a3 h => g9_years_40_b43 k36 (f9_years_40_l43 k36 n) a1 a2 a3 h
theorem w9_years_40_l43 {l : Launch} {d : Nat} (hd : 2 ≤ d) (k36 : Int32 → Int32 → jv_H → Option (Int32 × jv_H)) (hk36 : ∀ (a1 a2 : Int32) (h : jv_H), jv_V l RX9 cX9_years 4 (some .int) d (SC ++ SM) jv_ri 36 [(0, .ref 40), (1, .int a1), (2, .int a2)] [] h (k36 a1 a2 h)) : ∀ (n : Nat) (a1 : Int32) (a2 : Int32) (a3 : Int32) (h : jv_H), jv_V l RX9 cX9_years 4 (some .int) d (SC ++ SM) jv_ri 43 [(0, .ref 40), (1, .int a1), (2, .int a2), (3, .int a3)] [] h (f9_years_40_l43 k36 n a1 a2 a3 h) := by
  intro n
  induction n with
  | zero => intro a1 a2 a3 h; exact v_none
  | succ n ih => intro a1 a2 a3 h; exact b9_years_40_b43 hd k36 hk36 (f9_years_40_l43 k36 n) ih a1 a2 a3 h
def g9_years_40_b36 (k36 : Int32 → Int32 → jv_H → Option (Int32 × jv_H)) (a1 : Int32) (a2 : Int32) (h : jv_H) : Option (Int32 × jv_H) := if a1 ≤ a2 then if jv_ix (0 : Int32) 210 then if jv_ix (0 : Int32) 210 then jv_let (jv_p h 47 (Int32.toNatClampNeg (0 : Int32)) ((h.1 47 (Int32.toNatClampNeg (0 : Int32))) + a1)) fun h1 => (f9_broken_40 h1).bind fun q2 => (f9_bits q2.1 q2.2).bind fun q3 => some (q3.1, q3.2) else none else none else jv_let (0 : Int32) fun x4 => f9_years_40_l43 k36 jv_fuel a1 a2 x4 h
set_option maxRecDepth 20000 in
theorem b9_years_40_b36 {l : Launch} {d : Nat} (hd : 2 ≤ d) (k36 : Int32 → Int32 → jv_H → Option (Int32 × jv_H)) (hk36 : ∀ (a1 a2 : Int32) (h : jv_H), jv_V l RX9 cX9_years 4 (some .int) d (SC ++ SM) jv_ri 36 [(0, .ref 40), (1, .int a1), (2, .int a2)] [] h (k36 a1 a2 h)) : ∀ (a1 : Int32) (a2 : Int32) (h : jv_H), jv_V l RX9 cX9_years 4 (some .int) d (SC ++ SM) jv_ri 36 [(0, .ref 40), (1, .int a1), (2, .int a2)] [] h (g9_years_40_b36 k36 a1 a2 h) := by
  intro a1 a2 h
  unfold g9_years_40_b36
  refine v_iload_n 2 37 rfl dX9_years_36 rfl rfl ?_
  refine v_iload_n 1 38 rfl dX9_years_37 rfl rfl ?_
  refine v_icmp_ge 90 41 rfl rfl dX9_years_38 (fun _ => ?_) (fun _ => ?_)
  · refine v_aload_n 0 91 rfl dX9_years_90 rfl rfl ?_
    refine v_getr 94 rfl fl_X9_28 sc_40 rfl dX9_years_91 ?_
    refine v_iconst 95 rfl dX9_years_94 ic_0 ?_
    refine v_dup2 96 rfl dX9_years_95 ?_
    refine v_iald 97 rfl sc_47 dX9_years_96 (fun _ => ?_)
    refine v_iload_n 1 98 rfl dX9_years_97 rfl rfl ?_
    refine v_iadd 99 rfl dX9_years_98 ?_
    refine n_iast 100 rfl sc_47 dX9_years_99 (fun h1 => ?_)
    refine v_aload_n 0 101 rfl dX9_years_100 rfl rfl ?_
    refine n_callv [] [] (fun r => .int r :: []) 104 rfl (by omega) (Nat.le_of_ble_eq_true rfl) cb_X9_broken cv_X9_179 sc_40 cn_X9 rfl (Nat.le_of_ble_eq_true rfl) dX9_years_101 rfl (fun _ => rfl) (e9_broken_40 (by omega)  h1) (fun q2 => ?_)
    refine n_calls [.int q2.1] [] (fun r => .int r :: []) 107 rfl (by omega) (Nat.le_of_ble_eq_true rfl) cb_X9_bits cs_X9_146 rfl (Nat.le_of_ble_eq_true rfl) dX9_years_104 rfl (fun _ => rfl) (e9_bits (by omega) q2.1 q2.2) (fun q3 => ?_)
    exact v_iret rfl dX9_years_107
  · refine v_iconst 42 rfl dX9_years_41 ic_0 ?_
    refine n_istore_n (fun x4 => [(0, .ref 40), (1, .int a1), (2, .int a2), (3, .int x4)]) 43 rfl dX9_years_42 rfl (Nat.le_of_ble_eq_true rfl) rfl (fun _ => rfl) (fun x4 => ?_)
    exact w9_years_40_l43 hd k36 hk36 jv_fuel a1 a2 x4 h
def f9_years_40_l36 : Nat → Int32 → Int32 → jv_H → Option (Int32 × jv_H)
  | 0 => fun _ _ _ => none
  | n + 1 => fun a1 a2 h => g9_years_40_b36 (f9_years_40_l36 n) a1 a2 h
theorem w9_years_40_l36 {l : Launch} {d : Nat} (hd : 2 ≤ d) : ∀ (n : Nat) (a1 : Int32) (a2 : Int32) (h : jv_H), jv_V l RX9 cX9_years 4 (some .int) d (SC ++ SM) jv_ri 36 [(0, .ref 40), (1, .int a1), (2, .int a2)] [] h (f9_years_40_l36 n a1 a2 h) := by
  intro n
  induction n with
  | zero => intro a1 a2 h; exact v_none
  | succ n ih => intro a1 a2 h; exact b9_years_40_b36 hd (f9_years_40_l36 n) ih a1 a2 h
def f9_years_40 (a1 : Int32) (h : jv_H) : Option (Int32 × jv_H) := (f9_in (Int32.toInt64 a1) (1 : Int64) (9 : Int64) h).bind fun q1 => if q1.1 = 0 then some ((-1 : Int32), q1.2) else if jv_ix (0 : Int32) 210 then if ((q1.2.1 47 (Int32.toNatClampNeg (0 : Int32))) + a1) ≤ (99 : Int32) then (f9_save_40 q1.2).bind fun q2 => jv_let (0 : Int32) fun x3 => f9_years_40_l36 jv_fuel a1 x3 q2.2 else some ((-2 : Int32), q1.2) else none
set_option maxRecDepth 20000 in
theorem e9_years_40 {l : Launch} {d : Nat} (hd : 2 ≤ d) (a1 : Int32) (h : jv_H) : jv_E l yX9_years cX9_years 4 (some .int) d (SC ++ SM) jv_ri [.ref 40, .int a1] h (f9_years_40 a1 h) := by
  refine e_of [(0, .ref 40), (1, .int a1)] rfl pn_X9 (fun _ => Nat.le_of_ble_eq_true rfl) (fun _ => rfl) ?_
  unfold f9_years_40
  refine v_iload_n 1 1 rfl dX9_years_0 rfl rfl ?_
  refine v_i2l 2 rfl dX9_years_1 ?_
  refine v_lconst (v := (1 : Int64)) 3 rfl dX9_years_2 rfl ?_
  refine v_ldc2 6 rfl mw_1026 dX9_years_3 ?_
  refine n_calls [.long (Int32.toInt64 a1), .long (1 : Int64), .long (9 : Int64)] [] (fun r => .int r :: []) 9 rfl (by omega) (Nat.le_of_ble_eq_true rfl) cb_X9_in cs_X9_75 rfl (Nat.le_of_ble_eq_true rfl) dX9_years_6 rfl (fun _ => rfl) (e9_in (by omega) (Int32.toInt64 a1) (1 : Int64) (9 : Int64) h) (fun q1 => ?_)
  refine v_if_ne 14 12 rfl rfl dX9_years_9 (fun _ => ?_) (fun _ => ?_)
  · refine v_aload_n 0 15 rfl dX9_years_14 rfl rfl ?_
    refine v_getr 18 rfl fl_X9_28 sc_40 rfl dX9_years_15 ?_
    refine v_iconst 19 rfl dX9_years_18 ic_0 ?_
    refine v_iald 20 rfl sc_47 dX9_years_19 (fun _ => ?_)
    refine v_iload_n 1 21 rfl dX9_years_20 rfl rfl ?_
    refine v_iadd 22 rfl dX9_years_21 ?_
    refine v_bipush 24 rfl dX9_years_22 bp_99 ?_
    refine v_icmp_le 30 27 rfl rfl dX9_years_24 (fun _ => ?_) (fun _ => ?_)
    · refine v_aload_n 0 31 rfl dX9_years_30 rfl rfl ?_
      refine n_callv [] [] (fun _ => []) 34 rfl (by omega) (Nat.le_of_ble_eq_true rfl) cb_X9_save cv_X9_166 sc_40 cn_X9 rfl (Nat.le_of_ble_eq_true rfl) dX9_years_31 rfl (fun _ => rfl) (e9_save_40 (by omega)  q1.2) (fun q2 => ?_)
      refine v_iconst 35 rfl dX9_years_34 ic_0 ?_
      refine n_istore_n (fun x3 => [(0, .ref 40), (1, .int a1), (2, .int x3)]) 36 rfl dX9_years_35 rfl (Nat.le_of_ble_eq_true rfl) rfl (fun _ => rfl) (fun x3 => ?_)
      exact w9_years_40_l36 hd jv_fuel a1 x3 q2.2
    · refine v_bipush 29 rfl dX9_years_27 bp_m2 ?_
      exact v_iret rfl dX9_years_29
  · refine v_iconst 13 rfl dX9_years_12 ic_m1 ?_
    exact v_iret rfl dX9_years_13
-- TemperNursesModel.undo()I at 40
def g9_undo_40_b26 (k26 : Int32 → jv_H → Option (Int32 × jv_H)) (a1 : Int32) (h : jv_H) : Option (Int32 × jv_H) := if (19 : Int32) ≤ a1 then if jv_ix (19 : Int32) 210 then some ((h.1 47 (Int32.toNatClampNeg (19 : Int32))), h) else none else if jv_ix (19 : Int32) 210 then if jv_ix (((20 : Int32) + ((19 : Int32) * (h.1 47 (Int32.toNatClampNeg (19 : Int32))))) + a1) 210 then if jv_ix a1 210 then jv_let (jv_p h 47 (Int32.toNatClampNeg a1) (h.1 47 (Int32.toNatClampNeg (((20 : Int32) + ((19 : Int32) * (h.1 47 (Int32.toNatClampNeg (19 : Int32))))) + a1)))) fun h1 => jv_let (a1 + (1 : Int32)) fun x2 => k26 x2 h1 else none else none else none
set_option maxRecDepth 20000 in
theorem b9_undo_40_b26 {l : Launch} {d : Nat} (hd : 0 ≤ d) (k26 : Int32 → jv_H → Option (Int32 × jv_H)) (hk26 : ∀ (a1 : Int32) (h : jv_H), jv_V l RX9 cX9_undo 2 (some .int) d (SC ++ SM) jv_ri 26 [(0, .ref 40), (1, .int a1)] [] h (k26 a1 h)) : ∀ (a1 : Int32) (h : jv_H), jv_V l RX9 cX9_undo 2 (some .int) d (SC ++ SM) jv_ri 26 [(0, .ref 40), (1, .int a1)] [] h (g9_undo_40_b26 k26 a1 h) := by
  intro a1 h
  unfold g9_undo_40_b26
  refine v_iload_n 1 27 rfl dX9_undo_26 rfl rfl ?_
  refine v_bipush 29 rfl dX9_undo_27 bp_19 ?_
  refine v_icmp_ge 64 32 rfl rfl dX9_undo_29 (fun _ => ?_) (fun _ => ?_)
  · refine v_aload_n 0 65 rfl dX9_undo_64 rfl rfl ?_
    refine v_getr 68 rfl fl_X9_28 sc_40 rfl dX9_undo_65 ?_
    refine v_bipush 70 rfl dX9_undo_68 bp_19 ?_
    refine v_iald 71 rfl sc_47 dX9_undo_70 (fun _ => ?_)
    exact v_iret rfl dX9_undo_71
  · refine v_aload_n 0 33 rfl dX9_undo_32 rfl rfl ?_
    refine v_getr 36 rfl fl_X9_28 sc_40 rfl dX9_undo_33 ?_
    refine v_iload_n 1 37 rfl dX9_undo_36 rfl rfl ?_
    refine v_aload_n 0 38 rfl dX9_undo_37 rfl rfl ?_
    refine v_getr 41 rfl fl_X9_28 sc_40 rfl dX9_undo_38 ?_
    refine v_bipush 43 rfl dX9_undo_41 bp_20 ?_
    refine v_bipush 45 rfl dX9_undo_43 bp_19 ?_
    refine v_aload_n 0 46 rfl dX9_undo_45 rfl rfl ?_
    refine v_getr 49 rfl fl_X9_28 sc_40 rfl dX9_undo_46 ?_
    refine v_bipush 51 rfl dX9_undo_49 bp_19 ?_
    refine v_iald 52 rfl sc_47 dX9_undo_51 (fun _ => ?_)
    refine v_imul 53 rfl dX9_undo_52 ?_
    refine v_iadd 54 rfl dX9_undo_53 ?_
    refine v_iload_n 1 55 rfl dX9_undo_54 rfl rfl ?_
    refine v_iadd 56 rfl dX9_undo_55 ?_
    refine v_iald 57 rfl sc_47 dX9_undo_56 (fun _ => ?_)
    refine n_iast 58 rfl sc_47 dX9_undo_57 (fun h1 => ?_)
    refine n_iinc (fun x2 => [(0, .ref 40), (1, .int x2)]) 1 61 rfl dX9_undo_58 rfl ic_1 (Nat.le_of_ble_eq_true rfl) rfl (fun _ => rfl) (fun x2 => ?_)
    refine v_goto 26 rfl dX9_undo_61 ?_
    exact hk26 x2 h1
def f9_undo_40_l26 : Nat → Int32 → jv_H → Option (Int32 × jv_H)
  | 0 => fun _ _ => none
  | n + 1 => fun a1 h => g9_undo_40_b26 (f9_undo_40_l26 n) a1 h
theorem w9_undo_40_l26 {l : Launch} {d : Nat} (hd : 0 ≤ d) : ∀ (n : Nat) (a1 : Int32) (h : jv_H), jv_V l RX9 cX9_undo 2 (some .int) d (SC ++ SM) jv_ri 26 [(0, .ref 40), (1, .int a1)] [] h (f9_undo_40_l26 n a1 h) := by
  intro n
  induction n with
  | zero => intro a1 h; exact v_none
  | succ n ih => intro a1 h; exact b9_undo_40_b26 hd (f9_undo_40_l26 n) ih a1 h
def f9_undo_40 (h : jv_H) : Option (Int32 × jv_H) := if jv_ix (19 : Int32) 210 then if (h.1 47 (Int32.toNatClampNeg (19 : Int32))) = 0 then some ((-2 : Int32), h) else if jv_ix (19 : Int32) 210 then if jv_ix (19 : Int32) 210 then jv_let (jv_p h 47 (Int32.toNatClampNeg (19 : Int32)) ((h.1 47 (Int32.toNatClampNeg (19 : Int32))) - (1 : Int32))) fun h1 => jv_let (0 : Int32) fun x2 => f9_undo_40_l26 jv_fuel x2 h1 else none else none else none
set_option maxRecDepth 20000 in
theorem e9_undo_40 {l : Launch} {d : Nat} (hd : 0 ≤ d) (h : jv_H) : jv_E l yX9_undo cX9_undo 2 (some .int) d (SC ++ SM) jv_ri [.ref 40] h (f9_undo_40  h) := by
  refine e_of [(0, .ref 40)] rfl pn_X9 (fun _ => Nat.le_of_ble_eq_true rfl) (fun _ => rfl) ?_
  unfold f9_undo_40
  refine v_aload_n 0 1 rfl dX9_undo_0 rfl rfl ?_
  refine v_getr 4 rfl fl_X9_28 sc_40 rfl dX9_undo_1 ?_
  refine v_bipush 6 rfl dX9_undo_4 bp_19 ?_
  refine v_iald 7 rfl sc_47 dX9_undo_6 (fun _ => ?_)
  refine v_if_ne 13 10 rfl rfl dX9_undo_7 (fun _ => ?_) (fun _ => ?_)
  · refine v_aload_n 0 14 rfl dX9_undo_13 rfl rfl ?_
    refine v_getr 17 rfl fl_X9_28 sc_40 rfl dX9_undo_14 ?_
    refine v_bipush 19 rfl dX9_undo_17 bp_19 ?_
    refine v_dup2 20 rfl dX9_undo_19 ?_
    refine v_iald 21 rfl sc_47 dX9_undo_20 (fun _ => ?_)
    refine v_iconst 22 rfl dX9_undo_21 ic_1 ?_
    refine v_isub 23 rfl dX9_undo_22 ?_
    refine n_iast 24 rfl sc_47 dX9_undo_23 (fun h1 => ?_)
    refine v_iconst 25 rfl dX9_undo_24 ic_0 ?_
    refine n_istore_n (fun x2 => [(0, .ref 40), (1, .int x2)]) 26 rfl dX9_undo_25 rfl (Nat.le_of_ble_eq_true rfl) rfl (fun _ => rfl) (fun x2 => ?_)
    exact w9_undo_40_l26 hd jv_fuel x2 h1
  · refine v_bipush 12 rfl dX9_undo_10 bp_m2 ?_
    exact v_iret rfl dX9_undo_12
-- TemperNursesModel.whenBroken(II)I at 40
def g9_whenBroken_40_b9 (k9 : Int32 → Int32 → Int32 → Int32 → jv_H → Option (Int32 × jv_H)) (a1 : Int32) (a2 : Int32) (a3 : Int32) (a4 : Int32) (h : jv_H) : Option (Int32 × jv_H) := if (99 : Int32) < a4 then some ((-9 : Int32), h) else if a3 = 0 then some (a4, h) else (f9_aged_40 a1 a3 a2 h).bind fun q1 => jv_let q1.1 fun x2 => jv_let (a4 + (1 : Int32)) fun x3 => k9 a1 a2 x2 x3 q1.2
set_option maxRecDepth 20000 in
theorem b9_whenBroken_40_b9 {l : Launch} {d : Nat} (hd : 1 ≤ d) (k9 : Int32 → Int32 → Int32 → Int32 → jv_H → Option (Int32 × jv_H)) (hk9 : ∀ (a1 a2 a3 a4 : Int32) (h : jv_H), jv_V l RX9 cX9_whenBroken 5 (some .int) d (SC ++ SM) jv_ri 9 [(0, .ref 40), (1, .int a1), (2, .int a2), (3, .int a3), (4, .int a4)] [] h (k9 a1 a2 a3 a4 h)) : ∀ (a1 : Int32) (a2 : Int32) (a3 : Int32) (a4 : Int32) (h : jv_H), jv_V l RX9 cX9_whenBroken 5 (some .int) d (SC ++ SM) jv_ri 9 [(0, .ref 40), (1, .int a1), (2, .int a2), (3, .int a3), (4, .int a4)] [] h (g9_whenBroken_40_b9 k9 a1 a2 a3 a4 h) := by
  intro a1 a2 a3 a4 h
  unfold g9_whenBroken_40_b9
  refine v_iload 4 11 rfl dX9_whenBroken_9 rfl ?_
  refine v_bipush 13 rfl dX9_whenBroken_11 bp_99 ?_
  refine v_icmp_gt 37 16 rfl rfl dX9_whenBroken_13 (fun _ => ?_) (fun _ => ?_)
  · refine v_bipush 39 rfl dX9_whenBroken_37 bp_m9 ?_
    exact v_iret rfl dX9_whenBroken_39
  · refine v_iload_n 3 17 rfl dX9_whenBroken_16 rfl rfl ?_
    refine v_if_ne 23 20 rfl rfl dX9_whenBroken_17 (fun _ => ?_) (fun _ => ?_)
    · refine v_aload_n 0 24 rfl dX9_whenBroken_23 rfl rfl ?_
      refine v_iload_n 1 25 rfl dX9_whenBroken_24 rfl rfl ?_
      refine v_iload_n 3 26 rfl dX9_whenBroken_25 rfl rfl ?_
      refine v_iload_n 2 27 rfl dX9_whenBroken_26 rfl rfl ?_
      refine n_callv [.int a1, .int a3, .int a2] [] (fun r => .int r :: []) 30 rfl (by omega) (Nat.le_of_ble_eq_true rfl) cb_X9_aged cv_X9_175 sc_40 cn_X9 rfl (Nat.le_of_ble_eq_true rfl) dX9_whenBroken_27 rfl (fun _ => rfl) (e9_aged_40 (by omega) a1 a3 a2 h) (fun q1 => ?_)
      refine n_istore_n (fun x2 => [(0, .ref 40), (1, .int a1), (2, .int a2), (3, .int x2), (4, .int a4)]) 31 rfl dX9_whenBroken_30 rfl (Nat.le_of_ble_eq_true rfl) rfl (fun _ => rfl) (fun x2 => ?_)
      refine n_iinc (fun x3 => [(0, .ref 40), (1, .int a1), (2, .int a2), (3, .int x2), (4, .int x3)]) 4 34 rfl dX9_whenBroken_31 rfl ic_1 (Nat.le_of_ble_eq_true rfl) rfl (fun _ => rfl) (fun x3 => ?_)
      refine v_goto 9 rfl dX9_whenBroken_34 ?_
      exact hk9 a1 a2 x2 x3 q1.2
    · refine v_iload 4 22 rfl dX9_whenBroken_20 rfl ?_
      exact v_iret rfl dX9_whenBroken_22
def f9_whenBroken_40_l9 : Nat → Int32 → Int32 → Int32 → Int32 → jv_H → Option (Int32 × jv_H)
  | 0 => fun _ _ _ _ _ => none
  | n + 1 => fun a1 a2 a3 a4 h => g9_whenBroken_40_b9 (f9_whenBroken_40_l9 n) a1 a2 a3 a4 h
theorem w9_whenBroken_40_l9 {l : Launch} {d : Nat} (hd : 1 ≤ d) : ∀ (n : Nat) (a1 : Int32) (a2 : Int32) (a3 : Int32) (a4 : Int32) (h : jv_H), jv_V l RX9 cX9_whenBroken 5 (some .int) d (SC ++ SM) jv_ri 9 [(0, .ref 40), (1, .int a1), (2, .int a2), (3, .int a3), (4, .int a4)] [] h (f9_whenBroken_40_l9 n a1 a2 a3 a4 h) := by
  intro n
  induction n with
  | zero => intro a1 a2 a3 a4 h; exact v_none
  | succ n ih => intro a1 a2 a3 a4 h; exact b9_whenBroken_40_b9 hd (f9_whenBroken_40_l9 n) ih a1 a2 a3 a4 h
def f9_whenBroken_40 (a1 : Int32) (a2 : Int32) (h : jv_H) : Option (Int32 × jv_H) := (f9_heat_40 a1 h).bind fun q1 => jv_let q1.1 fun x2 => jv_let (0 : Int32) fun x3 => f9_whenBroken_40_l9 jv_fuel a1 a2 x2 x3 q1.2
set_option maxRecDepth 20000 in
theorem e9_whenBroken_40 {l : Launch} {d : Nat} (hd : 1 ≤ d) (a1 : Int32) (a2 : Int32) (h : jv_H) : jv_E l yX9_whenBroken cX9_whenBroken 5 (some .int) d (SC ++ SM) jv_ri [.ref 40, .int a1, .int a2] h (f9_whenBroken_40 a1 a2 h) := by
  refine e_of [(0, .ref 40), (1, .int a1), (2, .int a2)] rfl pn_X9 (fun _ => Nat.le_of_ble_eq_true rfl) (fun _ => rfl) ?_
  unfold f9_whenBroken_40
  refine v_aload_n 0 1 rfl dX9_whenBroken_0 rfl rfl ?_
  refine v_iload_n 1 2 rfl dX9_whenBroken_1 rfl rfl ?_
  refine n_callv [.int a1] [] (fun r => .int r :: []) 5 rfl (by omega) (Nat.le_of_ble_eq_true rfl) cb_X9_heat cv_X9_143 sc_40 cn_X9 rfl (Nat.le_of_ble_eq_true rfl) dX9_whenBroken_2 rfl (fun _ => rfl) (e9_heat_40 (by omega) a1 h) (fun q1 => ?_)
  refine n_istore_n (fun x2 => [(0, .ref 40), (1, .int a1), (2, .int a2), (3, .int x2)]) 6 rfl dX9_whenBroken_5 rfl (Nat.le_of_ble_eq_true rfl) rfl (fun _ => rfl) (fun x2 => ?_)
  refine v_iconst 7 rfl dX9_whenBroken_6 ic_0 ?_
  refine n_istore (fun x3 => [(0, .ref 40), (1, .int a1), (2, .int a2), (3, .int x2), (4, .int x3)]) 9 rfl dX9_whenBroken_7 (Nat.le_of_ble_eq_true rfl) rfl (fun _ => rfl) (fun x3 => ?_)
  exact w9_whenBroken_40_l9 hd jv_fuel a1 a2 x2 x3 q1.2
-- TemperNursesModel.ways()I at 40
def g9_ways_40_b4 (k4 : Int32 → Int32 → jv_H → Option (Int32 × jv_H)) (a1 : Int32) (a2 : Int32) (h : jv_H) : Option (Int32 × jv_H) := if (h.1 40 0) ≤ a2 then some (a1, h) else jv_let (a1 * ((h.1 40 1) + (1 : Int32))) fun x1 => jv_let (a2 + (1 : Int32)) fun x2 => k4 x1 x2 h
set_option maxRecDepth 20000 in
theorem b9_ways_40_b4 {l : Launch} {d : Nat} (hd : 0 ≤ d) (k4 : Int32 → Int32 → jv_H → Option (Int32 × jv_H)) (hk4 : ∀ (a1 a2 : Int32) (h : jv_H), jv_V l RX9 cX9_ways 3 (some .int) d (SC ++ SM) jv_ri 4 [(0, .ref 40), (1, .int a1), (2, .int a2)] [] h (k4 a1 a2 h)) : ∀ (a1 : Int32) (a2 : Int32) (h : jv_H), jv_V l RX9 cX9_ways 3 (some .int) d (SC ++ SM) jv_ri 4 [(0, .ref 40), (1, .int a1), (2, .int a2)] [] h (g9_ways_40_b4 k4 a1 a2 h) := by
  intro a1 a2 h
  unfold g9_ways_40_b4
  refine v_iload_n 2 5 rfl dX9_ways_4 rfl rfl ?_
  refine v_aload_n 0 6 rfl dX9_ways_5 rfl rfl ?_
  refine v_geti 9 rfl fl_X9_71 sc_40 rfl dX9_ways_6 ?_
  refine v_icmp_ge 27 12 rfl rfl dX9_ways_9 (fun _ => ?_) (fun _ => ?_)
  · refine v_iload_n 1 28 rfl dX9_ways_27 rfl rfl ?_
    exact v_iret rfl dX9_ways_28
  · refine v_iload_n 1 13 rfl dX9_ways_12 rfl rfl ?_
    refine v_aload_n 0 14 rfl dX9_ways_13 rfl rfl ?_
    refine v_geti 17 rfl fl_X9_79 sc_40 rfl dX9_ways_14 ?_
    refine v_iconst 18 rfl dX9_ways_17 ic_1 ?_
    refine v_iadd 19 rfl dX9_ways_18 ?_
    refine v_imul 20 rfl dX9_ways_19 ?_
    refine n_istore_n (fun x1 => [(0, .ref 40), (1, .int x1), (2, .int a2)]) 21 rfl dX9_ways_20 rfl (Nat.le_of_ble_eq_true rfl) rfl (fun _ => rfl) (fun x1 => ?_)
    refine n_iinc (fun x2 => [(0, .ref 40), (1, .int x1), (2, .int x2)]) 2 24 rfl dX9_ways_21 rfl ic_1 (Nat.le_of_ble_eq_true rfl) rfl (fun _ => rfl) (fun x2 => ?_)
    refine v_goto 4 rfl dX9_ways_24 ?_
    exact hk4 x1 x2 h
def f9_ways_40_l4 : Nat → Int32 → Int32 → jv_H → Option (Int32 × jv_H)
  | 0 => fun _ _ _ => none
  | n + 1 => fun a1 a2 h => g9_ways_40_b4 (f9_ways_40_l4 n) a1 a2 h
theorem w9_ways_40_l4 {l : Launch} {d : Nat} (hd : 0 ≤ d) : ∀ (n : Nat) (a1 : Int32) (a2 : Int32) (h : jv_H), jv_V l RX9 cX9_ways 3 (some .int) d (SC ++ SM) jv_ri 4 [(0, .ref 40), (1, .int a1), (2, .int a2)] [] h (f9_ways_40_l4 n a1 a2 h) := by
  intro n
  induction n with
  | zero => intro a1 a2 h; exact v_none
  | succ n ih => intro a1 a2 h; exact b9_ways_40_b4 hd (f9_ways_40_l4 n) ih a1 a2 h
def f9_ways_40 (h : jv_H) : Option (Int32 × jv_H) := jv_let (1 : Int32) fun x1 => jv_let (0 : Int32) fun x2 => f9_ways_40_l4 jv_fuel x1 x2 h
set_option maxRecDepth 20000 in
theorem e9_ways_40 {l : Launch} {d : Nat} (hd : 0 ≤ d) (h : jv_H) : jv_E l yX9_ways cX9_ways 3 (some .int) d (SC ++ SM) jv_ri [.ref 40] h (f9_ways_40  h) := by
  refine e_of [(0, .ref 40)] rfl pn_X9 (fun _ => Nat.le_of_ble_eq_true rfl) (fun _ => rfl) ?_
  unfold f9_ways_40
  refine v_iconst 1 rfl dX9_ways_0 ic_1 ?_
  refine n_istore_n (fun x1 => [(0, .ref 40), (1, .int x1)]) 2 rfl dX9_ways_1 rfl (Nat.le_of_ble_eq_true rfl) rfl (fun _ => rfl) (fun x1 => ?_)
  refine v_iconst 3 rfl dX9_ways_2 ic_0 ?_
  refine n_istore_n (fun x2 => [(0, .ref 40), (1, .int x1), (2, .int x2)]) 4 rfl dX9_ways_3 rfl (Nat.le_of_ble_eq_true rfl) rfl (fun _ => rfl) (fun x2 => ?_)
  exact w9_ways_40_l4 hd jv_fuel x1 x2 h
-- TemperNursesModel.mayBe(I)Z at 40
def g9_mayBe_40_b143 (k38 : Int32 → Int32 → Int32 → jv_H → Option (Int32 × jv_H)) (a2 : Int32) (a4 : Int32) (a5 : Int32) (s0 : Int32) (h : jv_H) : Option (Int32 × jv_H) := jv_let s0 fun x1 => if jv_ix a5 5 then if jv_ix a5 5 then jv_let (jv_p h 57 (Int32.toNatClampNeg a5) ((h.1 57 (Int32.toNatClampNeg a5)) ||| ((1 : Int32) <<< (a4 &&& 31)))) fun h2 => jv_let (a4 + (-1 : Int32)) fun x3 => k38 a2 x1 x3 h2 else none else none
set_option maxRecDepth 20000 in
theorem b9_mayBe_40_b143 {l : Launch} {d : Nat} (hd : 1 ≤ d) (k38 : Int32 → Int32 → Int32 → jv_H → Option (Int32 × jv_H)) (hk38 : ∀ (a2 a3 a4 : Int32) (h : jv_H), jv_V l RX9 cX9_mayBe 6 (some .boolean) d (SC ++ SM) jv_ri 38 [(0, .ref 40), (2, .int a2), (3, .int a3), (4, .int a4)] [] h (k38 a2 a3 a4 h)) : ∀ (a2 : Int32) (a4 : Int32) (a5 : Int32) (s0 : Int32) (h : jv_H), jv_V l RX9 cX9_mayBe 6 (some .boolean) d (SC ++ SM) jv_ri 143 [(0, .ref 40), (2, .int a2), (4, .int a4), (5, .int a5)] [.int s0] h (g9_mayBe_40_b143 k38 a2 a4 a5 s0 h) := by
  intro a2 a4 a5 s0 h
  unfold g9_mayBe_40_b143
  refine n_istore_n (fun x1 => [(0, .ref 40), (2, .int a2), (4, .int a4), (5, .int a5), (3, .int x1)]) 144 rfl dX9_mayBe_143 rfl (Nat.le_of_ble_eq_true rfl) rfl (fun _ => rfl) (fun x1 => ?_)
  refine v_aload_n 0 145 rfl dX9_mayBe_144 rfl rfl ?_
  refine v_getr 148 rfl fl_X9_59 sc_40 rfl dX9_mayBe_145 ?_
  refine v_iload 3 150 rfl dX9_mayBe_148 rfl ?_
  refine v_dup2 151 rfl dX9_mayBe_150 ?_
  refine v_iald 152 rfl sc_57 dX9_mayBe_151 (fun _ => ?_)
  refine v_iconst 153 rfl dX9_mayBe_152 ic_1 ?_
  refine v_iload 2 155 rfl dX9_mayBe_153 rfl ?_
  refine v_ishl 156 rfl dX9_mayBe_155 ?_
  refine v_ior 157 rfl dX9_mayBe_156 ?_
  refine n_iast 158 rfl sc_57 dX9_mayBe_157 (fun h2 => ?_)
  refine n_iinc (fun x3 => [(0, .ref 40), (2, .int a2), (4, .int x3), (5, .int a5), (3, .int x1)]) 2 161 rfl dX9_mayBe_158 rfl ic_m1 (Nat.le_of_ble_eq_true rfl) rfl (fun _ => rfl) (fun x3 => ?_)
  refine v_goto 38 rfl dX9_mayBe_161 ?_
  refine v_sub [0, 1, 4, 2] rfl ?_
  exact hk38 a2 x1 x3 h2
def g9_mayBe_40_b138 (k38 : Int32 → Int32 → Int32 → jv_H → Option (Int32 × jv_H)) (a2 : Int32) (a4 : Int32) (a5 : Int32) (h : jv_H) : Option (Int32 × jv_H) := g9_mayBe_40_b143 k38 a2 a4 a5 (1 : Int32) h
set_option maxRecDepth 20000 in
theorem b9_mayBe_40_b138 {l : Launch} {d : Nat} (hd : 1 ≤ d) (k38 : Int32 → Int32 → Int32 → jv_H → Option (Int32 × jv_H)) (hk38 : ∀ (a2 a3 a4 : Int32) (h : jv_H), jv_V l RX9 cX9_mayBe 6 (some .boolean) d (SC ++ SM) jv_ri 38 [(0, .ref 40), (2, .int a2), (3, .int a3), (4, .int a4)] [] h (k38 a2 a3 a4 h)) : ∀ (a2 : Int32) (a4 : Int32) (a5 : Int32) (h : jv_H), jv_V l RX9 cX9_mayBe 6 (some .boolean) d (SC ++ SM) jv_ri 138 [(0, .ref 40), (2, .int a2), (4, .int a4), (5, .int a5)] [] h (g9_mayBe_40_b138 k38 a2 a4 a5 h) := by
  intro a2 a4 a5 h
  unfold g9_mayBe_40_b138
  refine v_iconst 139 rfl dX9_mayBe_138 ic_1 ?_
  refine v_goto 143 rfl dX9_mayBe_139 ?_
  exact b9_mayBe_40_b143 hd k38 hk38 a2 a4 a5 (1 : Int32) h
def g9_mayBe_40_b142 (k38 : Int32 → Int32 → Int32 → jv_H → Option (Int32 × jv_H)) (a2 : Int32) (a4 : Int32) (a5 : Int32) (h : jv_H) : Option (Int32 × jv_H) := g9_mayBe_40_b143 k38 a2 a4 a5 (0 : Int32) h
set_option maxRecDepth 20000 in
theorem b9_mayBe_40_b142 {l : Launch} {d : Nat} (hd : 1 ≤ d) (k38 : Int32 → Int32 → Int32 → jv_H → Option (Int32 × jv_H)) (hk38 : ∀ (a2 a3 a4 : Int32) (h : jv_H), jv_V l RX9 cX9_mayBe 6 (some .boolean) d (SC ++ SM) jv_ri 38 [(0, .ref 40), (2, .int a2), (3, .int a3), (4, .int a4)] [] h (k38 a2 a3 a4 h)) : ∀ (a2 : Int32) (a4 : Int32) (a5 : Int32) (h : jv_H), jv_V l RX9 cX9_mayBe 6 (some .boolean) d (SC ++ SM) jv_ri 142 [(0, .ref 40), (2, .int a2), (4, .int a4), (5, .int a5)] [] h (g9_mayBe_40_b142 k38 a2 a4 a5 h) := by
  intro a2 a4 a5 h
  unfold g9_mayBe_40_b142
  refine v_iconst 143 rfl dX9_mayBe_142 ic_0 ?_
  exact b9_mayBe_40_b143 hd k38 hk38 a2 a4 a5 (0 : Int32) h
def g9_mayBe_40_b38 (k38 : Int32 → Int32 → Int32 → jv_H → Option (Int32 × jv_H)) (a2 : Int32) (a3 : Int32) (a4 : Int32) (h : jv_H) : Option (Int32 × jv_H) := if a4 < 0 then if a3 = 0 ∨ a3 = 1 then some (a3, h) else none else if ((h.1 40 1) + (1 : Int32)) = 0 then none else jv_let (a2 - a2 / ((h.1 40 1) + (1 : Int32)) * ((h.1 40 1) + (1 : Int32))) fun x1 => if ((h.1 40 1) + (1 : Int32)) = 0 then none else jv_let (a2 / ((h.1 40 1) + (1 : Int32))) fun x2 => if jv_ix a4 6 then jv_let (jv_p h 55 (Int32.toNatClampNeg a4) x1) fun h3 => if a3 = 0 then g9_mayBe_40_b142 k38 x2 a4 x1 h3 else if x1 = (h3.1 40 1) then g9_mayBe_40_b138 k38 x2 a4 x1 h3 else (f9_heat_40 a4 h3).bind fun q4 => if jv_ix x1 4 then if (q4.2.1 46 (Int32.toNatClampNeg x1)) < q4.1 then g9_mayBe_40_b142 k38 x2 a4 x1 q4.2 else if jv_ix x1 5 then (f9_bits (q4.2.1 57 (Int32.toNatClampNeg x1)) q4.2).bind fun q5 => if jv_ix x1 4 then if (q5.2.1 45 (Int32.toNatClampNeg x1)) ≤ q5.1 then g9_mayBe_40_b142 k38 x2 a4 x1 q5.2 else if jv_ix x1 5 then if jv_ix a4 6 then if ((q5.2.1 57 (Int32.toNatClampNeg x1)) &&& (q5.2.1 43 (Int32.toNatClampNeg a4))) = 0 then g9_mayBe_40_b138 k38 x2 a4 x1 q5.2 else g9_mayBe_40_b142 k38 x2 a4 x1 q5.2 else none else none else none else none else none else none
set_option maxRecDepth 20000 in
theorem b9_mayBe_40_b38 {l : Launch} {d : Nat} (hd : 1 ≤ d) (k38 : Int32 → Int32 → Int32 → jv_H → Option (Int32 × jv_H)) (hk38 : ∀ (a2 a3 a4 : Int32) (h : jv_H), jv_V l RX9 cX9_mayBe 6 (some .boolean) d (SC ++ SM) jv_ri 38 [(0, .ref 40), (2, .int a2), (3, .int a3), (4, .int a4)] [] h (k38 a2 a3 a4 h)) : ∀ (a2 : Int32) (a3 : Int32) (a4 : Int32) (h : jv_H), jv_V l RX9 cX9_mayBe 6 (some .boolean) d (SC ++ SM) jv_ri 38 [(0, .ref 40), (2, .int a2), (3, .int a3), (4, .int a4)] [] h (g9_mayBe_40_b38 k38 a2 a3 a4 h) := by
  intro a2 a3 a4 h
  unfold g9_mayBe_40_b38
  refine v_iload 3 40 rfl dX9_mayBe_38 rfl ?_
  refine v_if_lt 164 43 rfl rfl dX9_mayBe_40 (fun _ => ?_) (fun _ => ?_)
  · refine v_iload_n 2 165 rfl dX9_mayBe_164 rfl rfl ?_
    exact v_zret rfl dX9_mayBe_165
  · refine v_iload_n 1 44 rfl dX9_mayBe_43 rfl rfl ?_
    refine v_aload_n 0 45 rfl dX9_mayBe_44 rfl rfl ?_
    refine v_geti 48 rfl fl_X9_79 sc_40 rfl dX9_mayBe_45 ?_
    refine v_iconst 49 rfl dX9_mayBe_48 ic_1 ?_
    refine v_iadd 50 rfl dX9_mayBe_49 ?_
    refine v_irem 51 rfl dX9_mayBe_50 (fun _ => ?_)
    refine n_istore (fun x1 => [(0, .ref 40), (2, .int a2), (3, .int a3), (4, .int a4), (5, .int x1)]) 53 rfl dX9_mayBe_51 (Nat.le_of_ble_eq_true rfl) rfl (fun _ => rfl) (fun x1 => ?_)
    refine v_iload_n 1 54 rfl dX9_mayBe_53 rfl rfl ?_
    refine v_aload_n 0 55 rfl dX9_mayBe_54 rfl rfl ?_
    refine v_geti 58 rfl fl_X9_79 sc_40 rfl dX9_mayBe_55 ?_
    refine v_iconst 59 rfl dX9_mayBe_58 ic_1 ?_
    refine v_iadd 60 rfl dX9_mayBe_59 ?_
    refine v_idiv 61 rfl dX9_mayBe_60 (fun _ => ?_)
    refine n_istore_n (fun x2 => [(0, .ref 40), (2, .int x2), (3, .int a3), (4, .int a4), (5, .int x1)]) 62 rfl dX9_mayBe_61 rfl (Nat.le_of_ble_eq_true rfl) rfl (fun _ => rfl) (fun x2 => ?_)
    refine v_aload_n 0 63 rfl dX9_mayBe_62 rfl rfl ?_
    refine v_getr 66 rfl fl_X9_53 sc_40 rfl dX9_mayBe_63 ?_
    refine v_iload 3 68 rfl dX9_mayBe_66 rfl ?_
    refine v_iload 4 70 rfl dX9_mayBe_68 rfl ?_
    refine n_iast 71 rfl sc_55 dX9_mayBe_70 (fun h3 => ?_)
    refine v_iload_n 2 72 rfl dX9_mayBe_71 rfl rfl ?_
    refine v_if_eq 142 75 rfl rfl dX9_mayBe_72 (fun _ => ?_) (fun _ => ?_)
    · refine v_sub [0, 1, 3, 4] rfl ?_
      exact b9_mayBe_40_b142 hd k38 hk38 x2 a4 x1 h3
    · refine v_iload 4 77 rfl dX9_mayBe_75 rfl ?_
      refine v_aload_n 0 78 rfl dX9_mayBe_77 rfl rfl ?_
      refine v_geti 81 rfl fl_X9_79 sc_40 rfl dX9_mayBe_78 ?_
      refine v_icmp_eq 138 84 rfl rfl dX9_mayBe_81 (fun _ => ?_) (fun _ => ?_)
      · refine v_sub [0, 1, 3, 4] rfl ?_
        exact b9_mayBe_40_b138 hd k38 hk38 x2 a4 x1 h3
      · refine v_aload_n 0 85 rfl dX9_mayBe_84 rfl rfl ?_
        refine v_iload 3 87 rfl dX9_mayBe_85 rfl ?_
        refine n_callv [.int a4] [] (fun r => .int r :: []) 90 rfl (by omega) (Nat.le_of_ble_eq_true rfl) cb_X9_heat cv_X9_143 sc_40 cn_X9 rfl (Nat.le_of_ble_eq_true rfl) dX9_mayBe_87 rfl (fun _ => rfl) (e9_heat_40 (by omega) a4 h3) (fun q4 => ?_)
        refine v_aload_n 0 91 rfl dX9_mayBe_90 rfl rfl ?_
        refine v_getr 94 rfl fl_X9_25 sc_40 rfl dX9_mayBe_91 ?_
        refine v_iload 4 96 rfl dX9_mayBe_94 rfl ?_
        refine v_iald 97 rfl sc_46 dX9_mayBe_96 (fun _ => ?_)
        refine v_icmp_gt 142 100 rfl rfl dX9_mayBe_97 (fun _ => ?_) (fun _ => ?_)
        · refine v_sub [0, 1, 3, 4] rfl ?_
          exact b9_mayBe_40_b142 hd k38 hk38 x2 a4 x1 q4.2
        · refine v_aload_n 0 101 rfl dX9_mayBe_100 rfl rfl ?_
          refine v_getr 104 rfl fl_X9_59 sc_40 rfl dX9_mayBe_101 ?_
          refine v_iload 4 106 rfl dX9_mayBe_104 rfl ?_
          refine v_iald 107 rfl sc_57 dX9_mayBe_106 (fun _ => ?_)
          refine n_calls [.int (q4.2.1 57 (Int32.toNatClampNeg x1))] [] (fun r => .int r :: []) 110 rfl (by omega) (Nat.le_of_ble_eq_true rfl) cb_X9_bits cs_X9_146 rfl (Nat.le_of_ble_eq_true rfl) dX9_mayBe_107 rfl (fun _ => rfl) (e9_bits (by omega) (q4.2.1 57 (Int32.toNatClampNeg x1)) q4.2) (fun q5 => ?_)
          refine v_aload_n 0 111 rfl dX9_mayBe_110 rfl rfl ?_
          refine v_getr 114 rfl fl_X9_22 sc_40 rfl dX9_mayBe_111 ?_
          refine v_iload 4 116 rfl dX9_mayBe_114 rfl ?_
          refine v_iald 117 rfl sc_45 dX9_mayBe_116 (fun _ => ?_)
          refine v_icmp_ge 142 120 rfl rfl dX9_mayBe_117 (fun _ => ?_) (fun _ => ?_)
          · refine v_sub [0, 1, 3, 4] rfl ?_
            exact b9_mayBe_40_b142 hd k38 hk38 x2 a4 x1 q5.2
          · refine v_aload_n 0 121 rfl dX9_mayBe_120 rfl rfl ?_
            refine v_getr 124 rfl fl_X9_59 sc_40 rfl dX9_mayBe_121 ?_
            refine v_iload 4 126 rfl dX9_mayBe_124 rfl ?_
            refine v_iald 127 rfl sc_57 dX9_mayBe_126 (fun _ => ?_)
            refine v_aload_n 0 128 rfl dX9_mayBe_127 rfl rfl ?_
            refine v_getr 131 rfl fl_X9_16 sc_40 rfl dX9_mayBe_128 ?_
            refine v_iload 3 133 rfl dX9_mayBe_131 rfl ?_
            refine v_iald 134 rfl sc_43 dX9_mayBe_133 (fun _ => ?_)
            refine v_iand 135 rfl dX9_mayBe_134 ?_
            refine v_if_ne 142 138 rfl rfl dX9_mayBe_135 (fun _ => ?_) (fun _ => ?_)
            · refine v_sub [0, 1, 3, 4] rfl ?_
              exact b9_mayBe_40_b142 hd k38 hk38 x2 a4 x1 q5.2
            · refine v_sub [0, 1, 3, 4] rfl ?_
              exact b9_mayBe_40_b138 hd k38 hk38 x2 a4 x1 q5.2
def f9_mayBe_40_l38 : Nat → Int32 → Int32 → Int32 → jv_H → Option (Int32 × jv_H)
  | 0 => fun _ _ _ _ => none
  | n + 1 => fun a2 a3 a4 h => g9_mayBe_40_b38 (f9_mayBe_40_l38 n) a2 a3 a4 h
theorem w9_mayBe_40_l38 {l : Launch} {d : Nat} (hd : 1 ≤ d) : ∀ (n : Nat) (a2 : Int32) (a3 : Int32) (a4 : Int32) (h : jv_H), jv_V l RX9 cX9_mayBe 6 (some .boolean) d (SC ++ SM) jv_ri 38 [(0, .ref 40), (2, .int a2), (3, .int a3), (4, .int a4)] [] h (f9_mayBe_40_l38 n a2 a3 a4 h) := by
  intro n
  induction n with
  | zero => intro a2 a3 a4 h; exact v_none
  | succ n ih => intro a2 a3 a4 h; exact b9_mayBe_40_b38 hd (f9_mayBe_40_l38 n) ih a2 a3 a4 h
def g9_mayBe_40_b7 (k7 : Int32 → Int32 → Int32 → jv_H → Option (Int32 × jv_H)) (a2 : Int32) (a3 : Int32) (a4 : Int32) (h : jv_H) : Option (Int32 × jv_H) := if (h.1 40 1) < a4 then jv_let ((h.1 40 0) - (1 : Int32)) fun x1 => f9_mayBe_40_l38 jv_fuel a2 a3 x1 h else if jv_ix a4 5 then jv_let (jv_p h 57 (Int32.toNatClampNeg a4) (0 : Int32)) fun h2 => jv_let (a4 + (1 : Int32)) fun x3 => k7 a2 a3 x3 h2 else none
set_option maxRecDepth 20000 in
theorem b9_mayBe_40_b7 {l : Launch} {d : Nat} (hd : 1 ≤ d) (k7 : Int32 → Int32 → Int32 → jv_H → Option (Int32 × jv_H)) (hk7 : ∀ (a2 a3 a4 : Int32) (h : jv_H), jv_V l RX9 cX9_mayBe 6 (some .boolean) d (SC ++ SM) jv_ri 7 [(0, .ref 40), (2, .int a2), (3, .int a3), (4, .int a4)] [] h (k7 a2 a3 a4 h)) : ∀ (a2 : Int32) (a3 : Int32) (a4 : Int32) (h : jv_H), jv_V l RX9 cX9_mayBe 6 (some .boolean) d (SC ++ SM) jv_ri 7 [(0, .ref 40), (2, .int a2), (3, .int a3), (4, .int a4)] [] h (g9_mayBe_40_b7 k7 a2 a3 a4 h) := by
  intro a2 a3 a4 h
  unfold g9_mayBe_40_b7
  refine v_iload 3 9 rfl dX9_mayBe_7 rfl ?_
  refine v_aload_n 0 10 rfl dX9_mayBe_9 rfl rfl ?_
  refine v_geti 13 rfl fl_X9_79 sc_40 rfl dX9_mayBe_10 ?_
  refine v_icmp_gt 30 16 rfl rfl dX9_mayBe_13 (fun _ => ?_) (fun _ => ?_)
  · refine v_aload_n 0 31 rfl dX9_mayBe_30 rfl rfl ?_
    refine v_geti 34 rfl fl_X9_71 sc_40 rfl dX9_mayBe_31 ?_
    refine v_iconst 35 rfl dX9_mayBe_34 ic_1 ?_
    refine v_isub 36 rfl dX9_mayBe_35 ?_
    refine n_istore (fun x1 => [(0, .ref 40), (2, .int a2), (3, .int a3), (4, .int x1)]) 38 rfl dX9_mayBe_36 (Nat.le_of_ble_eq_true rfl) rfl (fun _ => rfl) (fun x1 => ?_)
    exact w9_mayBe_40_l38 hd jv_fuel a2 a3 x1 h
  · refine v_aload_n 0 17 rfl dX9_mayBe_16 rfl rfl ?_
    refine v_getr 20 rfl fl_X9_59 sc_40 rfl dX9_mayBe_17 ?_
    refine v_iload 3 22 rfl dX9_mayBe_20 rfl ?_
    refine v_iconst 23 rfl dX9_mayBe_22 ic_0 ?_
    refine n_iast 24 rfl sc_57 dX9_mayBe_23 (fun h2 => ?_)
    refine n_iinc (fun x3 => [(0, .ref 40), (2, .int a2), (3, .int a3), (4, .int x3)]) 3 27 rfl dX9_mayBe_24 rfl ic_1 (Nat.le_of_ble_eq_true rfl) rfl (fun _ => rfl) (fun x3 => ?_)
    refine v_goto 7 rfl dX9_mayBe_27 ?_
    exact hk7 a2 a3 x3 h2
def f9_mayBe_40_l7 : Nat → Int32 → Int32 → Int32 → jv_H → Option (Int32 × jv_H)
  | 0 => fun _ _ _ _ => none
  | n + 1 => fun a2 a3 a4 h => g9_mayBe_40_b7 (f9_mayBe_40_l7 n) a2 a3 a4 h
theorem w9_mayBe_40_l7 {l : Launch} {d : Nat} (hd : 1 ≤ d) : ∀ (n : Nat) (a2 : Int32) (a3 : Int32) (a4 : Int32) (h : jv_H), jv_V l RX9 cX9_mayBe 6 (some .boolean) d (SC ++ SM) jv_ri 7 [(0, .ref 40), (2, .int a2), (3, .int a3), (4, .int a4)] [] h (f9_mayBe_40_l7 n a2 a3 a4 h) := by
  intro n
  induction n with
  | zero => intro a2 a3 a4 h; exact v_none
  | succ n ih => intro a2 a3 a4 h; exact b9_mayBe_40_b7 hd (f9_mayBe_40_l7 n) ih a2 a3 a4 h
def f9_mayBe_40 (a1 : Int32) (h : jv_H) : Option (Int32 × jv_H) := jv_let a1 fun x1 => jv_let (1 : Int32) fun x2 => jv_let (0 : Int32) fun x3 => f9_mayBe_40_l7 jv_fuel x1 x2 x3 h
set_option maxRecDepth 20000 in
theorem e9_mayBe_40 {l : Launch} {d : Nat} (hd : 1 ≤ d) (a1 : Int32) (h : jv_H) : jv_E l yX9_mayBe cX9_mayBe 6 (some .boolean) d (SC ++ SM) jv_ri [.ref 40, .int a1] h (f9_mayBe_40 a1 h) := by
  refine e_of [(0, .ref 40), (1, .int a1)] rfl pn_X9 (fun _ => Nat.le_of_ble_eq_true rfl) (fun _ => rfl) ?_
  unfold f9_mayBe_40
  refine v_iload_n 1 1 rfl dX9_mayBe_0 rfl rfl ?_
  refine n_istore_n (fun x1 => [(0, .ref 40), (1, .int a1), (2, .int x1)]) 2 rfl dX9_mayBe_1 rfl (Nat.le_of_ble_eq_true rfl) rfl (fun _ => rfl) (fun x1 => ?_)
  refine v_iconst 3 rfl dX9_mayBe_2 ic_1 ?_
  refine n_istore_n (fun x2 => [(0, .ref 40), (1, .int a1), (2, .int x1), (3, .int x2)]) 4 rfl dX9_mayBe_3 rfl (Nat.le_of_ble_eq_true rfl) rfl (fun _ => rfl) (fun x2 => ?_)
  refine v_iconst 5 rfl dX9_mayBe_4 ic_0 ?_
  refine n_istore (fun x3 => [(0, .ref 40), (1, .int a1), (2, .int x1), (3, .int x2), (4, .int x3)]) 7 rfl dX9_mayBe_5 (Nat.le_of_ble_eq_true rfl) rfl (fun _ => rfl) (fun x3 => ?_)
  refine v_sub [0, 2, 3, 4] rfl ?_
  exact w9_mayBe_40_l7 hd jv_fuel x1 x2 x3 h
-- TemperNursesModel.soonest()I at 40
def g9_soonest_40_b79 (k5 : Int32 → Int32 → jv_H → Option (Int32 × jv_H)) (k15 : Int32 → Int32 → Int32 → jv_H → Option (Int32 × jv_H)) (a1 : Int32) (a2 : Int32) (a3 : Int32) (s1 : Int32) (s2 : Int32) (h : jv_H) : Option (Int32 × jv_H) := if jv_ix s1 30 then jv_let (jv_p h 58 (Int32.toNatClampNeg s1) s2) fun h1 => jv_let (a3 + (1 : Int32)) fun x2 => k15 a1 a2 x2 h1 else none
set_option maxRecDepth 20000 in
theorem b9_soonest_40_b79 {l : Launch} {d : Nat} (hd : 2 ≤ d) (k5 : Int32 → Int32 → jv_H → Option (Int32 × jv_H)) (hk5 : ∀ (a1 a2 : Int32) (h : jv_H), jv_V l RX9 cX9_soonest 6 (some .int) d (SC ++ SM) jv_ri 5 [(0, .ref 40), (1, .int a1), (2, .int a2)] [] h (k5 a1 a2 h)) (k15 : Int32 → Int32 → Int32 → jv_H → Option (Int32 × jv_H)) (hk15 : ∀ (a1 a2 a3 : Int32) (h : jv_H), jv_V l RX9 cX9_soonest 6 (some .int) d (SC ++ SM) jv_ri 15 [(0, .ref 40), (1, .int a1), (2, .int a2), (3, .int a3)] [] h (k15 a1 a2 a3 h)) : ∀ (a1 : Int32) (a2 : Int32) (a3 : Int32) (s1 : Int32) (s2 : Int32) (h : jv_H), jv_V l RX9 cX9_soonest 6 (some .int) d (SC ++ SM) jv_ri 79 [(0, .ref 40), (1, .int a1), (2, .int a2), (3, .int a3)] [.int s2, .int s1, .ref 58] h (g9_soonest_40_b79 k5 k15 a1 a2 a3 s1 s2 h) := by
  intro a1 a2 a3 s1 s2 h
  unfold g9_soonest_40_b79
  refine n_iast 80 rfl sc_58 dX9_soonest_79 (fun h1 => ?_)
  refine n_iinc (fun x2 => [(0, .ref 40), (1, .int a1), (2, .int a2), (3, .int x2)]) 3 83 rfl dX9_soonest_80 rfl ic_1 (Nat.le_of_ble_eq_true rfl) rfl (fun _ => rfl) (fun x2 => ?_)
  refine v_goto 15 rfl dX9_soonest_83 ?_
  exact hk15 a1 a2 x2 h1
def g9_soonest_40_b54 (k5 : Int32 → Int32 → jv_H → Option (Int32 × jv_H)) (k15 : Int32 → Int32 → Int32 → jv_H → Option (Int32 × jv_H)) (a1 : Int32) (a2 : Int32) (a3 : Int32) (s0 : Int32) (h : jv_H) : Option (Int32 × jv_H) := jv_let s0 fun x1 => if x1 = (-9 : Int32) then g9_soonest_40_b79 k5 k15 a1 a2 a3 (((5 : Int32) * a2) + a3) (1000000 : Int32) h else g9_soonest_40_b79 k5 k15 a1 a2 a3 (((5 : Int32) * a2) + a3) x1 h
set_option maxRecDepth 20000 in
theorem b9_soonest_40_b54 {l : Launch} {d : Nat} (hd : 2 ≤ d) (k5 : Int32 → Int32 → jv_H → Option (Int32 × jv_H)) (hk5 : ∀ (a1 a2 : Int32) (h : jv_H), jv_V l RX9 cX9_soonest 6 (some .int) d (SC ++ SM) jv_ri 5 [(0, .ref 40), (1, .int a1), (2, .int a2)] [] h (k5 a1 a2 h)) (k15 : Int32 → Int32 → Int32 → jv_H → Option (Int32 × jv_H)) (hk15 : ∀ (a1 a2 a3 : Int32) (h : jv_H), jv_V l RX9 cX9_soonest 6 (some .int) d (SC ++ SM) jv_ri 15 [(0, .ref 40), (1, .int a1), (2, .int a2), (3, .int a3)] [] h (k15 a1 a2 a3 h)) : ∀ (a1 : Int32) (a2 : Int32) (a3 : Int32) (s0 : Int32) (h : jv_H), jv_V l RX9 cX9_soonest 6 (some .int) d (SC ++ SM) jv_ri 54 [(0, .ref 40), (1, .int a1), (2, .int a2), (3, .int a3)] [.int s0] h (g9_soonest_40_b54 k5 k15 a1 a2 a3 s0 h) := by
  intro a1 a2 a3 s0 h
  unfold g9_soonest_40_b54
  refine n_istore (fun x1 => [(0, .ref 40), (1, .int a1), (2, .int a2), (3, .int a3), (4, .int x1)]) 56 rfl dX9_soonest_54 (Nat.le_of_ble_eq_true rfl) rfl (fun _ => rfl) (fun x1 => ?_)
  refine v_aload_n 0 57 rfl dX9_soonest_56 rfl rfl ?_
  refine v_getr 60 rfl fl_X9_62 sc_40 rfl dX9_soonest_57 ?_
  refine v_iconst 61 rfl dX9_soonest_60 ic_5 ?_
  refine v_iload_n 2 62 rfl dX9_soonest_61 rfl rfl ?_
  refine v_imul 63 rfl dX9_soonest_62 ?_
  refine v_iload_n 3 64 rfl dX9_soonest_63 rfl rfl ?_
  refine v_iadd 65 rfl dX9_soonest_64 ?_
  refine v_iload 4 67 rfl dX9_soonest_65 rfl ?_
  refine v_bipush 69 rfl dX9_soonest_67 bp_m9 ?_
  refine v_icmp_ne 77 72 rfl rfl dX9_soonest_69 (fun _ => ?_) (fun _ => ?_)
  · refine v_iload 4 79 rfl dX9_soonest_77 rfl ?_
    refine v_sub [0, 1, 2, 3] rfl ?_
    exact b9_soonest_40_b79 hd k5 hk5 k15 hk15 a1 a2 a3 (((5 : Int32) * a2) + a3) x1 h
  · refine v_ldc 74 rfl mw_1047 dX9_soonest_72 ?_
    refine v_goto 79 rfl dX9_soonest_74 ?_
    refine v_sub [0, 1, 2, 3] rfl ?_
    exact b9_soonest_40_b79 hd k5 hk5 k15 hk15 a1 a2 a3 (((5 : Int32) * a2) + a3) (1000000 : Int32) h
def g9_soonest_40_b15 (k5 : Int32 → Int32 → jv_H → Option (Int32 × jv_H)) (k15 : Int32 → Int32 → Int32 → jv_H → Option (Int32 × jv_H)) (a1 : Int32) (a2 : Int32) (a3 : Int32) (h : jv_H) : Option (Int32 × jv_H) := if (h.1 40 1) < a3 then jv_let (a2 + (1 : Int32)) fun x1 => k5 a1 x1 h else if (h.1 40 1) ≤ a3 then (f9_heat_40 a2 h).bind fun q2 => if q2.1 = 0 then g9_soonest_40_b54 k5 k15 a1 a2 a3 (0 : Int32) q2.2 else g9_soonest_40_b54 k5 k15 a1 a2 a3 (-9 : Int32) q2.2 else (f9_whenBroken_40 a2 a3 h).bind fun q3 => g9_soonest_40_b54 k5 k15 a1 a2 a3 q3.1 q3.2
set_option maxRecDepth 20000 in
theorem b9_soonest_40_b15 {l : Launch} {d : Nat} (hd : 2 ≤ d) (k5 : Int32 → Int32 → jv_H → Option (Int32 × jv_H)) (hk5 : ∀ (a1 a2 : Int32) (h : jv_H), jv_V l RX9 cX9_soonest 6 (some .int) d (SC ++ SM) jv_ri 5 [(0, .ref 40), (1, .int a1), (2, .int a2)] [] h (k5 a1 a2 h)) (k15 : Int32 → Int32 → Int32 → jv_H → Option (Int32 × jv_H)) (hk15 : ∀ (a1 a2 a3 : Int32) (h : jv_H), jv_V l RX9 cX9_soonest 6 (some .int) d (SC ++ SM) jv_ri 15 [(0, .ref 40), (1, .int a1), (2, .int a2), (3, .int a3)] [] h (k15 a1 a2 a3 h)) : ∀ (a1 : Int32) (a2 : Int32) (a3 : Int32) (h : jv_H), jv_V l RX9 cX9_soonest 6 (some .int) d (SC ++ SM) jv_ri 15 [(0, .ref 40), (1, .int a1), (2, .int a2), (3, .int a3)] [] h (g9_soonest_40_b15 k5 k15 a1 a2 a3 h) := by
  intro a1 a2 a3 h
  unfold g9_soonest_40_b15
  refine v_iload_n 3 16 rfl dX9_soonest_15 rfl rfl ?_
  refine v_aload_n 0 17 rfl dX9_soonest_16 rfl rfl ?_
  refine v_geti 20 rfl fl_X9_79 sc_40 rfl dX9_soonest_17 ?_
  refine v_icmp_gt 86 23 rfl rfl dX9_soonest_20 (fun _ => ?_) (fun _ => ?_)
  · refine n_iinc (fun x1 => [(0, .ref 40), (1, .int a1), (2, .int x1), (3, .int a3)]) 2 89 rfl dX9_soonest_86 rfl ic_1 (Nat.le_of_ble_eq_true rfl) rfl (fun _ => rfl) (fun x1 => ?_)
    refine v_goto 5 rfl dX9_soonest_89 ?_
    refine v_sub [0, 1, 2] rfl ?_
    exact hk5 a1 x1 h
  · refine v_iload_n 3 24 rfl dX9_soonest_23 rfl rfl ?_
    refine v_aload_n 0 25 rfl dX9_soonest_24 rfl rfl ?_
    refine v_geti 28 rfl fl_X9_79 sc_40 rfl dX9_soonest_25 ?_
    refine v_icmp_ge 40 31 rfl rfl dX9_soonest_28 (fun _ => ?_) (fun _ => ?_)
    · refine v_aload_n 0 41 rfl dX9_soonest_40 rfl rfl ?_
      refine v_iload_n 2 42 rfl dX9_soonest_41 rfl rfl ?_
      refine n_callv [.int a2] [] (fun r => .int r :: []) 45 rfl (by omega) (Nat.le_of_ble_eq_true rfl) cb_X9_heat cv_X9_143 sc_40 cn_X9 rfl (Nat.le_of_ble_eq_true rfl) dX9_soonest_42 rfl (fun _ => rfl) (e9_heat_40 (by omega) a2 h) (fun q2 => ?_)
      refine v_if_ne 52 48 rfl rfl dX9_soonest_45 (fun _ => ?_) (fun _ => ?_)
      · refine v_bipush 54 rfl dX9_soonest_52 bp_m9 ?_
        exact b9_soonest_40_b54 hd k5 hk5 k15 hk15 a1 a2 a3 (-9 : Int32) q2.2
      · refine v_iconst 49 rfl dX9_soonest_48 ic_0 ?_
        refine v_goto 54 rfl dX9_soonest_49 ?_
        exact b9_soonest_40_b54 hd k5 hk5 k15 hk15 a1 a2 a3 (0 : Int32) q2.2
    · refine v_aload_n 0 32 rfl dX9_soonest_31 rfl rfl ?_
      refine v_iload_n 2 33 rfl dX9_soonest_32 rfl rfl ?_
      refine v_iload_n 3 34 rfl dX9_soonest_33 rfl rfl ?_
      refine n_callv [.int a2, .int a3] [] (fun r => .int r :: []) 37 rfl (by omega) (Nat.le_of_ble_eq_true rfl) cb_X9_whenBroken cv_X9_185 sc_40 cn_X9 rfl (Nat.le_of_ble_eq_true rfl) dX9_soonest_34 rfl (fun _ => rfl) (e9_whenBroken_40 (by omega) a2 a3 h) (fun q3 => ?_)
      refine v_goto 54 rfl dX9_soonest_37 ?_
      exact b9_soonest_40_b54 hd k5 hk5 k15 hk15 a1 a2 a3 q3.1 q3.2
def f9_soonest_40_l15 (k5 : Int32 → Int32 → jv_H → Option (Int32 × jv_H)) : Nat → Int32 → Int32 → Int32 → jv_H → Option (Int32 × jv_H)
  | 0 => fun _ _ _ _ => none
  | n + 1 => fun a1 a2 a3 h => g9_soonest_40_b15 k5 (f9_soonest_40_l15 k5 n) a1 a2 a3 h
theorem w9_soonest_40_l15 {l : Launch} {d : Nat} (hd : 2 ≤ d) (k5 : Int32 → Int32 → jv_H → Option (Int32 × jv_H)) (hk5 : ∀ (a1 a2 : Int32) (h : jv_H), jv_V l RX9 cX9_soonest 6 (some .int) d (SC ++ SM) jv_ri 5 [(0, .ref 40), (1, .int a1), (2, .int a2)] [] h (k5 a1 a2 h)) : ∀ (n : Nat) (a1 : Int32) (a2 : Int32) (a3 : Int32) (h : jv_H), jv_V l RX9 cX9_soonest 6 (some .int) d (SC ++ SM) jv_ri 15 [(0, .ref 40), (1, .int a1), (2, .int a2), (3, .int a3)] [] h (f9_soonest_40_l15 k5 n a1 a2 a3 h) := by
  intro n
  induction n with
  | zero => intro a1 a2 a3 h; exact v_none
  | succ n ih => intro a1 a2 a3 h; exact b9_soonest_40_b15 hd k5 hk5 (f9_soonest_40_l15 k5 n) ih a1 a2 a3 h
def g9_soonest_40_b155 (k94 : Int32 → Int32 → jv_H → Option (Int32 × jv_H)) (k115 : Int32 → Int32 → Int32 → Int32 → jv_H → Option (Int32 × jv_H)) (a1 : Int32) (a2 : Int32) (a4 : Int32) (s0 : Int32) (h : jv_H) : Option (Int32 × jv_H) := jv_let s0 fun x1 => jv_let (a4 + (1 : Int32)) fun x2 => k115 a1 a2 x1 x2 h
set_option maxRecDepth 20000 in
theorem b9_soonest_40_b155 {l : Launch} {d : Nat} (hd : 2 ≤ d) (k94 : Int32 → Int32 → jv_H → Option (Int32 × jv_H)) (hk94 : ∀ (a1 a2 : Int32) (h : jv_H), jv_V l RX9 cX9_soonest 6 (some .int) d (SC ++ SM) jv_ri 94 [(0, .ref 40), (1, .int a1), (2, .int a2)] [] h (k94 a1 a2 h)) (k115 : Int32 → Int32 → Int32 → Int32 → jv_H → Option (Int32 × jv_H)) (hk115 : ∀ (a1 a2 a3 a4 : Int32) (h : jv_H), jv_V l RX9 cX9_soonest 6 (some .int) d (SC ++ SM) jv_ri 115 [(0, .ref 40), (1, .int a1), (2, .int a2), (3, .int a3), (4, .int a4)] [] h (k115 a1 a2 a3 a4 h)) : ∀ (a1 : Int32) (a2 : Int32) (a4 : Int32) (s0 : Int32) (h : jv_H), jv_V l RX9 cX9_soonest 6 (some .int) d (SC ++ SM) jv_ri 155 [(0, .ref 40), (1, .int a1), (2, .int a2), (4, .int a4)] [.int s0] h (g9_soonest_40_b155 k94 k115 a1 a2 a4 s0 h) := by
  intro a1 a2 a4 s0 h
  unfold g9_soonest_40_b155
  refine n_istore_n (fun x1 => [(0, .ref 40), (1, .int a1), (2, .int a2), (4, .int a4), (3, .int x1)]) 156 rfl dX9_soonest_155 rfl (Nat.le_of_ble_eq_true rfl) rfl (fun _ => rfl) (fun x1 => ?_)
  refine n_iinc (fun x2 => [(0, .ref 40), (1, .int a1), (2, .int a2), (4, .int x2), (3, .int x1)]) 3 159 rfl dX9_soonest_156 rfl ic_1 (Nat.le_of_ble_eq_true rfl) rfl (fun _ => rfl) (fun x2 => ?_)
  refine v_goto 115 rfl dX9_soonest_159 ?_
  refine v_sub [0, 1, 2, 4, 3] rfl ?_
  exact hk115 a1 a2 x1 x2 h
def g9_soonest_40_b173 (k94 : Int32 → Int32 → jv_H → Option (Int32 × jv_H)) (a1 : Int32) (a2 : Int32) (h : jv_H) : Option (Int32 × jv_H) := jv_let (a2 + (1 : Int32)) fun x1 => k94 a1 x1 h
set_option maxRecDepth 20000 in
theorem b9_soonest_40_b173 {l : Launch} {d : Nat} (hd : 2 ≤ d) (k94 : Int32 → Int32 → jv_H → Option (Int32 × jv_H)) (hk94 : ∀ (a1 a2 : Int32) (h : jv_H), jv_V l RX9 cX9_soonest 6 (some .int) d (SC ++ SM) jv_ri 94 [(0, .ref 40), (1, .int a1), (2, .int a2)] [] h (k94 a1 a2 h)) : ∀ (a1 : Int32) (a2 : Int32) (h : jv_H), jv_V l RX9 cX9_soonest 6 (some .int) d (SC ++ SM) jv_ri 173 [(0, .ref 40), (1, .int a1), (2, .int a2)] [] h (g9_soonest_40_b173 k94 a1 a2 h) := by
  intro a1 a2 h
  unfold g9_soonest_40_b173
  refine n_iinc (fun x1 => [(0, .ref 40), (1, .int a1), (2, .int x1)]) 2 176 rfl dX9_soonest_173 rfl ic_1 (Nat.le_of_ble_eq_true rfl) rfl (fun _ => rfl) (fun x1 => ?_)
  refine v_goto 94 rfl dX9_soonest_176 ?_
  exact hk94 a1 x1 h
def g9_soonest_40_b172 (k94 : Int32 → Int32 → jv_H → Option (Int32 × jv_H)) (a2 : Int32) (s0 : Int32) (h : jv_H) : Option (Int32 × jv_H) := jv_let s0 fun x1 => g9_soonest_40_b173 k94 x1 a2 h
set_option maxRecDepth 20000 in
theorem b9_soonest_40_b172 {l : Launch} {d : Nat} (hd : 2 ≤ d) (k94 : Int32 → Int32 → jv_H → Option (Int32 × jv_H)) (hk94 : ∀ (a1 a2 : Int32) (h : jv_H), jv_V l RX9 cX9_soonest 6 (some .int) d (SC ++ SM) jv_ri 94 [(0, .ref 40), (1, .int a1), (2, .int a2)] [] h (k94 a1 a2 h)) : ∀ (a2 : Int32) (s0 : Int32) (h : jv_H), jv_V l RX9 cX9_soonest 6 (some .int) d (SC ++ SM) jv_ri 172 [(0, .ref 40), (2, .int a2)] [.int s0] h (g9_soonest_40_b172 k94 a2 s0 h) := by
  intro a2 s0 h
  unfold g9_soonest_40_b172
  refine n_istore_n (fun x1 => [(0, .ref 40), (2, .int a2), (1, .int x1)]) 173 rfl dX9_soonest_172 rfl (Nat.le_of_ble_eq_true rfl) rfl (fun _ => rfl) (fun x1 => ?_)
  refine v_sub [0, 2, 1] rfl ?_
  exact b9_soonest_40_b173 hd k94 hk94 x1 a2 h
def g9_soonest_40_b115 (k94 : Int32 → Int32 → jv_H → Option (Int32 × jv_H)) (k115 : Int32 → Int32 → Int32 → Int32 → jv_H → Option (Int32 × jv_H)) (a1 : Int32) (a2 : Int32) (a3 : Int32) (a4 : Int32) (h : jv_H) : Option (Int32 × jv_H) := if (h.1 40 0) ≤ a4 then if a1 ≤ a3 then g9_soonest_40_b172 k94 a2 a1 h else g9_soonest_40_b172 k94 a2 a3 h else if jv_ix a4 6 then if jv_ix (((5 : Int32) * a4) + (h.1 55 (Int32.toNatClampNeg a4))) 30 then jv_let (h.1 58 (Int32.toNatClampNeg (((5 : Int32) * a4) + (h.1 55 (Int32.toNatClampNeg a4))))) fun x1 => if x1 ≤ a3 then g9_soonest_40_b155 k94 k115 a1 a2 a4 a3 h else g9_soonest_40_b155 k94 k115 a1 a2 a4 x1 h else none else none
set_option maxRecDepth 20000 in
theorem b9_soonest_40_b115 {l : Launch} {d : Nat} (hd : 2 ≤ d) (k94 : Int32 → Int32 → jv_H → Option (Int32 × jv_H)) (hk94 : ∀ (a1 a2 : Int32) (h : jv_H), jv_V l RX9 cX9_soonest 6 (some .int) d (SC ++ SM) jv_ri 94 [(0, .ref 40), (1, .int a1), (2, .int a2)] [] h (k94 a1 a2 h)) (k115 : Int32 → Int32 → Int32 → Int32 → jv_H → Option (Int32 × jv_H)) (hk115 : ∀ (a1 a2 a3 a4 : Int32) (h : jv_H), jv_V l RX9 cX9_soonest 6 (some .int) d (SC ++ SM) jv_ri 115 [(0, .ref 40), (1, .int a1), (2, .int a2), (3, .int a3), (4, .int a4)] [] h (k115 a1 a2 a3 a4 h)) : ∀ (a1 : Int32) (a2 : Int32) (a3 : Int32) (a4 : Int32) (h : jv_H), jv_V l RX9 cX9_soonest 6 (some .int) d (SC ++ SM) jv_ri 115 [(0, .ref 40), (1, .int a1), (2, .int a2), (3, .int a3), (4, .int a4)] [] h (g9_soonest_40_b115 k94 k115 a1 a2 a3 a4 h) := by
  intro a1 a2 a3 a4 h
  unfold g9_soonest_40_b115
  refine v_iload 4 117 rfl dX9_soonest_115 rfl ?_
  refine v_aload_n 0 118 rfl dX9_soonest_117 rfl rfl ?_
  refine v_geti 121 rfl fl_X9_71 sc_40 rfl dX9_soonest_118 ?_
  refine v_icmp_ge 162 124 rfl rfl dX9_soonest_121 (fun _ => ?_) (fun _ => ?_)
  · refine v_iload_n 3 163 rfl dX9_soonest_162 rfl rfl ?_
    refine v_iload_n 1 164 rfl dX9_soonest_163 rfl rfl ?_
    refine v_icmp_ge 171 167 rfl rfl dX9_soonest_164 (fun _ => ?_) (fun _ => ?_)
    · refine v_iload_n 1 172 rfl dX9_soonest_171 rfl rfl ?_
      refine v_sub [0, 2] rfl ?_
      exact b9_soonest_40_b172 hd k94 hk94 a2 a1 h
    · refine v_iload_n 3 168 rfl dX9_soonest_167 rfl rfl ?_
      refine v_goto 172 rfl dX9_soonest_168 ?_
      refine v_sub [0, 2] rfl ?_
      exact b9_soonest_40_b172 hd k94 hk94 a2 a3 h
  · refine v_aload_n 0 125 rfl dX9_soonest_124 rfl rfl ?_
    refine v_getr 128 rfl fl_X9_62 sc_40 rfl dX9_soonest_125 ?_
    refine v_iconst 129 rfl dX9_soonest_128 ic_5 ?_
    refine v_iload 4 131 rfl dX9_soonest_129 rfl ?_
    refine v_imul 132 rfl dX9_soonest_131 ?_
    refine v_aload_n 0 133 rfl dX9_soonest_132 rfl rfl ?_
    refine v_getr 136 rfl fl_X9_53 sc_40 rfl dX9_soonest_133 ?_
    refine v_iload 4 138 rfl dX9_soonest_136 rfl ?_
    refine v_iald 139 rfl sc_55 dX9_soonest_138 (fun _ => ?_)
    refine v_iadd 140 rfl dX9_soonest_139 ?_
    refine v_iald 141 rfl sc_58 dX9_soonest_140 (fun _ => ?_)
    refine n_istore (fun x1 => [(0, .ref 40), (1, .int a1), (2, .int a2), (3, .int a3), (4, .int a4), (5, .int x1)]) 143 rfl dX9_soonest_141 (Nat.le_of_ble_eq_true rfl) rfl (fun _ => rfl) (fun x1 => ?_)
    refine v_iload 5 145 rfl dX9_soonest_143 rfl ?_
    refine v_iload_n 3 146 rfl dX9_soonest_145 rfl rfl ?_
    refine v_icmp_le 154 149 rfl rfl dX9_soonest_146 (fun _ => ?_) (fun _ => ?_)
    · refine v_iload_n 3 155 rfl dX9_soonest_154 rfl rfl ?_
      refine v_sub [0, 1, 2, 4] rfl ?_
      exact b9_soonest_40_b155 hd k94 hk94 k115 hk115 a1 a2 a4 a3 h
    · refine v_iload 5 151 rfl dX9_soonest_149 rfl ?_
      refine v_goto 155 rfl dX9_soonest_151 ?_
      refine v_sub [0, 1, 2, 4] rfl ?_
      exact b9_soonest_40_b155 hd k94 hk94 k115 hk115 a1 a2 a4 x1 h
def f9_soonest_40_l115 (k94 : Int32 → Int32 → jv_H → Option (Int32 × jv_H)) : Nat → Int32 → Int32 → Int32 → Int32 → jv_H → Option (Int32 × jv_H)
  | 0 => fun _ _ _ _ _ => none
  | n + 1 => fun a1 a2 a3 a4 h => g9_soonest_40_b115 k94 (f9_soonest_40_l115 k94 n) a1 a2 a3 a4 h
theorem w9_soonest_40_l115 {l : Launch} {d : Nat} (hd : 2 ≤ d) (k94 : Int32 → Int32 → jv_H → Option (Int32 × jv_H)) (hk94 : ∀ (a1 a2 : Int32) (h : jv_H), jv_V l RX9 cX9_soonest 6 (some .int) d (SC ++ SM) jv_ri 94 [(0, .ref 40), (1, .int a1), (2, .int a2)] [] h (k94 a1 a2 h)) : ∀ (n : Nat) (a1 : Int32) (a2 : Int32) (a3 : Int32) (a4 : Int32) (h : jv_H), jv_V l RX9 cX9_soonest 6 (some .int) d (SC ++ SM) jv_ri 115 [(0, .ref 40), (1, .int a1), (2, .int a2), (3, .int a3), (4, .int a4)] [] h (f9_soonest_40_l115 k94 n a1 a2 a3 a4 h) := by
  intro n
  induction n with
  | zero => intro a1 a2 a3 a4 h; exact v_none
  | succ n ih => intro a1 a2 a3 a4 h; exact b9_soonest_40_b115 hd k94 hk94 (f9_soonest_40_l115 k94 n) ih a1 a2 a3 a4 h
def g9_soonest_40_b94 (k94 : Int32 → Int32 → jv_H → Option (Int32 × jv_H)) (a1 : Int32) (a2 : Int32) (h : jv_H) : Option (Int32 × jv_H) := (f9_ways_40 h).bind fun q1 => if q1.1 ≤ a2 then if a1 = (1000000 : Int32) then some ((-9 : Int32), q1.2) else some (a1, q1.2) else (f9_mayBe_40 a2 q1.2).bind fun q2 => if q2.1 = 0 then g9_soonest_40_b173 k94 a1 a2 q2.2 else jv_let (0 : Int32) fun x3 => jv_let (0 : Int32) fun x4 => f9_soonest_40_l115 k94 jv_fuel a1 a2 x3 x4 q2.2
set_option maxRecDepth 20000 in
theorem b9_soonest_40_b94 {l : Launch} {d : Nat} (hd : 2 ≤ d) (k94 : Int32 → Int32 → jv_H → Option (Int32 × jv_H)) (hk94 : ∀ (a1 a2 : Int32) (h : jv_H), jv_V l RX9 cX9_soonest 6 (some .int) d (SC ++ SM) jv_ri 94 [(0, .ref 40), (1, .int a1), (2, .int a2)] [] h (k94 a1 a2 h)) : ∀ (a1 : Int32) (a2 : Int32) (h : jv_H), jv_V l RX9 cX9_soonest 6 (some .int) d (SC ++ SM) jv_ri 94 [(0, .ref 40), (1, .int a1), (2, .int a2)] [] h (g9_soonest_40_b94 k94 a1 a2 h) := by
  intro a1 a2 h
  unfold g9_soonest_40_b94
  refine v_iload_n 2 95 rfl dX9_soonest_94 rfl rfl ?_
  refine v_aload_n 0 96 rfl dX9_soonest_95 rfl rfl ?_
  refine n_callv [] [.int a2] (fun r => .int r :: [.int a2]) 99 rfl (by omega) (Nat.le_of_ble_eq_true rfl) cb_X9_ways cv_X9_194 sc_40 cn_X9 rfl (Nat.le_of_ble_eq_true rfl) dX9_soonest_96 rfl (fun _ => rfl) (e9_ways_40 (by omega)  h) (fun q1 => ?_)
  refine v_icmp_ge 179 102 rfl rfl dX9_soonest_99 (fun _ => ?_) (fun _ => ?_)
  · refine v_iload_n 1 180 rfl dX9_soonest_179 rfl rfl ?_
    refine v_ldc 182 rfl mw_1047 dX9_soonest_180 ?_
    refine v_icmp_ne 190 185 rfl rfl dX9_soonest_182 (fun _ => ?_) (fun _ => ?_)
    · refine v_iload_n 1 191 rfl dX9_soonest_190 rfl rfl ?_
      exact v_iret rfl dX9_soonest_191
    · refine v_bipush 187 rfl dX9_soonest_185 bp_m9 ?_
      refine v_goto 191 rfl dX9_soonest_187 ?_
      exact v_iret rfl dX9_soonest_191
  · refine v_aload_n 0 103 rfl dX9_soonest_102 rfl rfl ?_
    refine v_iload_n 2 104 rfl dX9_soonest_103 rfl rfl ?_
    refine n_callv [.int a2] [] (fun r => .int r :: []) 107 rfl (by omega) (Nat.le_of_ble_eq_true rfl) cb_X9_mayBe cv_X9_197 sc_40 cn_X9 rfl (Nat.le_of_ble_eq_true rfl) dX9_soonest_104 rfl (fun _ => rfl) (e9_mayBe_40 (by omega) a2 q1.2) (fun q2 => ?_)
    refine v_if_eq 173 110 rfl rfl dX9_soonest_107 (fun _ => ?_) (fun _ => ?_)
    · exact b9_soonest_40_b173 hd k94 hk94 a1 a2 q2.2
    · refine v_iconst 111 rfl dX9_soonest_110 ic_0 ?_
      refine n_istore_n (fun x3 => [(0, .ref 40), (1, .int a1), (2, .int a2), (3, .int x3)]) 112 rfl dX9_soonest_111 rfl (Nat.le_of_ble_eq_true rfl) rfl (fun _ => rfl) (fun x3 => ?_)
      refine v_iconst 113 rfl dX9_soonest_112 ic_0 ?_
      refine n_istore (fun x4 => [(0, .ref 40), (1, .int a1), (2, .int a2), (3, .int x3), (4, .int x4)]) 115 rfl dX9_soonest_113 (Nat.le_of_ble_eq_true rfl) rfl (fun _ => rfl) (fun x4 => ?_)
      exact w9_soonest_40_l115 hd k94 hk94 jv_fuel a1 a2 x3 x4 q2.2
def f9_soonest_40_l94 : Nat → Int32 → Int32 → jv_H → Option (Int32 × jv_H)
  | 0 => fun _ _ _ => none
  | n + 1 => fun a1 a2 h => g9_soonest_40_b94 (f9_soonest_40_l94 n) a1 a2 h
theorem w9_soonest_40_l94 {l : Launch} {d : Nat} (hd : 2 ≤ d) : ∀ (n : Nat) (a1 : Int32) (a2 : Int32) (h : jv_H), jv_V l RX9 cX9_soonest 6 (some .int) d (SC ++ SM) jv_ri 94 [(0, .ref 40), (1, .int a1), (2, .int a2)] [] h (f9_soonest_40_l94 n a1 a2 h) := by
  intro n
  induction n with
  | zero => intro a1 a2 h; exact v_none
  | succ n ih => intro a1 a2 h; exact b9_soonest_40_b94 hd (f9_soonest_40_l94 n) ih a1 a2 h
def g9_soonest_40_b5 (k5 : Int32 → Int32 → jv_H → Option (Int32 × jv_H)) (a1 : Int32) (a2 : Int32) (h : jv_H) : Option (Int32 × jv_H) := if (h.1 40 0) ≤ a2 then jv_let (0 : Int32) fun x1 => f9_soonest_40_l94 jv_fuel a1 x1 h else jv_let (0 : Int32) fun x2 => f9_soonest_40_l15 k5 jv_fuel a1 a2 x2 h
set_option maxRecDepth 20000 in
theorem b9_soonest_40_b5 {l : Launch} {d : Nat} (hd : 2 ≤ d) (k5 : Int32 → Int32 → jv_H → Option (Int32 × jv_H)) (hk5 : ∀ (a1 a2 : Int32) (h : jv_H), jv_V l RX9 cX9_soonest 6 (some .int) d (SC ++ SM) jv_ri 5 [(0, .ref 40), (1, .int a1), (2, .int a2)] [] h (k5 a1 a2 h)) : ∀ (a1 : Int32) (a2 : Int32) (h : jv_H), jv_V l RX9 cX9_soonest 6 (some .int) d (SC ++ SM) jv_ri 5 [(0, .ref 40), (1, .int a1), (2, .int a2)] [] h (g9_soonest_40_b5 k5 a1 a2 h) := by
  intro a1 a2 h
  unfold g9_soonest_40_b5
  refine v_iload_n 2 6 rfl dX9_soonest_5 rfl rfl ?_
  refine v_aload_n 0 7 rfl dX9_soonest_6 rfl rfl ?_
  refine v_geti 10 rfl fl_X9_71 sc_40 rfl dX9_soonest_7 ?_
  refine v_icmp_ge 92 13 rfl rfl dX9_soonest_10 (fun _ => ?_) (fun _ => ?_)
  · refine v_iconst 93 rfl dX9_soonest_92 ic_0 ?_
    refine n_istore_n (fun x1 => [(0, .ref 40), (1, .int a1), (2, .int x1)]) 94 rfl dX9_soonest_93 rfl (Nat.le_of_ble_eq_true rfl) rfl (fun _ => rfl) (fun x1 => ?_)
    exact w9_soonest_40_l94 hd jv_fuel a1 x1 h
  · refine v_iconst 14 rfl dX9_soonest_13 ic_0 ?_
    refine n_istore_n (fun x2 => [(0, .ref 40), (1, .int a1), (2, .int a2), (3, .int x2)]) 15 rfl dX9_soonest_14 rfl (Nat.le_of_ble_eq_true rfl) rfl (fun _ => rfl) (fun x2 => ?_)
    exact w9_soonest_40_l15 hd k5 hk5 jv_fuel a1 a2 x2 h
def f9_soonest_40_l5 : Nat → Int32 → Int32 → jv_H → Option (Int32 × jv_H)
  | 0 => fun _ _ _ => none
  | n + 1 => fun a1 a2 h => g9_soonest_40_b5 (f9_soonest_40_l5 n) a1 a2 h
theorem w9_soonest_40_l5 {l : Launch} {d : Nat} (hd : 2 ≤ d) : ∀ (n : Nat) (a1 : Int32) (a2 : Int32) (h : jv_H), jv_V l RX9 cX9_soonest 6 (some .int) d (SC ++ SM) jv_ri 5 [(0, .ref 40), (1, .int a1), (2, .int a2)] [] h (f9_soonest_40_l5 n a1 a2 h) := by
  intro n
  induction n with
  | zero => intro a1 a2 h; exact v_none
  | succ n ih => intro a1 a2 h; exact b9_soonest_40_b5 hd (f9_soonest_40_l5 n) ih a1 a2 h
def f9_soonest_40 (h : jv_H) : Option (Int32 × jv_H) := jv_let (1000000 : Int32) fun x1 => jv_let (0 : Int32) fun x2 => f9_soonest_40_l5 jv_fuel x1 x2 h
set_option maxRecDepth 20000 in
theorem e9_soonest_40 {l : Launch} {d : Nat} (hd : 2 ≤ d) (h : jv_H) : jv_E l yX9_soonest cX9_soonest 6 (some .int) d (SC ++ SM) jv_ri [.ref 40] h (f9_soonest_40  h) := by
  refine e_of [(0, .ref 40)] rfl pn_X9 (fun _ => Nat.le_of_ble_eq_true rfl) (fun _ => rfl) ?_
  unfold f9_soonest_40
  refine v_ldc 2 rfl mw_1047 dX9_soonest_0 ?_
  refine n_istore_n (fun x1 => [(0, .ref 40), (1, .int x1)]) 3 rfl dX9_soonest_2 rfl (Nat.le_of_ble_eq_true rfl) rfl (fun _ => rfl) (fun x1 => ?_)
  refine v_iconst 4 rfl dX9_soonest_3 ic_0 ?_
  refine n_istore_n (fun x2 => [(0, .ref 40), (1, .int x1), (2, .int x2)]) 5 rfl dX9_soonest_4 rfl (Nat.le_of_ble_eq_true rfl) rfl (fun _ => rfl) (fun x2 => ?_)
  exact w9_soonest_40_l5 hd jv_fuel x1 x2 h
-- TemperNursesModel.now(I)I at 40
def g9_now_40_b4 (k4 : Int32 → Int32 → Int32 → jv_H → Option (Int32 × jv_H)) (a1 : Int32) (a2 : Int32) (a3 : Int32) (h : jv_H) : Option (Int32 × jv_H) := if (h.1 40 0) ≤ a3 then if a1 = 0 then if jv_ix (0 : Int32) 210 then some ((h.1 47 (Int32.toNatClampNeg (0 : Int32))), h) else none else if a1 = 1 then (f9_broken_40 h).bind fun q2 => some (q2.1, q2.2) else if a1 = 2 then (f9_right_40 h).bind fun q4 => some (q4.1, q4.2) else if a1 = 3 then (f9_soonest_40 h).bind fun q6 => some (q6.1, q6.2) else if a1 = 4 then some (a2, h) else some ((-1 : Int32), h) else (f9_heat_40 a3 h).bind fun q9 => jv_let (a2 + q9.1) fun x10 => jv_let (a3 + (1 : Int32)) fun x11 => k4 a1 x10 x11 q9.2
set_option maxRecDepth 20000 in
theorem b9_now_40_b4 {l : Launch} {d : Nat} (hd : 3 ≤ d) (k4 : Int32 → Int32 → Int32 → jv_H → Option (Int32 × jv_H)) (hk4 : ∀ (a1 a2 a3 : Int32) (h : jv_H), jv_V l RX9 cX9_now 4 (some .int) d (SC ++ SM) jv_ri 4 [(0, .ref 40), (1, .int a1), (2, .int a2), (3, .int a3)] [] h (k4 a1 a2 a3 h)) : ∀ (a1 : Int32) (a2 : Int32) (a3 : Int32) (h : jv_H), jv_V l RX9 cX9_now 4 (some .int) d (SC ++ SM) jv_ri 4 [(0, .ref 40), (1, .int a1), (2, .int a2), (3, .int a3)] [] h (g9_now_40_b4 k4 a1 a2 a3 h) := by
  intro a1 a2 a3 h
  unfold g9_now_40_b4
  refine v_iload_n 3 5 rfl dX9_now_4 rfl rfl ?_
  refine v_aload_n 0 6 rfl dX9_now_5 rfl rfl ?_
  refine v_geti 9 rfl fl_X9_71 sc_40 rfl dX9_now_6 ?_
  refine v_icmp_ge 26 12 rfl rfl dX9_now_9 (fun _ => ?_) (fun _ => ?_)
  · refine v_iload_n 1 27 rfl dX9_now_26 rfl rfl ?_
    refine v_tabc (0 : Int32) (off := 33) 60 dX9_now_27 (by decide +kernel) rfl (fun _ => ?_) (fun c1 => ?_)
    · refine v_aload_n 0 61 rfl dX9_now_60 rfl rfl ?_
      refine v_getr 64 rfl fl_X9_28 sc_40 rfl dX9_now_61 ?_
      refine v_iconst 65 rfl dX9_now_64 ic_0 ?_
      refine v_iald 66 rfl sc_47 dX9_now_65 (fun _ => ?_)
      exact v_iret rfl dX9_now_66
    refine v_tabc (1 : Int32) (off := 40) 67 dX9_now_27 (by decide +kernel) rfl (fun _ => ?_) (fun c3 => ?_)
    · refine v_aload_n 0 68 rfl dX9_now_67 rfl rfl ?_
      refine n_callv [] [] (fun r => .int r :: []) 71 rfl (by omega) (Nat.le_of_ble_eq_true rfl) cb_X9_broken cv_X9_179 sc_40 cn_X9 rfl (Nat.le_of_ble_eq_true rfl) dX9_now_68 rfl (fun _ => rfl) (e9_broken_40 (by omega)  h) (fun q2 => ?_)
      exact v_iret rfl dX9_now_71
    refine v_tabc (2 : Int32) (off := 45) 72 dX9_now_27 (by decide +kernel) rfl (fun _ => ?_) (fun c5 => ?_)
    · refine v_aload_n 0 73 rfl dX9_now_72 rfl rfl ?_
      refine n_callv [] [] (fun r => .int r :: []) 76 rfl (by omega) (Nat.le_of_ble_eq_true rfl) cb_X9_right cv_X9_169 sc_40 cn_X9 rfl (Nat.le_of_ble_eq_true rfl) dX9_now_73 rfl (fun _ => rfl) (e9_right_40 (by omega)  h) (fun q4 => ?_)
      exact v_iret rfl dX9_now_76
    refine v_tabc (3 : Int32) (off := 50) 77 dX9_now_27 (by decide +kernel) rfl (fun _ => ?_) (fun c7 => ?_)
    · refine v_aload_n 0 78 rfl dX9_now_77 rfl rfl ?_
      refine n_callv [] [] (fun r => .int r :: []) 81 rfl (by omega) (Nat.le_of_ble_eq_true rfl) cb_X9_soonest cv_X9_182 sc_40 cn_X9 rfl (Nat.le_of_ble_eq_true rfl) dX9_now_78 rfl (fun _ => rfl) (e9_soonest_40 (by omega)  h) (fun q6 => ?_)
      exact v_iret rfl dX9_now_81
    refine v_tabc (4 : Int32) (off := 55) 82 dX9_now_27 (by decide +kernel) rfl (fun _ => ?_) (fun c8 => ?_)
    · refine v_iload_n 2 83 rfl dX9_now_82 rfl rfl ?_
      exact v_iret rfl dX9_now_83
    refine v_tabd 84 dX9_now_27 (by have := lv_neT (a := 0) c1 rfl; have := lv_neT (a := 1) c3 rfl; have := lv_neT (a := 2) c5 rfl; have := lv_neT (a := 3) c7 rfl; have := lv_neT (a := 4) c8 rfl; omega) rfl ?_
    refine v_iconst 85 rfl dX9_now_84 ic_m1 ?_
    exact v_iret rfl dX9_now_85
  · refine v_iload_n 2 13 rfl dX9_now_12 rfl rfl ?_
    refine v_aload_n 0 14 rfl dX9_now_13 rfl rfl ?_
    refine v_iload_n 3 15 rfl dX9_now_14 rfl rfl ?_
    refine n_callv [.int a3] [.int a2] (fun r => .int r :: [.int a2]) 18 rfl (by omega) (Nat.le_of_ble_eq_true rfl) cb_X9_heat cv_X9_143 sc_40 cn_X9 rfl (Nat.le_of_ble_eq_true rfl) dX9_now_15 rfl (fun _ => rfl) (e9_heat_40 (by omega) a3 h) (fun q9 => ?_)
    refine v_iadd 19 rfl dX9_now_18 ?_
    refine n_istore_n (fun x10 => [(0, .ref 40), (1, .int a1), (2, .int x10), (3, .int a3)]) 20 rfl dX9_now_19 rfl (Nat.le_of_ble_eq_true rfl) rfl (fun _ => rfl) (fun x10 => ?_)
    refine n_iinc (fun x11 => [(0, .ref 40), (1, .int a1), (2, .int x10), (3, .int x11)]) 3 23 rfl dX9_now_20 rfl ic_1 (Nat.le_of_ble_eq_true rfl) rfl (fun _ => rfl) (fun x11 => ?_)
    refine v_goto 4 rfl dX9_now_23 ?_
    exact hk4 a1 x10 x11 q9.2
def f9_now_40_l4 : Nat → Int32 → Int32 → Int32 → jv_H → Option (Int32 × jv_H)
  | 0 => fun _ _ _ _ => none
  | n + 1 => fun a1 a2 a3 h => g9_now_40_b4 (f9_now_40_l4 n) a1 a2 a3 h
theorem w9_now_40_l4 {l : Launch} {d : Nat} (hd : 3 ≤ d) : ∀ (n : Nat) (a1 : Int32) (a2 : Int32) (a3 : Int32) (h : jv_H), jv_V l RX9 cX9_now 4 (some .int) d (SC ++ SM) jv_ri 4 [(0, .ref 40), (1, .int a1), (2, .int a2), (3, .int a3)] [] h (f9_now_40_l4 n a1 a2 a3 h) := by
  intro n
  induction n with
  | zero => intro a1 a2 a3 h; exact v_none
  | succ n ih => intro a1 a2 a3 h; exact b9_now_40_b4 hd (f9_now_40_l4 n) ih a1 a2 a3 h
def f9_now_40 (a1 : Int32) (h : jv_H) : Option (Int32 × jv_H) := jv_let (0 : Int32) fun x1 => jv_let (0 : Int32) fun x2 => f9_now_40_l4 jv_fuel a1 x1 x2 h
set_option maxRecDepth 20000 in
theorem e9_now_40 {l : Launch} {d : Nat} (hd : 3 ≤ d) (a1 : Int32) (h : jv_H) : jv_E l yX9_now cX9_now 4 (some .int) d (SC ++ SM) jv_ri [.ref 40, .int a1] h (f9_now_40 a1 h) := by
  refine e_of [(0, .ref 40), (1, .int a1)] rfl pn_X9 (fun _ => Nat.le_of_ble_eq_true rfl) (fun _ => rfl) ?_
  unfold f9_now_40
  refine v_iconst 1 rfl dX9_now_0 ic_0 ?_
  refine n_istore_n (fun x1 => [(0, .ref 40), (1, .int a1), (2, .int x1)]) 2 rfl dX9_now_1 rfl (Nat.le_of_ble_eq_true rfl) rfl (fun _ => rfl) (fun x1 => ?_)
  refine v_iconst 3 rfl dX9_now_2 ic_0 ?_
  refine n_istore_n (fun x2 => [(0, .ref 40), (1, .int a1), (2, .int x1), (3, .int x2)]) 4 rfl dX9_now_3 rfl (Nat.le_of_ble_eq_true rfl) rfl (fun _ => rfl) (fun x2 => ?_)
  exact w9_now_40_l4 hd jv_fuel a1 x1 x2 h
-- TemperNursesModel.when(II)I at 40
def f9_when_40 (a1 : Int32) (a2 : Int32) (h : jv_H) : Option (Int32 × jv_H) := (f9_isTemper_40 a1 h).bind fun q1 => if q1.1 = 0 then some ((-1 : Int32), q1.2) else (f9_isNurse_40 a2 q1.2).bind fun q2 => if q2.1 = 0 then some ((-1 : Int32), q2.2) else (f9_whenBroken_40 a1 a2 q2.2).bind fun q3 => some (q3.1, q3.2)
set_option maxRecDepth 20000 in
theorem e9_when_40 {l : Launch} {d : Nat} (hd : 2 ≤ d) (a1 : Int32) (a2 : Int32) (h : jv_H) : jv_E l yX9_when cX9_when 3 (some .int) d (SC ++ SM) jv_ri [.ref 40, .int a1, .int a2] h (f9_when_40 a1 a2 h) := by
  refine e_of [(0, .ref 40), (1, .int a1), (2, .int a2)] rfl pn_X9 (fun _ => Nat.le_of_ble_eq_true rfl) (fun _ => rfl) ?_
  unfold f9_when_40
  refine v_aload_n 0 1 rfl dX9_when_0 rfl rfl ?_
  refine v_iload_n 1 2 rfl dX9_when_1 rfl rfl ?_
  refine n_callv [.int a1] [] (fun r => .int r :: []) 5 rfl (by omega) (Nat.le_of_ble_eq_true rfl) cb_X9_isTemper cv_X9_149 sc_40 cn_X9 rfl (Nat.le_of_ble_eq_true rfl) dX9_when_2 rfl (fun _ => rfl) (e9_isTemper_40 (by omega) a1 h) (fun q1 => ?_)
  refine v_if_eq 25 8 rfl rfl dX9_when_5 (fun _ => ?_) (fun _ => ?_)
  · refine v_iconst 26 rfl dX9_when_25 ic_m1 ?_
    exact v_iret rfl dX9_when_26
  · refine v_aload_n 0 9 rfl dX9_when_8 rfl rfl ?_
    refine v_iload_n 2 10 rfl dX9_when_9 rfl rfl ?_
    refine n_callv [.int a2] [] (fun r => .int r :: []) 13 rfl (by omega) (Nat.le_of_ble_eq_true rfl) cb_X9_isNurse cv_X9_157 sc_40 cn_X9 rfl (Nat.le_of_ble_eq_true rfl) dX9_when_10 rfl (fun _ => rfl) (e9_isNurse_40 (by omega) a2 q1.2) (fun q2 => ?_)
    refine v_if_eq 25 16 rfl rfl dX9_when_13 (fun _ => ?_) (fun _ => ?_)
    · refine v_iconst 26 rfl dX9_when_25 ic_m1 ?_
      exact v_iret rfl dX9_when_26
    · refine v_aload_n 0 17 rfl dX9_when_16 rfl rfl ?_
      refine v_iload_n 1 18 rfl dX9_when_17 rfl rfl ?_
      refine v_iload_n 2 19 rfl dX9_when_18 rfl rfl ?_
      refine n_callv [.int a1, .int a2] [] (fun r => .int r :: []) 22 rfl (by omega) (Nat.le_of_ble_eq_true rfl) cb_X9_whenBroken cv_X9_185 sc_40 cn_X9 rfl (Nat.le_of_ble_eq_true rfl) dX9_when_19 rfl (fun _ => rfl) (e9_whenBroken_40 (by omega) a1 a2 q2.2) (fun q3 => ?_)
      refine v_goto 26 rfl dX9_when_22 ?_
      exact v_iret rfl dX9_when_26
-- TemperNursesModel.hotIn(II)I at 40
def g9_hotIn_40_b9 (k9 : Int32 → Int32 → Int32 → Int32 → jv_H → Option (Int32 × jv_H)) (a1 : Int32) (a2 : Int32) (a3 : Int32) (a4 : Int32) (h : jv_H) : Option (Int32 × jv_H) := if a2 ≤ a4 then some (a3, h) else if jv_ix ((7 : Int32) + a1) 210 then (f9_aged_40 a1 a3 (h.1 47 (Int32.toNatClampNeg ((7 : Int32) + a1))) h).bind fun q1 => jv_let q1.1 fun x2 => jv_let (a4 + (1 : Int32)) fun x3 => k9 a1 a2 x2 x3 q1.2 else none
set_option maxRecDepth 20000 in
theorem b9_hotIn_40_b9 {l : Launch} {d : Nat} (hd : 1 ≤ d) (k9 : Int32 → Int32 → Int32 → Int32 → jv_H → Option (Int32 × jv_H)) (hk9 : ∀ (a1 a2 a3 a4 : Int32) (h : jv_H), jv_V l RX9 cX9_hotIn 5 (some .int) d (SC ++ SM) jv_ri 9 [(0, .ref 40), (1, .int a1), (2, .int a2), (3, .int a3), (4, .int a4)] [] h (k9 a1 a2 a3 a4 h)) : ∀ (a1 : Int32) (a2 : Int32) (a3 : Int32) (a4 : Int32) (h : jv_H), jv_V l RX9 cX9_hotIn 5 (some .int) d (SC ++ SM) jv_ri 9 [(0, .ref 40), (1, .int a1), (2, .int a2), (3, .int a3), (4, .int a4)] [] h (g9_hotIn_40_b9 k9 a1 a2 a3 a4 h) := by
  intro a1 a2 a3 a4 h
  unfold g9_hotIn_40_b9
  refine v_iload 4 11 rfl dX9_hotIn_9 rfl ?_
  refine v_iload_n 2 12 rfl dX9_hotIn_11 rfl rfl ?_
  refine v_icmp_ge 37 15 rfl rfl dX9_hotIn_12 (fun _ => ?_) (fun _ => ?_)
  · refine v_iload_n 3 38 rfl dX9_hotIn_37 rfl rfl ?_
    exact v_iret rfl dX9_hotIn_38
  · refine v_aload_n 0 16 rfl dX9_hotIn_15 rfl rfl ?_
    refine v_iload_n 1 17 rfl dX9_hotIn_16 rfl rfl ?_
    refine v_iload_n 3 18 rfl dX9_hotIn_17 rfl rfl ?_
    refine v_aload_n 0 19 rfl dX9_hotIn_18 rfl rfl ?_
    refine v_getr 22 rfl fl_X9_28 sc_40 rfl dX9_hotIn_19 ?_
    refine v_bipush 24 rfl dX9_hotIn_22 bp_7 ?_
    refine v_iload_n 1 25 rfl dX9_hotIn_24 rfl rfl ?_
    refine v_iadd 26 rfl dX9_hotIn_25 ?_
    refine v_iald 27 rfl sc_47 dX9_hotIn_26 (fun _ => ?_)
    refine n_callv [.int a1, .int a3, .int (h.1 47 (Int32.toNatClampNeg ((7 : Int32) + a1)))] [] (fun r => .int r :: []) 30 rfl (by omega) (Nat.le_of_ble_eq_true rfl) cb_X9_aged cv_X9_175 sc_40 cn_X9 rfl (Nat.le_of_ble_eq_true rfl) dX9_hotIn_27 rfl (fun _ => rfl) (e9_aged_40 (by omega) a1 a3 (h.1 47 (Int32.toNatClampNeg ((7 : Int32) + a1))) h) (fun q1 => ?_)
    refine n_istore_n (fun x2 => [(0, .ref 40), (1, .int a1), (2, .int a2), (3, .int x2), (4, .int a4)]) 31 rfl dX9_hotIn_30 rfl (Nat.le_of_ble_eq_true rfl) rfl (fun _ => rfl) (fun x2 => ?_)
    refine n_iinc (fun x3 => [(0, .ref 40), (1, .int a1), (2, .int a2), (3, .int x2), (4, .int x3)]) 4 34 rfl dX9_hotIn_31 rfl ic_1 (Nat.le_of_ble_eq_true rfl) rfl (fun _ => rfl) (fun x3 => ?_)
    refine v_goto 9 rfl dX9_hotIn_34 ?_
    exact hk9 a1 a2 x2 x3 q1.2
def f9_hotIn_40_l9 : Nat → Int32 → Int32 → Int32 → Int32 → jv_H → Option (Int32 × jv_H)
  | 0 => fun _ _ _ _ _ => none
  | n + 1 => fun a1 a2 a3 a4 h => g9_hotIn_40_b9 (f9_hotIn_40_l9 n) a1 a2 a3 a4 h
theorem w9_hotIn_40_l9 {l : Launch} {d : Nat} (hd : 1 ≤ d) : ∀ (n : Nat) (a1 : Int32) (a2 : Int32) (a3 : Int32) (a4 : Int32) (h : jv_H), jv_V l RX9 cX9_hotIn 5 (some .int) d (SC ++ SM) jv_ri 9 [(0, .ref 40), (1, .int a1), (2, .int a2), (3, .int a3), (4, .int a4)] [] h (f9_hotIn_40_l9 n a1 a2 a3 a4 h) := by
  intro n
  induction n with
  | zero => intro a1 a2 a3 a4 h; exact v_none
  | succ n ih => intro a1 a2 a3 a4 h; exact b9_hotIn_40_b9 hd (f9_hotIn_40_l9 n) ih a1 a2 a3 a4 h
def f9_hotIn_40 (a1 : Int32) (a2 : Int32) (h : jv_H) : Option (Int32 × jv_H) := (f9_heat_40 a1 h).bind fun q1 => jv_let q1.1 fun x2 => jv_let (0 : Int32) fun x3 => f9_hotIn_40_l9 jv_fuel a1 a2 x2 x3 q1.2
set_option maxRecDepth 20000 in
theorem e9_hotIn_40 {l : Launch} {d : Nat} (hd : 1 ≤ d) (a1 : Int32) (a2 : Int32) (h : jv_H) : jv_E l yX9_hotIn cX9_hotIn 5 (some .int) d (SC ++ SM) jv_ri [.ref 40, .int a1, .int a2] h (f9_hotIn_40 a1 a2 h) := by
  refine e_of [(0, .ref 40), (1, .int a1), (2, .int a2)] rfl pn_X9 (fun _ => Nat.le_of_ble_eq_true rfl) (fun _ => rfl) ?_
  unfold f9_hotIn_40
  refine v_aload_n 0 1 rfl dX9_hotIn_0 rfl rfl ?_
  refine v_iload_n 1 2 rfl dX9_hotIn_1 rfl rfl ?_
  refine n_callv [.int a1] [] (fun r => .int r :: []) 5 rfl (by omega) (Nat.le_of_ble_eq_true rfl) cb_X9_heat cv_X9_143 sc_40 cn_X9 rfl (Nat.le_of_ble_eq_true rfl) dX9_hotIn_2 rfl (fun _ => rfl) (e9_heat_40 (by omega) a1 h) (fun q1 => ?_)
  refine n_istore_n (fun x2 => [(0, .ref 40), (1, .int a1), (2, .int a2), (3, .int x2)]) 6 rfl dX9_hotIn_5 rfl (Nat.le_of_ble_eq_true rfl) rfl (fun _ => rfl) (fun x2 => ?_)
  refine v_iconst 7 rfl dX9_hotIn_6 ic_0 ?_
  refine n_istore (fun x3 => [(0, .ref 40), (1, .int a1), (2, .int a2), (3, .int x2), (4, .int x3)]) 9 rfl dX9_hotIn_7 (Nat.le_of_ble_eq_true rfl) rfl (fun _ => rfl) (fun x3 => ?_)
  exact w9_hotIn_40_l9 hd jv_fuel a1 a2 x2 x3 q1.2
