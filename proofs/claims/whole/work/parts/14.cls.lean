-- TemperNurses$Planner.soonest()I at 23
def g6_soonest_23_b18 (k2 : Int32 → jv_H → Option (Int32 × jv_H)) (k18 : Int32 → Int32 → jv_H → Option (Int32 × jv_H)) (a1 : Int32) (a2 : Int32) (h : jv_H) : Option (Int32 × jv_H) := if (h.1 1 1) ≤ a2 then jv_let (a1 + (1 : Int32)) fun x1 => k2 x1 h else (f3_yearsTillBroken_22 a1 a2 h).bind fun q2 => if jv_ix ((a2 * (6 : Int32)) + a1) 24 then jv_let (jv_p q2.2 26 (Int32.toNatClampNeg ((a2 * (6 : Int32)) + a1)) q2.1) fun h3 => jv_let (a2 + (1 : Int32)) fun x4 => k18 a1 x4 h3 else none
set_option maxRecDepth 20000 in
theorem b6_soonest_23_b18 {l : Launch} {d : Nat} {X : List jv_S} (hd : 44 ≤ d) (k2 : Int32 → jv_H → Option (Int32 × jv_H)) (hk2 : ∀ (a1 : Int32) (h : jv_H), jv_V l RX6 cX6_soonest 3 (some .int) d (SC ++ X) jv_ri 2 [(0, .ref 23), (1, .int a1)] [] h (k2 a1 h)) (k18 : Int32 → Int32 → jv_H → Option (Int32 × jv_H)) (hk18 : ∀ (a1 a2 : Int32) (h : jv_H), jv_V l RX6 cX6_soonest 3 (some .int) d (SC ++ X) jv_ri 18 [(0, .ref 23), (1, .int a1), (2, .int a2)] [] h (k18 a1 a2 h)) : ∀ (a1 : Int32) (a2 : Int32) (h : jv_H), jv_V l RX6 cX6_soonest 3 (some .int) d (SC ++ X) jv_ri 18 [(0, .ref 23), (1, .int a1), (2, .int a2)] [] h (g6_soonest_23_b18 k2 k18 a1 a2 h) := by
  intro a1 a2 h
  unfold g6_soonest_23_b18
  refine v_iload_n 2 19 rfl dX6_soonest_18 rfl rfl ?_
  refine v_aload_n 0 20 rfl dX6_soonest_19 rfl rfl ?_
  refine v_getr 23 rfl fl_X6_24 sc_23 rfl dX6_soonest_20 ?_
  refine v_getr 26 rfl fl_X6_42 sc_22 rfl dX6_soonest_23 ?_
  refine v_geti 29 rfl fl_X6_53 sc_1 rfl dX6_soonest_26 ?_
  refine v_icmp_ge 58 32 rfl rfl dX6_soonest_29 (fun _ => ?_) (fun _ => ?_)
  · refine n_iinc (fun x1 => [(0, .ref 23), (1, .int x1), (2, .int a2)]) 1 61 rfl dX6_soonest_58 rfl ic_1 (Nat.le_of_ble_eq_true rfl) rfl (fun _ => rfl) (fun x1 => ?_)
    refine v_goto 2 rfl dX6_soonest_61 ?_
    refine v_sub [0, 1] rfl ?_
    exact hk2 x1 h
  · refine v_aload_n 0 33 rfl dX6_soonest_32 rfl rfl ?_
    refine v_getr 36 rfl fl_X6_18 sc_23 rfl dX6_soonest_33 ?_
    refine v_iload_n 2 37 rfl dX6_soonest_36 rfl rfl ?_
    refine v_bipush 39 rfl dX6_soonest_37 bp_6 ?_
    refine v_imul 40 rfl dX6_soonest_39 ?_
    refine v_iload_n 1 41 rfl dX6_soonest_40 rfl rfl ?_
    refine v_iadd 42 rfl dX6_soonest_41 ?_
    refine v_aload_n 0 43 rfl dX6_soonest_42 rfl rfl ?_
    refine v_getr 46 rfl fl_X6_24 sc_23 rfl dX6_soonest_43 ?_
    refine v_iload_n 1 47 rfl dX6_soonest_46 rfl rfl ?_
    refine v_iload_n 2 48 rfl dX6_soonest_47 rfl rfl ?_
    refine n_callv [.int a1, .int a2] [.int ((a2 * (6 : Int32)) + a1), .ref 26] (fun r => .int r :: [.int ((a2 * (6 : Int32)) + a1), .ref 26]) 51 rfl (by omega) (Nat.le_of_ble_eq_true rfl) cb_X3_yearsTillBroken cv_X6_56 sc_22 cn_X3 rfl (Nat.le_of_ble_eq_true rfl) dX6_soonest_48 rfl (fun _ => rfl) (e3_yearsTillBroken_22 (by omega) a1 a2 h) (fun q2 => ?_)
    refine n_iast 52 rfl sc_26 dX6_soonest_51 (fun h3 => ?_)
    refine n_iinc (fun x4 => [(0, .ref 23), (1, .int a1), (2, .int x4)]) 2 55 rfl dX6_soonest_52 rfl ic_1 (Nat.le_of_ble_eq_true rfl) rfl (fun _ => rfl) (fun x4 => ?_)
    refine v_goto 18 rfl dX6_soonest_55 ?_
    exact hk18 a1 x4 h3
def f6_soonest_23_l18 (k2 : Int32 → jv_H → Option (Int32 × jv_H)) : Nat → Int32 → Int32 → jv_H → Option (Int32 × jv_H)
  | 0 => fun _ _ _ => none
  | n + 1 => fun a1 a2 h => g6_soonest_23_b18 k2 (f6_soonest_23_l18 k2 n) a1 a2 h
theorem w6_soonest_23_l18 {l : Launch} {d : Nat} {X : List jv_S} (hd : 44 ≤ d) (k2 : Int32 → jv_H → Option (Int32 × jv_H)) (hk2 : ∀ (a1 : Int32) (h : jv_H), jv_V l RX6 cX6_soonest 3 (some .int) d (SC ++ X) jv_ri 2 [(0, .ref 23), (1, .int a1)] [] h (k2 a1 h)) : ∀ (n : Nat) (a1 : Int32) (a2 : Int32) (h : jv_H), jv_V l RX6 cX6_soonest 3 (some .int) d (SC ++ X) jv_ri 18 [(0, .ref 23), (1, .int a1), (2, .int a2)] [] h (f6_soonest_23_l18 k2 n a1 a2 h) := by
  intro n
  induction n with
  | zero => intro a1 a2 h; exact v_none
  | succ n ih => intro a1 a2 h; exact b6_soonest_23_b18 hd k2 hk2 (f6_soonest_23_l18 k2 n) ih a1 a2 h
def g6_soonest_23_b2 (k2 : Int32 → jv_H → Option (Int32 × jv_H)) (a1 : Int32) (h : jv_H) : Option (Int32 × jv_H) := if (h.1 1 0) ≤ a1 then jv_let (jv_p h 23 4 (100 : Int32)) fun h1 => (fj7_fill_53178_25 (0 : Int32) h1).bind fun q2 => (f6_tryYears_23 jv_deep (0 : Int32) (0 : Int32) q2.2).bind fun q3 => if (q3.2.1 23 4) = (100 : Int32) then some ((-9 : Int32), q3.2) else some ((q3.2.1 23 4), q3.2) else jv_let (0 : Int32) fun x4 => f6_soonest_23_l18 k2 jv_fuel a1 x4 h
set_option maxRecDepth 20000 in
theorem b6_soonest_23_b2 {l : Launch} {d : Nat} {X : List jv_S} (hd : 44 ≤ d) (k2 : Int32 → jv_H → Option (Int32 × jv_H)) (hk2 : ∀ (a1 : Int32) (h : jv_H), jv_V l RX6 cX6_soonest 3 (some .int) d (SC ++ X) jv_ri 2 [(0, .ref 23), (1, .int a1)] [] h (k2 a1 h)) : ∀ (a1 : Int32) (h : jv_H), jv_V l RX6 cX6_soonest 3 (some .int) d (SC ++ X) jv_ri 2 [(0, .ref 23), (1, .int a1)] [] h (g6_soonest_23_b2 k2 a1 h) := by
  intro a1 h
  unfold g6_soonest_23_b2
  refine v_iload_n 1 3 rfl dX6_soonest_2 rfl rfl ?_
  refine v_aload_n 0 4 rfl dX6_soonest_3 rfl rfl ?_
  refine v_getr 7 rfl fl_X6_24 sc_23 rfl dX6_soonest_4 ?_
  refine v_getr 10 rfl fl_X6_42 sc_22 rfl dX6_soonest_7 ?_
  refine v_geti 13 rfl fl_X6_48 sc_1 rfl dX6_soonest_10 ?_
  refine v_icmp_ge 64 16 rfl rfl dX6_soonest_13 (fun _ => ?_) (fun _ => ?_)
  · refine v_aload_n 0 65 rfl dX6_soonest_64 rfl rfl ?_
    refine v_bipush 67 rfl dX6_soonest_65 bp_100 ?_
    refine n_puti 70 rfl fl_X6_60 sc_23 rfl dX6_soonest_67 (fun h1 => ?_)
    refine v_aload_n 0 71 rfl dX6_soonest_70 rfl rfl ?_
    refine v_getr 74 rfl fl_X6_15 sc_23 rfl dX6_soonest_71 ?_
    refine v_iconst 75 rfl dX6_soonest_74 ic_0 ?_
    refine n_calls [.ref 25, .int (0 : Int32)] [] (fun _ => []) 78 rfl (by omega) (Nat.le_of_ble_eq_true rfl) cb_J7_fill_53178 cs_X6_32 rfl (Nat.le_of_ble_eq_true rfl) dX6_soonest_75 rfl (fun _ => rfl) (ej7_fill_53178_25 (by omega) (0 : Int32) h1) (fun q2 => ?_)
    refine v_aload_n 0 79 rfl dX6_soonest_78 rfl rfl ?_
    refine v_iconst 80 rfl dX6_soonest_79 ic_0 ?_
    refine v_iconst 81 rfl dX6_soonest_80 ic_0 ?_
    refine n_callv [.int (0 : Int32), .int (0 : Int32)] [] (fun _ => []) 84 rfl (by omega) (Nat.le_of_ble_eq_true rfl) cb_X6_tryYears cv_X6_63 sc_23 cn_X6 rfl (Nat.le_of_ble_eq_true rfl) dX6_soonest_81 rfl (fun _ => rfl) (e6_tryYears_23 jv_deep (by simp only [jv_deep]; omega) (0 : Int32) (0 : Int32) q2.2) (fun q3 => ?_)
    refine v_aload_n 0 85 rfl dX6_soonest_84 rfl rfl ?_
    refine v_geti 88 rfl fl_X6_60 sc_23 rfl dX6_soonest_85 ?_
    refine v_bipush 90 rfl dX6_soonest_88 bp_100 ?_
    refine v_icmp_ne 98 93 rfl rfl dX6_soonest_90 (fun _ => ?_) (fun _ => ?_)
    · refine v_aload_n 0 99 rfl dX6_soonest_98 rfl rfl ?_
      refine v_geti 102 rfl fl_X6_60 sc_23 rfl dX6_soonest_99 ?_
      exact v_iret rfl dX6_soonest_102
    · refine v_bipush 95 rfl dX6_soonest_93 bp_m9 ?_
      refine v_goto 102 rfl dX6_soonest_95 ?_
      exact v_iret rfl dX6_soonest_102
  · refine v_iconst 17 rfl dX6_soonest_16 ic_0 ?_
    refine n_istore_n (fun x4 => [(0, .ref 23), (1, .int a1), (2, .int x4)]) 18 rfl dX6_soonest_17 rfl (Nat.le_of_ble_eq_true rfl) rfl (fun _ => rfl) (fun x4 => ?_)
    exact w6_soonest_23_l18 hd k2 hk2 jv_fuel a1 x4 h
def f6_soonest_23_l2 : Nat → Int32 → jv_H → Option (Int32 × jv_H)
  | 0 => fun _ _ => none
  | n + 1 => fun a1 h => g6_soonest_23_b2 (f6_soonest_23_l2 n) a1 h
theorem w6_soonest_23_l2 {l : Launch} {d : Nat} {X : List jv_S} (hd : 44 ≤ d) : ∀ (n : Nat) (a1 : Int32) (h : jv_H), jv_V l RX6 cX6_soonest 3 (some .int) d (SC ++ X) jv_ri 2 [(0, .ref 23), (1, .int a1)] [] h (f6_soonest_23_l2 n a1 h) := by
  intro n
  induction n with
  | zero => intro a1 h; exact v_none
  | succ n ih => intro a1 h; exact b6_soonest_23_b2 hd (f6_soonest_23_l2 n) ih a1 h
def f6_soonest_23 (h : jv_H) : Option (Int32 × jv_H) := jv_let (0 : Int32) fun x1 => f6_soonest_23_l2 jv_fuel x1 h
set_option maxRecDepth 20000 in
theorem e6_soonest_23 {l : Launch} {d : Nat} {X : List jv_S} (hd : 44 ≤ d) (h : jv_H) : jv_E l yX6_soonest cX6_soonest 3 (some .int) d (SC ++ X) jv_ri [.ref 23] h (f6_soonest_23  h) := by
  refine e_of [(0, .ref 23)] rfl pn_X6 (fun _ => Nat.le_of_ble_eq_true rfl) (fun _ => rfl) ?_
  unfold f6_soonest_23
  refine v_iconst 1 rfl dX6_soonest_0 ic_0 ?_
  refine n_istore_n (fun x1 => [(0, .ref 23), (1, .int x1)]) 2 rfl dX6_soonest_1 rfl (Nat.le_of_ble_eq_true rfl) rfl (fun _ => rfl) (fun x1 => ?_)
  exact w6_soonest_23_l2 hd jv_fuel x1 h
-- TemperNurses$House.heatOfAll()I at 22
def g3_heatOfAll_22_b4 (k4 : Int32 → Int32 → jv_H → Option (Int32 × jv_H)) (a1 : Int32) (a2 : Int32) (h : jv_H) : Option (Int32 × jv_H) := if (h.1 1 0) ≤ a2 then some (a1, h) else (f1_heat_20 a2 h).bind fun q1 => jv_let (a1 + q1.1) fun x2 => jv_let (a2 + (1 : Int32)) fun x3 => k4 x2 x3 q1.2
set_option maxRecDepth 20000 in
theorem b3_heatOfAll_22_b4 {l : Launch} {d : Nat} {X : List jv_S} (hd : 2 ≤ d) (k4 : Int32 → Int32 → jv_H → Option (Int32 × jv_H)) (hk4 : ∀ (a1 a2 : Int32) (h : jv_H), jv_V l RX3 cX3_heatOfAll 3 (some .int) d (SC ++ X) jv_ri 4 [(0, .ref 22), (1, .int a1), (2, .int a2)] [] h (k4 a1 a2 h)) : ∀ (a1 : Int32) (a2 : Int32) (h : jv_H), jv_V l RX3 cX3_heatOfAll 3 (some .int) d (SC ++ X) jv_ri 4 [(0, .ref 22), (1, .int a1), (2, .int a2)] [] h (g3_heatOfAll_22_b4 k4 a1 a2 h) := by
  intro a1 a2 h
  unfold g3_heatOfAll_22_b4
  refine v_iload_n 2 5 rfl dX3_heatOfAll_4 rfl rfl ?_
  refine v_aload_n 0 6 rfl dX3_heatOfAll_5 rfl rfl ?_
  refine v_getr 9 rfl fl_X3_9 sc_22 rfl dX3_heatOfAll_6 ?_
  refine v_geti 12 rfl fl_X3_19 sc_1 rfl dX3_heatOfAll_9 ?_
  refine v_icmp_ge 32 15 rfl rfl dX3_heatOfAll_12 (fun _ => ?_) (fun _ => ?_)
  · refine v_iload_n 1 33 rfl dX3_heatOfAll_32 rfl rfl ?_
    exact v_iret rfl dX3_heatOfAll_33
  · refine v_iload_n 1 16 rfl dX3_heatOfAll_15 rfl rfl ?_
    refine v_aload_n 0 17 rfl dX3_heatOfAll_16 rfl rfl ?_
    refine v_getr 20 rfl fl_X3_15 sc_22 rfl dX3_heatOfAll_17 ?_
    refine v_iload_n 2 21 rfl dX3_heatOfAll_20 rfl rfl ?_
    refine n_callv [.int a2] [.int a1] (fun r => .int r :: [.int a1]) 24 rfl (by omega) (Nat.le_of_ble_eq_true rfl) cb_X1_heat cv_X3_25 sc_20 cn_X1 rfl (Nat.le_of_ble_eq_true rfl) dX3_heatOfAll_21 rfl (fun _ => rfl) (e1_heat_20 (by omega) a2 h) (fun q1 => ?_)
    refine v_iadd 25 rfl dX3_heatOfAll_24 ?_
    refine n_istore_n (fun x2 => [(0, .ref 22), (1, .int x2), (2, .int a2)]) 26 rfl dX3_heatOfAll_25 rfl (Nat.le_of_ble_eq_true rfl) rfl (fun _ => rfl) (fun x2 => ?_)
    refine n_iinc (fun x3 => [(0, .ref 22), (1, .int x2), (2, .int x3)]) 2 29 rfl dX3_heatOfAll_26 rfl ic_1 (Nat.le_of_ble_eq_true rfl) rfl (fun _ => rfl) (fun x3 => ?_)
    refine v_goto 4 rfl dX3_heatOfAll_29 ?_
    exact hk4 x2 x3 q1.2
def f3_heatOfAll_22_l4 : Nat → Int32 → Int32 → jv_H → Option (Int32 × jv_H)
  | 0 => fun _ _ _ => none
  | n + 1 => fun a1 a2 h => g3_heatOfAll_22_b4 (f3_heatOfAll_22_l4 n) a1 a2 h
theorem w3_heatOfAll_22_l4 {l : Launch} {d : Nat} {X : List jv_S} (hd : 2 ≤ d) : ∀ (n : Nat) (a1 : Int32) (a2 : Int32) (h : jv_H), jv_V l RX3 cX3_heatOfAll 3 (some .int) d (SC ++ X) jv_ri 4 [(0, .ref 22), (1, .int a1), (2, .int a2)] [] h (f3_heatOfAll_22_l4 n a1 a2 h) := by
  intro n
  induction n with
  | zero => intro a1 a2 h; exact v_none
  | succ n ih => intro a1 a2 h; exact b3_heatOfAll_22_b4 hd (f3_heatOfAll_22_l4 n) ih a1 a2 h
def f3_heatOfAll_22 (h : jv_H) : Option (Int32 × jv_H) := jv_let (0 : Int32) fun x1 => jv_let (0 : Int32) fun x2 => f3_heatOfAll_22_l4 jv_fuel x1 x2 h
set_option maxRecDepth 20000 in
theorem e3_heatOfAll_22 {l : Launch} {d : Nat} {X : List jv_S} (hd : 2 ≤ d) (h : jv_H) : jv_E l yX3_heatOfAll cX3_heatOfAll 3 (some .int) d (SC ++ X) jv_ri [.ref 22] h (f3_heatOfAll_22  h) := by
  refine e_of [(0, .ref 22)] rfl pn_X3 (fun _ => Nat.le_of_ble_eq_true rfl) (fun _ => rfl) ?_
  unfold f3_heatOfAll_22
  refine v_iconst 1 rfl dX3_heatOfAll_0 ic_0 ?_
  refine n_istore_n (fun x1 => [(0, .ref 22), (1, .int x1)]) 2 rfl dX3_heatOfAll_1 rfl (Nat.le_of_ble_eq_true rfl) rfl (fun _ => rfl) (fun x1 => ?_)
  refine v_iconst 3 rfl dX3_heatOfAll_2 ic_0 ?_
  refine n_istore_n (fun x2 => [(0, .ref 22), (1, .int x1), (2, .int x2)]) 4 rfl dX3_heatOfAll_3 rfl (Nat.le_of_ble_eq_true rfl) rfl (fun _ => rfl) (fun x2 => ?_)
  exact w3_heatOfAll_22_l4 hd jv_fuel x1 x2 h
-- TemperNurses.now(I)I at 0
def f8_now_0 (a1 : Int32) (h : jv_H) : Option (Int32 × jv_H) := if a1 = 0 then (f1_year_20 h).bind fun q1 => some (q1.1, q1.2) else if a1 = 1 then (f3_broken_22 h).bind fun q3 => some (q3.1, q3.2) else if a1 = 2 then (f1_mixesToRight_20 (h.1 1 0) h).bind fun q5 => some (q5.1, q5.2) else if a1 = 3 then (f6_soonest_23 h).bind fun q7 => some (q7.1, q7.2) else if a1 = 4 then (f3_heatOfAll_22 h).bind fun q9 => some (q9.1, q9.2) else some ((-1 : Int32), h)
set_option maxRecDepth 20000 in
theorem e8_now_0 {l : Launch} {d : Nat} {X : List jv_S} (hd : 45 ≤ d) (a1 : Int32) (h : jv_H) : jv_E l yX8_now cX8_now 2 (some .int) d (SC ++ X) jv_ri [.ref 0, .int a1] h (f8_now_0 a1 h) := by
  refine e_of [(0, .ref 0), (1, .int a1)] rfl pn_X8 (fun _ => Nat.le_of_ble_eq_true rfl) (fun _ => rfl) ?_
  unfold f8_now_0
  refine v_iload_n 1 1 rfl dX8_now_0 rfl rfl ?_
  refine v_tabc (0 : Int32) (off := 35) 36 dX8_now_1 (by decide +kernel) rfl (fun _ => ?_) (fun c2 => ?_)
  · refine v_aload_n 0 37 rfl dX8_now_36 rfl rfl ?_
    refine v_getr 40 rfl fl_X8_26 sc_0 rfl dX8_now_37 ?_
    refine n_callv [] [] (fun r => .int r :: []) 43 rfl (by omega) (Nat.le_of_ble_eq_true rfl) cb_X1_year cv_X8_183 sc_20 cn_X1 rfl (Nat.le_of_ble_eq_true rfl) dX8_now_40 rfl (fun _ => rfl) (e1_year_20 (by omega)  h) (fun q1 => ?_)
    exact v_iret rfl dX8_now_43
  refine v_tabc (1 : Int32) (off := 43) 44 dX8_now_1 (by decide +kernel) rfl (fun _ => ?_) (fun c4 => ?_)
  · refine v_aload_n 0 45 rfl dX8_now_44 rfl rfl ?_
    refine v_getr 48 rfl fl_X8_35 sc_0 rfl dX8_now_45 ?_
    refine n_callv [] [] (fun r => .int r :: []) 51 rfl (by omega) (Nat.le_of_ble_eq_true rfl) cb_X3_broken cv_X8_194 sc_22 cn_X3 rfl (Nat.le_of_ble_eq_true rfl) dX8_now_48 rfl (fun _ => rfl) (e3_broken_22 (by omega)  h) (fun q3 => ?_)
    exact v_iret rfl dX8_now_51
  refine v_tabc (2 : Int32) (off := 51) 52 dX8_now_1 (by decide +kernel) rfl (fun _ => ?_) (fun c6 => ?_)
  · refine v_aload_n 0 53 rfl dX8_now_52 rfl rfl ?_
    refine v_getr 56 rfl fl_X8_26 sc_0 rfl dX8_now_53 ?_
    refine v_aload_n 0 57 rfl dX8_now_56 rfl rfl ?_
    refine v_getr 60 rfl fl_X8_10 sc_0 rfl dX8_now_57 ?_
    refine v_geti 63 rfl fl_X8_177 sc_1 rfl dX8_now_60 ?_
    refine n_callv [.int (h.1 1 0)] [] (fun r => .int r :: []) 66 rfl (by omega) (Nat.le_of_ble_eq_true rfl) cb_X1_mixesToRight cv_X8_180 sc_20 cn_X1 rfl (Nat.le_of_ble_eq_true rfl) dX8_now_63 rfl (fun _ => rfl) (e1_mixesToRight_20 (by omega) (h.1 1 0) h) (fun q5 => ?_)
    exact v_iret rfl dX8_now_66
  refine v_tabc (3 : Int32) (off := 66) 67 dX8_now_1 (by decide +kernel) rfl (fun _ => ?_) (fun c8 => ?_)
  · refine v_aload_n 0 68 rfl dX8_now_67 rfl rfl ?_
    refine v_getr 71 rfl fl_X8_44 sc_0 rfl dX8_now_68 ?_
    refine n_callv [] [] (fun r => .int r :: []) 74 rfl (by omega) (Nat.le_of_ble_eq_true rfl) cb_X6_soonest cv_X8_204 sc_23 cn_X6 rfl (Nat.le_of_ble_eq_true rfl) dX8_now_71 rfl (fun _ => rfl) (e6_soonest_23 (by omega)  h) (fun q7 => ?_)
    exact v_iret rfl dX8_now_74
  refine v_tabc (4 : Int32) (off := 74) 75 dX8_now_1 (by decide +kernel) rfl (fun _ => ?_) (fun c10 => ?_)
  · refine v_aload_n 0 76 rfl dX8_now_75 rfl rfl ?_
    refine v_getr 79 rfl fl_X8_35 sc_0 rfl dX8_now_76 ?_
    refine n_callv [] [] (fun r => .int r :: []) 82 rfl (by omega) (Nat.le_of_ble_eq_true rfl) cb_X3_heatOfAll cv_X8_207 sc_22 cn_X3 rfl (Nat.le_of_ble_eq_true rfl) dX8_now_79 rfl (fun _ => rfl) (e3_heatOfAll_22 (by omega)  h) (fun q9 => ?_)
    exact v_iret rfl dX8_now_82
  refine v_tabd 83 dX8_now_1 (by have := lv_neT (a := 0) c2 rfl; have := lv_neT (a := 1) c4 rfl; have := lv_neT (a := 2) c6 rfl; have := lv_neT (a := 3) c8 rfl; have := lv_neT (a := 4) c10 rfl; omega) rfl ?_
  refine v_iconst 84 rfl dX8_now_83 ic_m1 ?_
  exact v_iret rfl dX8_now_84
-- TemperNurses.when(II)I at 0
def f8_when_0 (a1 : Int32) (a2 : Int32) (h : jv_H) : Option (Int32 × jv_H) := (f2_hasTemper_1 a1 h).bind fun q1 => if q1.1 = 0 then some ((-1 : Int32), q1.2) else (f2_hasNurse_1 a2 q1.2).bind fun q2 => if q2.1 = 0 then some ((-1 : Int32), q2.2) else (f3_yearsTillBroken_22 a1 a2 q2.2).bind fun q3 => some (q3.1, q3.2)
set_option maxRecDepth 20000 in
theorem e8_when_0 {l : Launch} {d : Nat} {X : List jv_S} (hd : 3 ≤ d) (a1 : Int32) (a2 : Int32) (h : jv_H) : jv_E l yX8_when cX8_when 3 (some .int) d (SC ++ X) jv_ri [.ref 0, .int a1, .int a2] h (f8_when_0 a1 a2 h) := by
  refine e_of [(0, .ref 0), (1, .int a1), (2, .int a2)] rfl pn_X8 (fun _ => Nat.le_of_ble_eq_true rfl) (fun _ => rfl) ?_
  unfold f8_when_0
  refine v_aload_n 0 1 rfl dX8_when_0 rfl rfl ?_
  refine v_getr 4 rfl fl_X8_10 sc_0 rfl dX8_when_1 ?_
  refine v_iload_n 1 5 rfl dX8_when_4 rfl rfl ?_
  refine n_callv [.int a1] [] (fun r => .int r :: []) 8 rfl (by omega) (Nat.le_of_ble_eq_true rfl) cb_X2_hasTemper cv_X8_112 sc_1 cn_X2 rfl (Nat.le_of_ble_eq_true rfl) dX8_when_5 rfl (fun _ => rfl) (e2_hasTemper_1 (by omega) a1 h) (fun q1 => ?_)
  refine v_if_eq 22 11 rfl rfl dX8_when_8 (fun _ => ?_) (fun _ => ?_)
  · refine v_iconst 23 rfl dX8_when_22 ic_m1 ?_
    exact v_iret rfl dX8_when_23
  · refine v_aload_n 0 12 rfl dX8_when_11 rfl rfl ?_
    refine v_getr 15 rfl fl_X8_10 sc_0 rfl dX8_when_12 ?_
    refine v_iload_n 2 16 rfl dX8_when_15 rfl rfl ?_
    refine n_callv [.int a2] [] (fun r => .int r :: []) 19 rfl (by omega) (Nat.le_of_ble_eq_true rfl) cb_X2_hasNurse cv_X8_137 sc_1 cn_X2 rfl (Nat.le_of_ble_eq_true rfl) dX8_when_16 rfl (fun _ => rfl) (e2_hasNurse_1 (by omega) a2 q1.2) (fun q2 => ?_)
    refine v_if_ne 24 22 rfl rfl dX8_when_19 (fun _ => ?_) (fun _ => ?_)
    · refine v_aload_n 0 25 rfl dX8_when_24 rfl rfl ?_
      refine v_getr 28 rfl fl_X8_35 sc_0 rfl dX8_when_25 ?_
      refine v_iload_n 1 29 rfl dX8_when_28 rfl rfl ?_
      refine v_iload_n 2 30 rfl dX8_when_29 rfl rfl ?_
      refine n_callv [.int a1, .int a2] [] (fun r => .int r :: []) 33 rfl (by omega) (Nat.le_of_ble_eq_true rfl) cb_X3_yearsTillBroken cv_X8_210 sc_22 cn_X3 rfl (Nat.le_of_ble_eq_true rfl) dX8_when_30 rfl (fun _ => rfl) (e3_yearsTillBroken_22 (by omega) a1 a2 q2.2) (fun q3 => ?_)
      exact v_iret rfl dX8_when_33
    · refine v_iconst 23 rfl dX8_when_22 ic_m1 ?_
      exact v_iret rfl dX8_when_23
-- TemperNurses.hot(II)I at 0
def f8_hot_0 (a1 : Int32) (a2 : Int32) (h : jv_H) : Option (Int32 × jv_H) := (f2_hasTemper_1 a1 h).bind fun q1 => if q1.1 = 0 then some ((-1 : Int32), q1.2) else (f8_isWithin a2 (0 : Int32) (99 : Int32) q1.2).bind fun q2 => if q2.1 = 0 then some ((-1 : Int32), q2.2) else (f3_heatIn_22 a1 a2 q2.2).bind fun q3 => some (q3.1, q3.2)
set_option maxRecDepth 20000 in
theorem e8_hot_0 {l : Launch} {d : Nat} {X : List jv_S} (hd : 3 ≤ d) (a1 : Int32) (a2 : Int32) (h : jv_H) : jv_E l yX8_hot cX8_hot 3 (some .int) d (SC ++ X) jv_ri [.ref 0, .int a1, .int a2] h (f8_hot_0 a1 a2 h) := by
  refine e_of [(0, .ref 0), (1, .int a1), (2, .int a2)] rfl pn_X8 (fun _ => Nat.le_of_ble_eq_true rfl) (fun _ => rfl) ?_
  unfold f8_hot_0
  refine v_aload_n 0 1 rfl dX8_hot_0 rfl rfl ?_
  refine v_getr 4 rfl fl_X8_10 sc_0 rfl dX8_hot_1 ?_
  refine v_iload_n 1 5 rfl dX8_hot_4 rfl rfl ?_
  refine n_callv [.int a1] [] (fun r => .int r :: []) 8 rfl (by omega) (Nat.le_of_ble_eq_true rfl) cb_X2_hasTemper cv_X8_112 sc_1 cn_X2 rfl (Nat.le_of_ble_eq_true rfl) dX8_hot_5 rfl (fun _ => rfl) (e2_hasTemper_1 (by omega) a1 h) (fun q1 => ?_)
  refine v_if_eq 21 11 rfl rfl dX8_hot_8 (fun _ => ?_) (fun _ => ?_)
  · refine v_iconst 22 rfl dX8_hot_21 ic_m1 ?_
    exact v_iret rfl dX8_hot_22
  · refine v_iload_n 2 12 rfl dX8_hot_11 rfl rfl ?_
    refine v_iconst 13 rfl dX8_hot_12 ic_0 ?_
    refine v_bipush 15 rfl dX8_hot_13 bp_99 ?_
    refine n_calls [.int a2, .int (0 : Int32), .int (99 : Int32)] [] (fun r => .int r :: []) 18 rfl (by omega) (Nat.le_of_ble_eq_true rfl) cb_X8_isWithin cs_X8_83 rfl (Nat.le_of_ble_eq_true rfl) dX8_hot_15 rfl (fun _ => rfl) (e8_isWithin (by omega) a2 (0 : Int32) (99 : Int32) q1.2) (fun q2 => ?_)
    refine v_if_ne 23 21 rfl rfl dX8_hot_18 (fun _ => ?_) (fun _ => ?_)
    · refine v_aload_n 0 24 rfl dX8_hot_23 rfl rfl ?_
      refine v_getr 27 rfl fl_X8_35 sc_0 rfl dX8_hot_24 ?_
      refine v_iload_n 1 28 rfl dX8_hot_27 rfl rfl ?_
      refine v_iload_n 2 29 rfl dX8_hot_28 rfl rfl ?_
      refine n_callv [.int a1, .int a2] [] (fun r => .int r :: []) 32 rfl (by omega) (Nat.le_of_ble_eq_true rfl) cb_X3_heatIn cv_X8_186 sc_22 cn_X3 rfl (Nat.le_of_ble_eq_true rfl) dX8_hot_29 rfl (fun _ => rfl) (e3_heatIn_22 (by omega) a1 a2 q2.2) (fun q3 => ?_)
      exact v_iret rfl dX8_hot_32
    · refine v_iconst 22 rfl dX8_hot_21 ic_m1 ?_
      exact v_iret rfl dX8_hot_22
-- TemperNurses$Planner.tryPlaces(II)V at 23
def g6_tryPlaces_23_b42 (self : Int32 → Int32 → jv_H → Option (Unit × jv_H)) (a2 : Int32) (h : jv_H) : Option (Unit × jv_H) := jv_let (jv_p h 23 6 a2) fun h1 => if jv_cp (0 : Int32) (0 : Int32) (6 : Int32) 6 6 then jv_let (jv_y h1 24 27 (0 : Int32) (0 : Int32) (6 : Int32)) fun h2 => some ((), h2) else none
set_option maxRecDepth 20000 in
theorem b6_tryPlaces_23_b42 {l : Launch} {d : Nat} {X : List jv_S} (hd : 3 ≤ d) (self : Int32 → Int32 → jv_H → Option (Unit × jv_H)) (hself : ∀ (a1 : Int32) (a2 : Int32) (h : jv_H), jv_E l yX6_tryPlaces cX6_tryPlaces 5 none (d - 1) (SC ++ X) jv_rv [.ref 23, .int a1, .int a2] h (self a1 a2 h)) : ∀ (a2 : Int32) (h : jv_H), jv_V l RX6 cX6_tryPlaces 5 none d (SC ++ X) jv_rv 42 [(0, .ref 23), (2, .int a2)] [] h (g6_tryPlaces_23_b42 self a2 h) := by
  intro a2 h
  unfold g6_tryPlaces_23_b42
  refine v_aload_n 0 43 rfl dX6_tryPlaces_42 rfl rfl ?_
  refine v_iload_n 1 44 rfl dX6_tryPlaces_43 rfl rfl ?_
  refine n_puti 47 rfl fl_X6_28 sc_23 rfl dX6_tryPlaces_44 (fun h1 => ?_)
  refine v_aload_n 0 48 rfl dX6_tryPlaces_47 rfl rfl ?_
  refine v_getr 51 rfl fl_X6_9 sc_23 rfl dX6_tryPlaces_48 ?_
  refine v_iconst 52 rfl dX6_tryPlaces_51 ic_0 ?_
  refine v_aload_n 0 53 rfl dX6_tryPlaces_52 rfl rfl ?_
  refine v_getr 56 rfl fl_X6_21 sc_23 rfl dX6_tryPlaces_53 ?_
  refine v_iconst 57 rfl dX6_tryPlaces_56 ic_0 ?_
  refine v_bipush 59 rfl dX6_tryPlaces_57 bp_6 ?_
  refine n_copy 62 rfl (by omega) (Nat.le_of_ble_eq_true rfl) sc_24 sc_27 mw_657 mw_476 mw_475 mw_64 dX6_tryPlaces_59 (fun h2 => ?_)
  exact v_vret rfl dX6_tryPlaces_62
def g6_tryPlaces_23_b142 (self : Int32 → Int32 → jv_H → Option (Unit × jv_H)) (k65 : Int32 → Int32 → Int32 → jv_H → Option (Unit × jv_H)) (a1 : Int32) (a2 : Int32) (a3 : Int32) (h : jv_H) : Option (Unit × jv_H) := jv_let (a3 + (1 : Int32)) fun x1 => k65 a1 a2 x1 h
set_option maxRecDepth 20000 in
theorem b6_tryPlaces_23_b142 {l : Launch} {d : Nat} {X : List jv_S} (hd : 3 ≤ d) (self : Int32 → Int32 → jv_H → Option (Unit × jv_H)) (hself : ∀ (a1 : Int32) (a2 : Int32) (h : jv_H), jv_E l yX6_tryPlaces cX6_tryPlaces 5 none (d - 1) (SC ++ X) jv_rv [.ref 23, .int a1, .int a2] h (self a1 a2 h)) (k65 : Int32 → Int32 → Int32 → jv_H → Option (Unit × jv_H)) (hk65 : ∀ (a1 a2 a3 : Int32) (h : jv_H), jv_V l RX6 cX6_tryPlaces 5 none d (SC ++ X) jv_rv 65 [(0, .ref 23), (1, .int a1), (2, .int a2), (3, .int a3)] [] h (k65 a1 a2 a3 h)) : ∀ (a1 : Int32) (a2 : Int32) (a3 : Int32) (h : jv_H), jv_V l RX6 cX6_tryPlaces 5 none d (SC ++ X) jv_rv 142 [(0, .ref 23), (1, .int a1), (2, .int a2), (3, .int a3)] [] h (g6_tryPlaces_23_b142 self k65 a1 a2 a3 h) := by
  intro a1 a2 a3 h
  unfold g6_tryPlaces_23_b142
  refine n_iinc (fun x1 => [(0, .ref 23), (1, .int a1), (2, .int a2), (3, .int x1)]) 3 145 rfl dX6_tryPlaces_142 rfl ic_1 (Nat.le_of_ble_eq_true rfl) rfl (fun _ => rfl) (fun x1 => ?_)
  refine v_goto 65 rfl dX6_tryPlaces_145 ?_
  exact hk65 a1 a2 x1 h
def g6_tryPlaces_23_b65 (self : Int32 → Int32 → jv_H → Option (Unit × jv_H)) (k65 : Int32 → Int32 → Int32 → jv_H → Option (Unit × jv_H)) (a1 : Int32) (a2 : Int32) (a3 : Int32) (h : jv_H) : Option (Unit × jv_H) := if (h.1 1 1) ≤ a3 then if jv_ix a1 6 then jv_let (jv_p h 24 (Int32.toNatClampNeg a1) (-9 : Int32)) fun h1 => (self (a1 + (1 : Int32)) a2 h1).bind fun q2 => some ((), q2.2) else none else if jv_ix a3 4 then jv_let (h.1 25 (Int32.toNatClampNeg a3)) fun x3 => (f3_mayjoin_22 a1 a3 x3 h).bind fun q4 => if q4.1 = 0 then g6_tryPlaces_23_b142 self k65 a1 a2 a3 q4.2 else (f8_bit a1 q4.2).bind fun q5 => if jv_ix a3 4 then jv_let (jv_p q5.2 25 (Int32.toNatClampNeg a3) (x3 ||| q5.1)) fun h6 => if jv_ix a1 6 then jv_let (jv_p h6 24 (Int32.toNatClampNeg a1) a3) fun h7 => (self (a1 + (1 : Int32)) (a2 + (1 : Int32)) h7).bind fun q8 => if jv_ix a3 4 then jv_let (jv_p q8.2 25 (Int32.toNatClampNeg a3) x3) fun h9 => g6_tryPlaces_23_b142 self k65 a1 a2 a3 h9 else none else none else none else none
set_option maxRecDepth 20000 in
theorem b6_tryPlaces_23_b65 {l : Launch} {d : Nat} {X : List jv_S} (hd : 3 ≤ d) (self : Int32 → Int32 → jv_H → Option (Unit × jv_H)) (hself : ∀ (a1 : Int32) (a2 : Int32) (h : jv_H), jv_E l yX6_tryPlaces cX6_tryPlaces 5 none (d - 1) (SC ++ X) jv_rv [.ref 23, .int a1, .int a2] h (self a1 a2 h)) (k65 : Int32 → Int32 → Int32 → jv_H → Option (Unit × jv_H)) (hk65 : ∀ (a1 a2 a3 : Int32) (h : jv_H), jv_V l RX6 cX6_tryPlaces 5 none d (SC ++ X) jv_rv 65 [(0, .ref 23), (1, .int a1), (2, .int a2), (3, .int a3)] [] h (k65 a1 a2 a3 h)) : ∀ (a1 : Int32) (a2 : Int32) (a3 : Int32) (h : jv_H), jv_V l RX6 cX6_tryPlaces 5 none d (SC ++ X) jv_rv 65 [(0, .ref 23), (1, .int a1), (2, .int a2), (3, .int a3)] [] h (g6_tryPlaces_23_b65 self k65 a1 a2 a3 h) := by
  intro a1 a2 a3 h
  unfold g6_tryPlaces_23_b65
  refine v_iload_n 3 66 rfl dX6_tryPlaces_65 rfl rfl ?_
  refine v_aload_n 0 67 rfl dX6_tryPlaces_66 rfl rfl ?_
  refine v_getr 70 rfl fl_X6_24 sc_23 rfl dX6_tryPlaces_67 ?_
  refine v_getr 73 rfl fl_X6_42 sc_22 rfl dX6_tryPlaces_70 ?_
  refine v_geti 76 rfl fl_X6_53 sc_1 rfl dX6_tryPlaces_73 ?_
  refine v_icmp_ge 148 79 rfl rfl dX6_tryPlaces_76 (fun _ => ?_) (fun _ => ?_)
  · refine v_aload_n 0 149 rfl dX6_tryPlaces_148 rfl rfl ?_
    refine v_getr 152 rfl fl_X6_9 sc_23 rfl dX6_tryPlaces_149 ?_
    refine v_iload_n 1 153 rfl dX6_tryPlaces_152 rfl rfl ?_
    refine v_bipush 155 rfl dX6_tryPlaces_153 bp_m9 ?_
    refine n_iast 156 rfl sc_24 dX6_tryPlaces_155 (fun h1 => ?_)
    refine v_aload_n 0 157 rfl dX6_tryPlaces_156 rfl rfl ?_
    refine v_iload_n 1 158 rfl dX6_tryPlaces_157 rfl rfl ?_
    refine v_iconst 159 rfl dX6_tryPlaces_158 ic_1 ?_
    refine v_iadd 160 rfl dX6_tryPlaces_159 ?_
    refine v_iload_n 2 161 rfl dX6_tryPlaces_160 rfl rfl ?_
    refine n_callv [.int (a1 + (1 : Int32)), .int a2] [] (fun _ => []) 164 rfl (by omega) (Nat.le_of_ble_eq_true rfl) cb_X6_tryPlaces cv_X6_38 sc_23 cn_X6 rfl (Nat.le_of_ble_eq_true rfl) dX6_tryPlaces_161 rfl (fun _ => rfl) (hself (a1 + (1 : Int32)) a2 h1) (fun q2 => ?_)
    exact v_vret rfl dX6_tryPlaces_164
  · refine v_aload_n 0 80 rfl dX6_tryPlaces_79 rfl rfl ?_
    refine v_getr 83 rfl fl_X6_15 sc_23 rfl dX6_tryPlaces_80 ?_
    refine v_iload_n 3 84 rfl dX6_tryPlaces_83 rfl rfl ?_
    refine v_iald 85 rfl sc_25 dX6_tryPlaces_84 (fun _ => ?_)
    refine n_istore (fun x3 => [(0, .ref 23), (1, .int a1), (2, .int a2), (3, .int a3), (4, .int x3)]) 87 rfl dX6_tryPlaces_85 (Nat.le_of_ble_eq_true rfl) rfl (fun _ => rfl) (fun x3 => ?_)
    refine v_aload_n 0 88 rfl dX6_tryPlaces_87 rfl rfl ?_
    refine v_getr 91 rfl fl_X6_24 sc_23 rfl dX6_tryPlaces_88 ?_
    refine v_iload_n 1 92 rfl dX6_tryPlaces_91 rfl rfl ?_
    refine v_iload_n 3 93 rfl dX6_tryPlaces_92 rfl rfl ?_
    refine v_iload 4 95 rfl dX6_tryPlaces_93 rfl ?_
    refine n_callv [.int a1, .int a3, .int x3] [] (fun r => .int r :: []) 98 rfl (by omega) (Nat.le_of_ble_eq_true rfl) cb_X3_mayJoin cv_X6_72 sc_22 cn_X3 rfl (Nat.le_of_ble_eq_true rfl) dX6_tryPlaces_95 rfl (fun _ => rfl) (e3_mayjoin_22 (by omega) a1 a3 x3 h) (fun q4 => ?_)
    refine v_if_ne 104 101 rfl rfl dX6_tryPlaces_98 (fun _ => ?_) (fun _ => ?_)
    · refine v_aload_n 0 105 rfl dX6_tryPlaces_104 rfl rfl ?_
      refine v_getr 108 rfl fl_X6_15 sc_23 rfl dX6_tryPlaces_105 ?_
      refine v_iload_n 3 109 rfl dX6_tryPlaces_108 rfl rfl ?_
      refine v_iload 4 111 rfl dX6_tryPlaces_109 rfl ?_
      refine v_iload_n 1 112 rfl dX6_tryPlaces_111 rfl rfl ?_
      refine n_calln [.int a1] [.int x3, .int a3, .ref 25] (fun r => .int r :: [.int x3, .int a3, .ref 25]) 115 rfl (by omega) (Nat.le_of_ble_eq_true rfl) cb_X8_bit cn_X6_76 rfl (Nat.le_of_ble_eq_true rfl) dX6_tryPlaces_112 rfl (fun _ => rfl) (e8_bit (by omega) a1 q4.2) (fun q5 => ?_)
      refine v_ior 116 rfl dX6_tryPlaces_115 ?_
      refine n_iast 117 rfl sc_25 dX6_tryPlaces_116 (fun h6 => ?_)
      refine v_aload_n 0 118 rfl dX6_tryPlaces_117 rfl rfl ?_
      refine v_getr 121 rfl fl_X6_9 sc_23 rfl dX6_tryPlaces_118 ?_
      refine v_iload_n 1 122 rfl dX6_tryPlaces_121 rfl rfl ?_
      refine v_iload_n 3 123 rfl dX6_tryPlaces_122 rfl rfl ?_
      refine n_iast 124 rfl sc_24 dX6_tryPlaces_123 (fun h7 => ?_)
      refine v_aload_n 0 125 rfl dX6_tryPlaces_124 rfl rfl ?_
      refine v_iload_n 1 126 rfl dX6_tryPlaces_125 rfl rfl ?_
      refine v_iconst 127 rfl dX6_tryPlaces_126 ic_1 ?_
      refine v_iadd 128 rfl dX6_tryPlaces_127 ?_
      refine v_iload_n 2 129 rfl dX6_tryPlaces_128 rfl rfl ?_
      refine v_iconst 130 rfl dX6_tryPlaces_129 ic_1 ?_
      refine v_iadd 131 rfl dX6_tryPlaces_130 ?_
      refine n_callv [.int (a1 + (1 : Int32)), .int (a2 + (1 : Int32))] [] (fun _ => []) 134 rfl (by omega) (Nat.le_of_ble_eq_true rfl) cb_X6_tryPlaces cv_X6_38 sc_23 cn_X6 rfl (Nat.le_of_ble_eq_true rfl) dX6_tryPlaces_131 rfl (fun _ => rfl) (hself (a1 + (1 : Int32)) (a2 + (1 : Int32)) h7) (fun q8 => ?_)
      refine v_aload_n 0 135 rfl dX6_tryPlaces_134 rfl rfl ?_
      refine v_getr 138 rfl fl_X6_15 sc_23 rfl dX6_tryPlaces_135 ?_
      refine v_iload_n 3 139 rfl dX6_tryPlaces_138 rfl rfl ?_
      refine v_iload 4 141 rfl dX6_tryPlaces_139 rfl ?_
      refine n_iast 142 rfl sc_25 dX6_tryPlaces_141 (fun h9 => ?_)
      refine v_sub [0, 1, 2, 3] rfl ?_
      exact b6_tryPlaces_23_b142 hd self hself k65 hk65 a1 a2 a3 h9
    · refine v_goto 142 rfl dX6_tryPlaces_101 ?_
      refine v_sub [0, 1, 2, 3] rfl ?_
      exact b6_tryPlaces_23_b142 hd self hself k65 hk65 a1 a2 a3 q4.2
def f6_tryPlaces_23_l65 (self : Int32 → Int32 → jv_H → Option (Unit × jv_H)) : Nat → Int32 → Int32 → Int32 → jv_H → Option (Unit × jv_H)
  | 0 => fun _ _ _ _ => none
  | n + 1 => fun a1 a2 a3 h => g6_tryPlaces_23_b65 self (f6_tryPlaces_23_l65 self n) a1 a2 a3 h
theorem w6_tryPlaces_23_l65 {l : Launch} {d : Nat} {X : List jv_S} (hd : 3 ≤ d) (self : Int32 → Int32 → jv_H → Option (Unit × jv_H)) (hself : ∀ (a1 : Int32) (a2 : Int32) (h : jv_H), jv_E l yX6_tryPlaces cX6_tryPlaces 5 none (d - 1) (SC ++ X) jv_rv [.ref 23, .int a1, .int a2] h (self a1 a2 h)) : ∀ (n : Nat) (a1 : Int32) (a2 : Int32) (a3 : Int32) (h : jv_H), jv_V l RX6 cX6_tryPlaces 5 none d (SC ++ X) jv_rv 65 [(0, .ref 23), (1, .int a1), (2, .int a2), (3, .int a3)] [] h (f6_tryPlaces_23_l65 self n a1 a2 a3 h) := by
  intro n
  induction n with
  | zero => intro a1 a2 a3 h; exact v_none
  | succ n ih => intro a1 a2 a3 h; exact b6_tryPlaces_23_b65 hd self hself (f6_tryPlaces_23_l65 self n) ih a1 a2 a3 h
def g6_tryPlaces_23 (self : Int32 → Int32 → jv_H → Option (Unit × jv_H)) (a1 : Int32) (a2 : Int32) (h : jv_H) : Option (Unit × jv_H) := if (h.1 23 6) < ((a2 + (h.1 1 0)) - a1) then if (h.1 1 0) ≤ a1 then g6_tryPlaces_23_b42 self a2 h else if a1 < (6 : Int32) then jv_let (0 : Int32) fun x1 => f6_tryPlaces_23_l65 self jv_fuel a1 a2 x1 h else g6_tryPlaces_23_b42 self a2 h else some ((), h)
set_option maxRecDepth 20000 in
theorem b6_tryPlaces_23 {l : Launch} {d : Nat} {X : List jv_S} (hd : 3 ≤ d) (self : Int32 → Int32 → jv_H → Option (Unit × jv_H)) (hself : ∀ (a1 : Int32) (a2 : Int32) (h : jv_H), jv_E l yX6_tryPlaces cX6_tryPlaces 5 none (d - 1) (SC ++ X) jv_rv [.ref 23, .int a1, .int a2] h (self a1 a2 h)) (a1 : Int32) (a2 : Int32) (h : jv_H) : jv_E l yX6_tryPlaces cX6_tryPlaces 5 none d (SC ++ X) jv_rv [.ref 23, .int a1, .int a2] h (g6_tryPlaces_23 self a1 a2 h) := by
  refine e_of [(0, .ref 23), (1, .int a1), (2, .int a2)] rfl pn_X6 (fun _ => Nat.le_of_ble_eq_true rfl) (fun _ => rfl) ?_
  unfold g6_tryPlaces_23
  refine v_iload_n 2 1 rfl dX6_tryPlaces_0 rfl rfl ?_
  refine v_aload_n 0 2 rfl dX6_tryPlaces_1 rfl rfl ?_
  refine v_getr 5 rfl fl_X6_24 sc_23 rfl dX6_tryPlaces_2 ?_
  refine v_getr 8 rfl fl_X6_42 sc_22 rfl dX6_tryPlaces_5 ?_
  refine v_geti 11 rfl fl_X6_48 sc_1 rfl dX6_tryPlaces_8 ?_
  refine v_iadd 12 rfl dX6_tryPlaces_11 ?_
  refine v_iload_n 1 13 rfl dX6_tryPlaces_12 rfl rfl ?_
  refine v_isub 14 rfl dX6_tryPlaces_13 ?_
  refine v_aload_n 0 15 rfl dX6_tryPlaces_14 rfl rfl ?_
  refine v_geti 18 rfl fl_X6_28 sc_23 rfl dX6_tryPlaces_15 ?_
  refine v_icmp_gt 22 21 rfl rfl dX6_tryPlaces_18 (fun _ => ?_) (fun _ => ?_)
  · refine v_iload_n 1 23 rfl dX6_tryPlaces_22 rfl rfl ?_
    refine v_aload_n 0 24 rfl dX6_tryPlaces_23 rfl rfl ?_
    refine v_getr 27 rfl fl_X6_24 sc_23 rfl dX6_tryPlaces_24 ?_
    refine v_getr 30 rfl fl_X6_42 sc_22 rfl dX6_tryPlaces_27 ?_
    refine v_geti 33 rfl fl_X6_48 sc_1 rfl dX6_tryPlaces_30 ?_
    refine v_icmp_ge 42 36 rfl rfl dX6_tryPlaces_33 (fun _ => ?_) (fun _ => ?_)
    · refine v_sub [0, 2] rfl ?_
      exact b6_tryPlaces_23_b42 hd self hself a2 h
    · refine v_iload_n 1 37 rfl dX6_tryPlaces_36 rfl rfl ?_
      refine v_bipush 39 rfl dX6_tryPlaces_37 bp_6 ?_
      refine v_icmp_lt 63 42 rfl rfl dX6_tryPlaces_39 (fun _ => ?_) (fun _ => ?_)
      · refine v_iconst 64 rfl dX6_tryPlaces_63 ic_0 ?_
        refine n_istore_n (fun x1 => [(0, .ref 23), (1, .int a1), (2, .int a2), (3, .int x1)]) 65 rfl dX6_tryPlaces_64 rfl (Nat.le_of_ble_eq_true rfl) rfl (fun _ => rfl) (fun x1 => ?_)
        exact w6_tryPlaces_23_l65 hd self hself jv_fuel a1 a2 x1 h
      · refine v_sub [0, 2] rfl ?_
        exact b6_tryPlaces_23_b42 hd self hself a2 h
  · exact v_vret rfl dX6_tryPlaces_21
def f6_tryPlaces_23 : Nat → Int32 → Int32 → jv_H → Option (Unit × jv_H)
  | 0 => fun _ _ _ => none
  | n + 1 => fun a1 a2 h => g6_tryPlaces_23 (f6_tryPlaces_23 n) a1 a2 h
theorem e6_tryPlaces_23 {l : Launch} {X : List jv_S} : ∀ (n : Nat) {d : Nat} (hd : 3 + n ≤ d) (a1 : Int32) (a2 : Int32) (h : jv_H), jv_E l yX6_tryPlaces cX6_tryPlaces 5 none d (SC ++ X) jv_rv [.ref 23, .int a1, .int a2] h (f6_tryPlaces_23 n a1 a2 h) := by
  intro n
  induction n with
  | zero => intro d hd a1 a2 h res ho; cases ho
  | succ n ih => intro d hd a1 a2 h; exact b6_tryPlaces_23 (by omega) (f6_tryPlaces_23 n) (fun a1 a2 h => ih (by omega) a1 a2 h) a1 a2 h
-- TemperNurses$Planner.findPlan()V at 23
def f6_findPlan_23 (h : jv_H) : Option (Unit × jv_H) := jv_let (jv_p h 23 6 (-1 : Int32)) fun h1 => (fj7_fill_53178_25 (0 : Int32) h1).bind fun q2 => (f6_tryPlaces_23 jv_deep (0 : Int32) (0 : Int32) q2.2).bind fun q3 => some ((), q3.2)
set_option maxRecDepth 20000 in
theorem e6_findPlan_23 {l : Launch} {d : Nat} {X : List jv_S} (hd : 44 ≤ d) (h : jv_H) : jv_E l yX6_findPlan cX6_findPlan 1 none d (SC ++ X) jv_rv [.ref 23] h (f6_findPlan_23  h) := by
  refine e_of [(0, .ref 23)] rfl pn_X6 (fun _ => Nat.le_of_ble_eq_true rfl) (fun _ => rfl) ?_
  unfold f6_findPlan_23
  refine v_aload_n 0 1 rfl dX6_findPlan_0 rfl rfl ?_
  refine v_iconst 2 rfl dX6_findPlan_1 ic_m1 ?_
  refine n_puti 5 rfl fl_X6_28 sc_23 rfl dX6_findPlan_2 (fun h1 => ?_)
  refine v_aload_n 0 6 rfl dX6_findPlan_5 rfl rfl ?_
  refine v_getr 9 rfl fl_X6_15 sc_23 rfl dX6_findPlan_6 ?_
  refine v_iconst 10 rfl dX6_findPlan_9 ic_0 ?_
  refine n_calls [.ref 25, .int (0 : Int32)] [] (fun _ => []) 13 rfl (by omega) (Nat.le_of_ble_eq_true rfl) cb_J7_fill_53178 cs_X6_32 rfl (Nat.le_of_ble_eq_true rfl) dX6_findPlan_10 rfl (fun _ => rfl) (ej7_fill_53178_25 (by omega) (0 : Int32) h1) (fun q2 => ?_)
  refine v_aload_n 0 14 rfl dX6_findPlan_13 rfl rfl ?_
  refine v_iconst 15 rfl dX6_findPlan_14 ic_0 ?_
  refine v_iconst 16 rfl dX6_findPlan_15 ic_0 ?_
  refine n_callv [.int (0 : Int32), .int (0 : Int32)] [] (fun _ => []) 19 rfl (by omega) (Nat.le_of_ble_eq_true rfl) cb_X6_tryPlaces cv_X6_38 sc_23 cn_X6 rfl (Nat.le_of_ble_eq_true rfl) dX6_findPlan_16 rfl (fun _ => rfl) (e6_tryPlaces_23 jv_deep (by simp only [jv_deep]; omega) (0 : Int32) (0 : Int32) q2.2) (fun q3 => ?_)
  exact v_vret rfl dX6_findPlan_19
-- TemperNurses.plan(I)I at 0
def g8_plan_0_b18 (a1 : Int32) (h : jv_H) : Option (Int32 × jv_H) := (f6_findPlan_23 h).bind fun q1 => if a1 = (-1 : Int32) then some ((q1.2.1 23 6), q1.2) else if jv_ix a1 6 then some ((q1.2.1 27 (Int32.toNatClampNeg a1)), q1.2) else none
set_option maxRecDepth 20000 in
theorem b8_plan_0_b18 {l : Launch} {d : Nat} {X : List jv_S} (hd : 45 ≤ d) : ∀ (a1 : Int32) (h : jv_H), jv_V l RX8 cX8_plan 2 (some .int) d (SC ++ X) jv_ri 18 [(0, .ref 0), (1, .int a1)] [] h (g8_plan_0_b18 a1 h) := by
  intro a1 h
  unfold g8_plan_0_b18
  refine v_aload_n 0 19 rfl dX8_plan_18 rfl rfl ?_
  refine v_getr 22 rfl fl_X8_44 sc_0 rfl dX8_plan_19 ?_
  refine n_callv [] [] (fun _ => []) 25 rfl (by omega) (Nat.le_of_ble_eq_true rfl) cb_X6_findPlan cv_X8_213 sc_23 cn_X6 rfl (Nat.le_of_ble_eq_true rfl) dX8_plan_22 rfl (fun _ => rfl) (e6_findPlan_23 (by omega)  h) (fun q1 => ?_)
  refine v_iload_n 1 26 rfl dX8_plan_25 rfl rfl ?_
  refine v_iconst 27 rfl dX8_plan_26 ic_m1 ?_
  refine v_icmp_ne 40 30 rfl rfl dX8_plan_27 (fun _ => ?_) (fun _ => ?_)
  · refine v_aload_n 0 41 rfl dX8_plan_40 rfl rfl ?_
    refine v_getr 44 rfl fl_X8_44 sc_0 rfl dX8_plan_41 ?_
    refine v_getr 47 rfl fl_X8_219 sc_23 rfl dX8_plan_44 ?_
    refine v_iload_n 1 48 rfl dX8_plan_47 rfl rfl ?_
    refine v_iald 49 rfl sc_27 dX8_plan_48 (fun _ => ?_)
    exact v_iret rfl dX8_plan_49
  · refine v_aload_n 0 31 rfl dX8_plan_30 rfl rfl ?_
    refine v_getr 34 rfl fl_X8_44 sc_0 rfl dX8_plan_31 ?_
    refine v_geti 37 rfl fl_X8_216 sc_23 rfl dX8_plan_34 ?_
    refine v_goto 49 rfl dX8_plan_37 ?_
    exact v_iret rfl dX8_plan_49
def f8_plan_0 (a1 : Int32) (h : jv_H) : Option (Int32 × jv_H) := if a1 = (-1 : Int32) then g8_plan_0_b18 a1 h else (f2_hasTemper_1 a1 h).bind fun q1 => if q1.1 = 0 then some ((-1 : Int32), q1.2) else g8_plan_0_b18 a1 q1.2
set_option maxRecDepth 20000 in
theorem e8_plan_0 {l : Launch} {d : Nat} {X : List jv_S} (hd : 45 ≤ d) (a1 : Int32) (h : jv_H) : jv_E l yX8_plan cX8_plan 2 (some .int) d (SC ++ X) jv_ri [.ref 0, .int a1] h (f8_plan_0 a1 h) := by
  refine e_of [(0, .ref 0), (1, .int a1)] rfl pn_X8 (fun _ => Nat.le_of_ble_eq_true rfl) (fun _ => rfl) ?_
  unfold f8_plan_0
  refine v_iload_n 1 1 rfl dX8_plan_0 rfl rfl ?_
  refine v_iconst 2 rfl dX8_plan_1 ic_m1 ?_
  refine v_icmp_eq 18 5 rfl rfl dX8_plan_2 (fun _ => ?_) (fun _ => ?_)
  · exact b8_plan_0_b18 hd a1 h
  · refine v_aload_n 0 6 rfl dX8_plan_5 rfl rfl ?_
    refine v_getr 9 rfl fl_X8_10 sc_0 rfl dX8_plan_6 ?_
    refine v_iload_n 1 10 rfl dX8_plan_9 rfl rfl ?_
    refine n_callv [.int a1] [] (fun r => .int r :: []) 13 rfl (by omega) (Nat.le_of_ble_eq_true rfl) cb_X2_hasTemper cv_X8_112 sc_1 cn_X2 rfl (Nat.le_of_ble_eq_true rfl) dX8_plan_10 rfl (fun _ => rfl) (e2_hasTemper_1 (by omega) a1 h) (fun q1 => ?_)
    refine v_if_ne 18 16 rfl rfl dX8_plan_13 (fun _ => ?_) (fun _ => ?_)
    · exact b8_plan_0_b18 hd a1 q1.2
    · refine v_iconst 17 rfl dX8_plan_16 ic_m1 ?_
      exact v_iret rfl dX8_plan_17
-- TemperNurses$House.worthOfFetching(II)I at 22
def f3_worthOfFetching_22 (a1 : Int32) (a2 : Int32) (h : jv_H) : Option (Int32 × jv_H) := (f2_hasTemper_1 a1 h).bind fun q1 => if q1.1 = 0 then some ((0 : Int32), q1.2) else (f3_heatIn_22 a1 a2 q1.2).bind fun q2 => jv_let ((if (0 : Int32) < ((50 : Int32) - q2.1) then ((50 : Int32) - q2.1) else (0 : Int32)) - ((2 : Int32) * a2)) fun x3 => (f1_year_20 q2.2).bind fun q4 => if jv_ix a1 6 then if (q4.1 + a2) ≤ (q4.2.1 4 (Int32.toNatClampNeg a1)) then some (x3, q4.2) else some ((x3 - (30 : Int32)), q4.2) else none
set_option maxRecDepth 20000 in
theorem e3_worthOfFetching_22 {l : Launch} {d : Nat} {X : List jv_S} (hd : 3 ≤ d) (a1 : Int32) (a2 : Int32) (h : jv_H) : jv_E l yX3_worthOfFetching cX3_worthOfFetching 4 (some .int) d (SC ++ X) jv_ri [.ref 22, .int a1, .int a2] h (f3_worthOfFetching_22 a1 a2 h) := by
  refine e_of [(0, .ref 22), (1, .int a1), (2, .int a2)] rfl pn_X3 (fun _ => Nat.le_of_ble_eq_true rfl) (fun _ => rfl) ?_
  unfold f3_worthOfFetching_22
  refine v_aload_n 0 1 rfl dX3_worthOfFetching_0 rfl rfl ?_
  refine v_getr 4 rfl fl_X3_9 sc_22 rfl dX3_worthOfFetching_1 ?_
  refine v_iload_n 1 5 rfl dX3_worthOfFetching_4 rfl rfl ?_
  refine n_callv [.int a1] [] (fun r => .int r :: []) 8 rfl (by omega) (Nat.le_of_ble_eq_true rfl) cb_X2_hasTemper cv_X3_48 sc_1 cn_X2 rfl (Nat.le_of_ble_eq_true rfl) dX3_worthOfFetching_5 rfl (fun _ => rfl) (e2_hasTemper_1 (by omega) a1 h) (fun q1 => ?_)
  refine v_if_ne 13 11 rfl rfl dX3_worthOfFetching_8 (fun _ => ?_) (fun _ => ?_)
  · refine v_iconst 14 rfl dX3_worthOfFetching_13 ic_0 ?_
    refine v_bipush 16 rfl dX3_worthOfFetching_14 bp_50 ?_
    refine v_aload_n 0 17 rfl dX3_worthOfFetching_16 rfl rfl ?_
    refine v_iload_n 1 18 rfl dX3_worthOfFetching_17 rfl rfl ?_
    refine v_iload_n 2 19 rfl dX3_worthOfFetching_18 rfl rfl ?_
    refine n_callv [.int a1, .int a2] [.int (50 : Int32), .int (0 : Int32)] (fun r => .int r :: [.int (50 : Int32), .int (0 : Int32)]) 22 rfl (by omega) (Nat.le_of_ble_eq_true rfl) cb_X3_heatIn cv_X3_80 sc_22 cn_X3 rfl (Nat.le_of_ble_eq_true rfl) dX3_worthOfFetching_19 rfl (fun _ => rfl) (e3_heatIn_22 (by omega) a1 a2 q1.2) (fun q2 => ?_)
    refine v_isub 23 rfl dX3_worthOfFetching_22 ?_
    refine v_mmax 26 rfl (by omega) (Nat.le_of_ble_eq_true rfl) mw_595 mw_596 mw_66 mw_597 dX3_worthOfFetching_23 ?_
    refine v_iconst 27 rfl dX3_worthOfFetching_26 ic_2 ?_
    refine v_iload_n 2 28 rfl dX3_worthOfFetching_27 rfl rfl ?_
    refine v_imul 29 rfl dX3_worthOfFetching_28 ?_
    refine v_isub 30 rfl dX3_worthOfFetching_29 ?_
    refine n_istore_n (fun x3 => [(0, .ref 22), (1, .int a1), (2, .int a2), (3, .int x3)]) 31 rfl dX3_worthOfFetching_30 rfl (Nat.le_of_ble_eq_true rfl) rfl (fun _ => rfl) (fun x3 => ?_)
    refine v_aload_n 0 32 rfl dX3_worthOfFetching_31 rfl rfl ?_
    refine v_getr 35 rfl fl_X3_15 sc_22 rfl dX3_worthOfFetching_32 ?_
    refine n_callv [] [] (fun r => .int r :: []) 38 rfl (by omega) (Nat.le_of_ble_eq_true rfl) cb_X1_year cv_X3_89 sc_20 cn_X1 rfl (Nat.le_of_ble_eq_true rfl) dX3_worthOfFetching_35 rfl (fun _ => rfl) (e1_year_20 (by omega)  q2.2) (fun q4 => ?_)
    refine v_iload_n 2 39 rfl dX3_worthOfFetching_38 rfl rfl ?_
    refine v_iadd 40 rfl dX3_worthOfFetching_39 ?_
    refine v_aload_n 0 41 rfl dX3_worthOfFetching_40 rfl rfl ?_
    refine v_getr 44 rfl fl_X3_9 sc_22 rfl dX3_worthOfFetching_41 ?_
    refine v_getr 47 rfl fl_X3_93 sc_1 rfl dX3_worthOfFetching_44 ?_
    refine v_iload_n 1 48 rfl dX3_worthOfFetching_47 rfl rfl ?_
    refine v_iald 49 rfl sc_4 dX3_worthOfFetching_48 (fun _ => ?_)
    refine v_icmp_le 59 52 rfl rfl dX3_worthOfFetching_49 (fun _ => ?_) (fun _ => ?_)
    · refine v_iload_n 3 60 rfl dX3_worthOfFetching_59 rfl rfl ?_
      exact v_iret rfl dX3_worthOfFetching_60
    · refine v_iload_n 3 53 rfl dX3_worthOfFetching_52 rfl rfl ?_
      refine v_bipush 55 rfl dX3_worthOfFetching_53 bp_30 ?_
      refine v_isub 56 rfl dX3_worthOfFetching_55 ?_
      refine v_goto 60 rfl dX3_worthOfFetching_56 ?_
      exact v_iret rfl dX3_worthOfFetching_60
  · refine v_iconst 12 rfl dX3_worthOfFetching_11 ic_0 ?_
    exact v_iret rfl dX3_worthOfFetching_12
-- TemperNurses.best(II)I at 0
def g8_best_0_b72 (k39 : Int32 → Int32 → Int32 → Int32 → Int32 → jv_H → Option (Int32 × jv_H)) (a1 : Int32) (a2 : Int32) (a3 : Int32) (a4 : Int32) (a5 : Int32) (h : jv_H) : Option (Int32 × jv_H) := jv_let (a5 + (1 : Int32)) fun x1 => k39 a1 a2 a3 a4 x1 h
set_option maxRecDepth 20000 in
theorem b8_best_0_b72 {l : Launch} {d : Nat} {X : List jv_S} (hd : 4 ≤ d) (k39 : Int32 → Int32 → Int32 → Int32 → Int32 → jv_H → Option (Int32 × jv_H)) (hk39 : ∀ (a1 a2 a3 a4 a5 : Int32) (h : jv_H), jv_V l RX8 cX8_best 7 (some .int) d (SC ++ X) jv_ri 39 [(0, .ref 0), (1, .int a1), (2, .int a2), (3, .int a3), (4, .int a4), (5, .int a5)] [] h (k39 a1 a2 a3 a4 a5 h)) : ∀ (a1 : Int32) (a2 : Int32) (a3 : Int32) (a4 : Int32) (a5 : Int32) (h : jv_H), jv_V l RX8 cX8_best 7 (some .int) d (SC ++ X) jv_ri 72 [(0, .ref 0), (1, .int a1), (2, .int a2), (3, .int a3), (4, .int a4), (5, .int a5)] [] h (g8_best_0_b72 k39 a1 a2 a3 a4 a5 h) := by
  intro a1 a2 a3 a4 a5 h
  unfold g8_best_0_b72
  refine n_iinc (fun x1 => [(0, .ref 0), (1, .int a1), (2, .int a2), (3, .int a3), (4, .int a4), (5, .int x1)]) 5 75 rfl dX8_best_72 rfl ic_1 (Nat.le_of_ble_eq_true rfl) rfl (fun _ => rfl) (fun x1 => ?_)
  refine v_goto 39 rfl dX8_best_75 ?_
  exact hk39 a1 a2 a3 a4 x1 h
def g8_best_0_b39 (k39 : Int32 → Int32 → Int32 → Int32 → Int32 → jv_H → Option (Int32 × jv_H)) (a1 : Int32) (a2 : Int32) (a3 : Int32) (a4 : Int32) (a5 : Int32) (h : jv_H) : Option (Int32 × jv_H) := if (20 : Int32) < a5 then if a2 = 0 then some (a3, h) else some (a4, h) else (f3_worthOfFetching_22 a1 a5 h).bind fun q1 => jv_let q1.1 fun x2 => if x2 ≤ a4 then g8_best_0_b72 k39 a1 a2 a3 a4 a5 q1.2 else jv_let x2 fun x3 => jv_let a5 fun x4 => g8_best_0_b72 k39 a1 a2 x4 x3 a5 q1.2
set_option maxRecDepth 20000 in
theorem b8_best_0_b39 {l : Launch} {d : Nat} {X : List jv_S} (hd : 4 ≤ d) (k39 : Int32 → Int32 → Int32 → Int32 → Int32 → jv_H → Option (Int32 × jv_H)) (hk39 : ∀ (a1 a2 a3 a4 a5 : Int32) (h : jv_H), jv_V l RX8 cX8_best 7 (some .int) d (SC ++ X) jv_ri 39 [(0, .ref 0), (1, .int a1), (2, .int a2), (3, .int a3), (4, .int a4), (5, .int a5)] [] h (k39 a1 a2 a3 a4 a5 h)) : ∀ (a1 : Int32) (a2 : Int32) (a3 : Int32) (a4 : Int32) (a5 : Int32) (h : jv_H), jv_V l RX8 cX8_best 7 (some .int) d (SC ++ X) jv_ri 39 [(0, .ref 0), (1, .int a1), (2, .int a2), (3, .int a3), (4, .int a4), (5, .int a5)] [] h (g8_best_0_b39 k39 a1 a2 a3 a4 a5 h) := by
  intro a1 a2 a3 a4 a5 h
  unfold g8_best_0_b39
  refine v_iload 5 41 rfl dX8_best_39 rfl ?_
  refine v_bipush 43 rfl dX8_best_41 bp_20 ?_
  refine v_icmp_gt 78 46 rfl rfl dX8_best_43 (fun _ => ?_) (fun _ => ?_)
  · refine v_iload_n 2 79 rfl dX8_best_78 rfl rfl ?_
    refine v_if_ne 86 82 rfl rfl dX8_best_79 (fun _ => ?_) (fun _ => ?_)
    · refine v_iload 4 88 rfl dX8_best_86 rfl ?_
      exact v_iret rfl dX8_best_88
    · refine v_iload_n 3 83 rfl dX8_best_82 rfl rfl ?_
      refine v_goto 88 rfl dX8_best_83 ?_
      exact v_iret rfl dX8_best_88
  · refine v_aload_n 0 47 rfl dX8_best_46 rfl rfl ?_
    refine v_getr 50 rfl fl_X8_35 sc_0 rfl dX8_best_47 ?_
    refine v_iload_n 1 51 rfl dX8_best_50 rfl rfl ?_
    refine v_iload 5 53 rfl dX8_best_51 rfl ?_
    refine n_callv [.int a1, .int a5] [] (fun r => .int r :: []) 56 rfl (by omega) (Nat.le_of_ble_eq_true rfl) cb_X3_worthOfFetching cv_X8_223 sc_22 cn_X3 rfl (Nat.le_of_ble_eq_true rfl) dX8_best_53 rfl (fun _ => rfl) (e3_worthOfFetching_22 (by omega) a1 a5 h) (fun q1 => ?_)
    refine n_istore (fun x2 => [(0, .ref 0), (1, .int a1), (2, .int a2), (3, .int a3), (4, .int a4), (5, .int a5), (6, .int x2)]) 58 rfl dX8_best_56 (Nat.le_of_ble_eq_true rfl) rfl (fun _ => rfl) (fun x2 => ?_)
    refine v_iload 6 60 rfl dX8_best_58 rfl ?_
    refine v_iload 4 62 rfl dX8_best_60 rfl ?_
    refine v_icmp_le 72 65 rfl rfl dX8_best_62 (fun _ => ?_) (fun _ => ?_)
    · refine v_sub [0, 1, 2, 3, 4, 5] rfl ?_
      exact b8_best_0_b72 hd k39 hk39 a1 a2 a3 a4 a5 q1.2
    · refine v_iload 6 67 rfl dX8_best_65 rfl ?_
      refine n_istore (fun x3 => [(0, .ref 0), (1, .int a1), (2, .int a2), (3, .int a3), (4, .int x3), (5, .int a5), (6, .int x2)]) 69 rfl dX8_best_67 (Nat.le_of_ble_eq_true rfl) rfl (fun _ => rfl) (fun x3 => ?_)
      refine v_iload 5 71 rfl dX8_best_69 rfl ?_
      refine n_istore_n (fun x4 => [(0, .ref 0), (1, .int a1), (2, .int a2), (3, .int x4), (4, .int x3), (5, .int a5), (6, .int x2)]) 72 rfl dX8_best_71 rfl (Nat.le_of_ble_eq_true rfl) rfl (fun _ => rfl) (fun x4 => ?_)
      refine v_sub [0, 1, 2, 3, 4, 5] rfl ?_
      exact b8_best_0_b72 hd k39 hk39 a1 a2 x4 x3 a5 q1.2
def f8_best_0_l39 : Nat → Int32 → Int32 → Int32 → Int32 → Int32 → jv_H → Option (Int32 × jv_H)
  | 0 => fun _ _ _ _ _ _ => none
  | n + 1 => fun a1 a2 a3 a4 a5 h => g8_best_0_b39 (f8_best_0_l39 n) a1 a2 a3 a4 a5 h
theorem w8_best_0_l39 {l : Launch} {d : Nat} {X : List jv_S} (hd : 4 ≤ d) : ∀ (n : Nat) (a1 : Int32) (a2 : Int32) (a3 : Int32) (a4 : Int32) (a5 : Int32) (h : jv_H), jv_V l RX8 cX8_best 7 (some .int) d (SC ++ X) jv_ri 39 [(0, .ref 0), (1, .int a1), (2, .int a2), (3, .int a3), (4, .int a4), (5, .int a5)] [] h (f8_best_0_l39 n a1 a2 a3 a4 a5 h) := by
  intro n
  induction n with
  | zero => intro a1 a2 a3 a4 a5 h; exact v_none
  | succ n ih => intro a1 a2 a3 a4 a5 h; exact b8_best_0_b39 hd (f8_best_0_l39 n) ih a1 a2 a3 a4 a5 h
def f8_best_0 (a1 : Int32) (a2 : Int32) (h : jv_H) : Option (Int32 × jv_H) := (f2_hasTemper_1 a1 h).bind fun q1 => if q1.1 = 0 then some ((-1000000 : Int32), q1.2) else (f8_isWithin a2 (0 : Int32) (1 : Int32) q1.2).bind fun q2 => if q2.1 = 0 then some ((-1000000 : Int32), q2.2) else jv_let (0 : Int32) fun x3 => (f3_worthOfFetching_22 a1 (0 : Int32) q2.2).bind fun q4 => jv_let q4.1 fun x5 => jv_let (1 : Int32) fun x6 => f8_best_0_l39 jv_fuel a1 a2 x3 x5 x6 q4.2
set_option maxRecDepth 20000 in
theorem e8_best_0 {l : Launch} {d : Nat} {X : List jv_S} (hd : 4 ≤ d) (a1 : Int32) (a2 : Int32) (h : jv_H) : jv_E l yX8_best cX8_best 7 (some .int) d (SC ++ X) jv_ri [.ref 0, .int a1, .int a2] h (f8_best_0 a1 a2 h) := by
  refine e_of [(0, .ref 0), (1, .int a1), (2, .int a2)] rfl pn_X8 (fun _ => Nat.le_of_ble_eq_true rfl) (fun _ => rfl) ?_
  unfold f8_best_0
  refine v_aload_n 0 1 rfl dX8_best_0 rfl rfl ?_
  refine v_getr 4 rfl fl_X8_10 sc_0 rfl dX8_best_1 ?_
  refine v_iload_n 1 5 rfl dX8_best_4 rfl rfl ?_
  refine n_callv [.int a1] [] (fun r => .int r :: []) 8 rfl (by omega) (Nat.le_of_ble_eq_true rfl) cb_X2_hasTemper cv_X8_112 sc_1 cn_X2 rfl (Nat.le_of_ble_eq_true rfl) dX8_best_5 rfl (fun _ => rfl) (e2_hasTemper_1 (by omega) a1 h) (fun q1 => ?_)
  refine v_if_eq 20 11 rfl rfl dX8_best_8 (fun _ => ?_) (fun _ => ?_)
  · refine v_ldc 22 rfl mw_662 dX8_best_20 ?_
    exact v_iret rfl dX8_best_22
  · refine v_iload_n 2 12 rfl dX8_best_11 rfl rfl ?_
    refine v_iconst 13 rfl dX8_best_12 ic_0 ?_
    refine v_iconst 14 rfl dX8_best_13 ic_1 ?_
    refine n_calls [.int a2, .int (0 : Int32), .int (1 : Int32)] [] (fun r => .int r :: []) 17 rfl (by omega) (Nat.le_of_ble_eq_true rfl) cb_X8_isWithin cs_X8_83 rfl (Nat.le_of_ble_eq_true rfl) dX8_best_14 rfl (fun _ => rfl) (e8_isWithin (by omega) a2 (0 : Int32) (1 : Int32) q1.2) (fun q2 => ?_)
    refine v_if_ne 23 20 rfl rfl dX8_best_17 (fun _ => ?_) (fun _ => ?_)
    · refine v_iconst 24 rfl dX8_best_23 ic_0 ?_
      refine n_istore_n (fun x3 => [(0, .ref 0), (1, .int a1), (2, .int a2), (3, .int x3)]) 25 rfl dX8_best_24 rfl (Nat.le_of_ble_eq_true rfl) rfl (fun _ => rfl) (fun x3 => ?_)
      refine v_aload_n 0 26 rfl dX8_best_25 rfl rfl ?_
      refine v_getr 29 rfl fl_X8_35 sc_0 rfl dX8_best_26 ?_
      refine v_iload_n 1 30 rfl dX8_best_29 rfl rfl ?_
      refine v_iconst 31 rfl dX8_best_30 ic_0 ?_
      refine n_callv [.int a1, .int (0 : Int32)] [] (fun r => .int r :: []) 34 rfl (by omega) (Nat.le_of_ble_eq_true rfl) cb_X3_worthOfFetching cv_X8_223 sc_22 cn_X3 rfl (Nat.le_of_ble_eq_true rfl) dX8_best_31 rfl (fun _ => rfl) (e3_worthOfFetching_22 (by omega) a1 (0 : Int32) q2.2) (fun q4 => ?_)
      refine n_istore (fun x5 => [(0, .ref 0), (1, .int a1), (2, .int a2), (3, .int x3), (4, .int x5)]) 36 rfl dX8_best_34 (Nat.le_of_ble_eq_true rfl) rfl (fun _ => rfl) (fun x5 => ?_)
      refine v_iconst 37 rfl dX8_best_36 ic_1 ?_
      refine n_istore (fun x6 => [(0, .ref 0), (1, .int a1), (2, .int a2), (3, .int x3), (4, .int x5), (5, .int x6)]) 39 rfl dX8_best_37 (Nat.le_of_ble_eq_true rfl) rfl (fun _ => rfl) (fun x6 => ?_)
      exact w8_best_0_l39 hd jv_fuel a1 a2 x3 x5 x6 q4.2
    · refine v_ldc 22 rfl mw_662 dX8_best_20 ?_
      exact v_iret rfl dX8_best_22
-- java/util/Arrays.fill([II)V at 29
def gj7_fill_53178_29_b5 (k5 : Int32 → Int32 → Int32 → jv_H → Option (Unit × jv_H)) (a1 : Int32) (a2 : Int32) (a3 : Int32) (h : jv_H) : Option (Unit × jv_H) := if a3 ≤ a2 then some ((), h) else if jv_ix a2 6 then jv_let (jv_p h 29 (Int32.toNatClampNeg a2) a1) fun h1 => jv_let (a2 + (1 : Int32)) fun x2 => k5 a1 x2 a3 h1 else none
set_option maxRecDepth 20000 in
theorem bj7_fill_53178_29_b5 {l : Launch} {d : Nat} {X : List jv_S} (hd : 0 ≤ d) (k5 : Int32 → Int32 → Int32 → jv_H → Option (Unit × jv_H)) (hk5 : ∀ (a1 a2 a3 : Int32) (h : jv_H), jv_V l RJ7 cJ7_fill_53178 4 none d (SC ++ X) jv_rv 5 [(0, .ref 29), (1, .int a1), (2, .int a2), (3, .int a3)] [] h (k5 a1 a2 a3 h)) : ∀ (a1 : Int32) (a2 : Int32) (a3 : Int32) (h : jv_H), jv_V l RJ7 cJ7_fill_53178 4 none d (SC ++ X) jv_rv 5 [(0, .ref 29), (1, .int a1), (2, .int a2), (3, .int a3)] [] h (gj7_fill_53178_29_b5 k5 a1 a2 a3 h) := by
  intro a1 a2 a3 h
  unfold gj7_fill_53178_29_b5
  refine v_iload_n 2 6 rfl dJ7_fill_53178_5 rfl rfl ?_
  refine v_iload_n 3 7 rfl dJ7_fill_53178_6 rfl rfl ?_
  refine v_icmp_ge 20 10 rfl rfl dJ7_fill_53178_7 (fun _ => ?_) (fun _ => ?_)
  · exact v_vret rfl dJ7_fill_53178_20
  · refine v_aload_n 0 11 rfl dJ7_fill_53178_10 rfl rfl ?_
    refine v_iload_n 2 12 rfl dJ7_fill_53178_11 rfl rfl ?_
    refine v_iload_n 1 13 rfl dJ7_fill_53178_12 rfl rfl ?_
    refine n_iast 14 rfl sc_29 dJ7_fill_53178_13 (fun h1 => ?_)
    refine n_iinc (fun x2 => [(0, .ref 29), (1, .int a1), (2, .int x2), (3, .int a3)]) 2 17 rfl dJ7_fill_53178_14 rfl ic_1 (Nat.le_of_ble_eq_true rfl) rfl (fun _ => rfl) (fun x2 => ?_)
    refine v_goto 5 rfl dJ7_fill_53178_17 ?_
    exact hk5 a1 x2 a3 h1
def fj7_fill_53178_29_l5 : Nat → Int32 → Int32 → Int32 → jv_H → Option (Unit × jv_H)
  | 0 => fun _ _ _ _ => none
  | n + 1 => fun a1 a2 a3 h => gj7_fill_53178_29_b5 (fj7_fill_53178_29_l5 n) a1 a2 a3 h
theorem wj7_fill_53178_29_l5 {l : Launch} {d : Nat} {X : List jv_S} (hd : 0 ≤ d) : ∀ (n : Nat) (a1 : Int32) (a2 : Int32) (a3 : Int32) (h : jv_H), jv_V l RJ7 cJ7_fill_53178 4 none d (SC ++ X) jv_rv 5 [(0, .ref 29), (1, .int a1), (2, .int a2), (3, .int a3)] [] h (fj7_fill_53178_29_l5 n a1 a2 a3 h) := by
  intro n
  induction n with
  | zero => intro a1 a2 a3 h; exact v_none
  | succ n ih => intro a1 a2 a3 h; exact bj7_fill_53178_29_b5 hd (fj7_fill_53178_29_l5 n) ih a1 a2 a3 h
def fj7_fill_53178_29 (a1 : Int32) (h : jv_H) : Option (Unit × jv_H) := jv_let (0 : Int32) fun x1 => jv_let (6 : Int32) fun x2 => fj7_fill_53178_29_l5 jv_fuel a1 x1 x2 h
set_option maxRecDepth 20000 in
theorem ej7_fill_53178_29 {l : Launch} {d : Nat} {X : List jv_S} (hd : 0 ≤ d) (a1 : Int32) (h : jv_H) : jv_E l yJ7_fill_53178 cJ7_fill_53178 4 none d (SC ++ X) jv_rv [.ref 29, .int a1] h (fj7_fill_53178_29 a1 h) := by
  refine e_of [(0, .ref 29), (1, .int a1)] rfl pn_J7 (fun _ => Nat.le_of_ble_eq_true rfl) (fun _ => rfl) ?_
  unfold fj7_fill_53178_29
  refine v_iconst 1 rfl dJ7_fill_53178_0 ic_0 ?_
  refine n_istore_n (fun x1 => [(0, .ref 29), (1, .int a1), (2, .int x1)]) 2 rfl dJ7_fill_53178_1 rfl (Nat.le_of_ble_eq_true rfl) rfl (fun _ => rfl) (fun x1 => ?_)
  refine v_aload_n 0 3 rfl dJ7_fill_53178_2 rfl rfl ?_
  refine v_alen (v := (6 : Int32)) 4 rfl sc_29 rfl dJ7_fill_53178_3 ?_
  refine n_istore_n (fun x2 => [(0, .ref 29), (1, .int a1), (2, .int x1), (3, .int x2)]) 5 rfl dJ7_fill_53178_4 rfl (Nat.le_of_ble_eq_true rfl) rfl (fun _ => rfl) (fun x2 => ?_)
  exact wj7_fill_53178_29_l5 hd jv_fuel a1 x1 x2 h
-- TemperNurses$BedMaker.mayShare(II)Z at 28
def f0_mayShare_28 (a1 : Int32) (a2 : Int32) (h : jv_H) : Option (Int32 × jv_H) := if jv_ix a1 6 then (f8_bit a2 h).bind fun q1 => if ((h.1 5 (Int32.toNatClampNeg a1)) &&& q1.1) = 0 then (f1_heat_20 a1 q1.2).bind fun q2 => (f1_heat_20 a2 q2.2).bind fun q3 => if (q3.2.1 28 2) < (q2.1 + q3.1) then some ((0 : Int32), q3.2) else some ((1 : Int32), q3.2) else some ((0 : Int32), q1.2) else none
set_option maxRecDepth 20000 in
theorem e0_mayShare_28 {l : Launch} {d : Nat} {X : List jv_S} (hd : 2 ≤ d) (a1 : Int32) (a2 : Int32) (h : jv_H) : jv_E l yX0_mayShare cX0_mayShare 3 (some .boolean) d (SC ++ X) jv_ri [.ref 28, .int a1, .int a2] h (f0_mayShare_28 a1 a2 h) := by
  refine e_of [(0, .ref 28), (1, .int a1), (2, .int a2)] rfl pn_X0 (fun _ => Nat.le_of_ble_eq_true rfl) (fun _ => rfl) ?_
  unfold f0_mayShare_28
  refine v_aload_n 0 1 rfl dX0_mayShare_0 rfl rfl ?_
  refine v_getr 4 rfl fl_X0_18 sc_28 rfl dX0_mayShare_1 ?_
  refine v_getr 7 rfl fl_X0_39 sc_22 rfl dX0_mayShare_4 ?_
  refine v_getr 10 rfl fl_X0_60 sc_1 rfl dX0_mayShare_7 ?_
  refine v_iload_n 1 11 rfl dX0_mayShare_10 rfl rfl ?_
  refine v_iald 12 rfl sc_5 dX0_mayShare_11 (fun _ => ?_)
  refine v_iload_n 2 13 rfl dX0_mayShare_12 rfl rfl ?_
  refine n_calln [.int a2] [.int (h.1 5 (Int32.toNatClampNeg a1))] (fun r => .int r :: [.int (h.1 5 (Int32.toNatClampNeg a1))]) 16 rfl (by omega) (Nat.le_of_ble_eq_true rfl) cb_X8_bit cn_X0_63 rfl (Nat.le_of_ble_eq_true rfl) dX0_mayShare_13 rfl (fun _ => rfl) (e8_bit (by omega) a2 h) (fun q1 => ?_)
  refine v_iand 17 rfl dX0_mayShare_16 ?_
  refine v_if_ne 54 20 rfl rfl dX0_mayShare_17 (fun _ => ?_) (fun _ => ?_)
  · refine v_iconst 55 rfl dX0_mayShare_54 ic_0 ?_
    exact v_zr0 dX0_mayShare_55
  · refine v_aload_n 0 21 rfl dX0_mayShare_20 rfl rfl ?_
    refine v_getr 24 rfl fl_X0_18 sc_28 rfl dX0_mayShare_21 ?_
    refine v_getr 27 rfl fl_X0_67 sc_22 rfl dX0_mayShare_24 ?_
    refine v_iload_n 1 28 rfl dX0_mayShare_27 rfl rfl ?_
    refine n_callv [.int a1] [] (fun r => .int r :: []) 31 rfl (by omega) (Nat.le_of_ble_eq_true rfl) cb_X1_heat cv_X0_71 sc_20 cn_X1 rfl (Nat.le_of_ble_eq_true rfl) dX0_mayShare_28 rfl (fun _ => rfl) (e1_heat_20 (by omega) a1 q1.2) (fun q2 => ?_)
    refine v_aload_n 0 32 rfl dX0_mayShare_31 rfl rfl ?_
    refine v_getr 35 rfl fl_X0_18 sc_28 rfl dX0_mayShare_32 ?_
    refine v_getr 38 rfl fl_X0_67 sc_22 rfl dX0_mayShare_35 ?_
    refine v_iload_n 2 39 rfl dX0_mayShare_38 rfl rfl ?_
    refine n_callv [.int a2] [.int q2.1] (fun r => .int r :: [.int q2.1]) 42 rfl (by omega) (Nat.le_of_ble_eq_true rfl) cb_X1_heat cv_X0_71 sc_20 cn_X1 rfl (Nat.le_of_ble_eq_true rfl) dX0_mayShare_39 rfl (fun _ => rfl) (e1_heat_20 (by omega) a2 q2.2) (fun q3 => ?_)
    refine v_iadd 43 rfl dX0_mayShare_42 ?_
    refine v_aload_n 0 44 rfl dX0_mayShare_43 rfl rfl ?_
    refine v_geti 47 rfl fl_X0_22 sc_28 rfl dX0_mayShare_44 ?_
    refine v_icmp_gt 54 50 rfl rfl dX0_mayShare_47 (fun _ => ?_) (fun _ => ?_)
    · refine v_iconst 55 rfl dX0_mayShare_54 ic_0 ?_
      exact v_zr0 dX0_mayShare_55
    · refine v_iconst 51 rfl dX0_mayShare_50 ic_1 ?_
      refine v_goto 55 rfl dX0_mayShare_51 ?_
      exact v_zr1 dX0_mayShare_55
-- TemperNurses$BedMaker.tryOthers(II)V at 28
def g0_tryOthers_28_b20 (self : Int32 → Int32 → jv_H → Option (Unit × jv_H)) (a2 : Int32) (h : jv_H) : Option (Unit × jv_H) := if a2 ≤ (h.1 28 4) then some ((), h) else jv_let (jv_p h 28 4 a2) fun h1 => if jv_cp (0 : Int32) (0 : Int32) (6 : Int32) 6 6 then jv_let (jv_y h1 29 30 (0 : Int32) (0 : Int32) (6 : Int32)) fun h2 => some ((), h2) else none
set_option maxRecDepth 20000 in
theorem b0_tryOthers_28_b20 {l : Launch} {d : Nat} {X : List jv_S} (hd : 3 ≤ d) (self : Int32 → Int32 → jv_H → Option (Unit × jv_H)) (hself : ∀ (a1 : Int32) (a2 : Int32) (h : jv_H), jv_E l yX0_tryOthers cX0_tryOthers 4 none (d - 1) (SC ++ X) jv_rv [.ref 28, .int a1, .int a2] h (self a1 a2 h)) : ∀ (a2 : Int32) (h : jv_H), jv_V l RX0 cX0_tryOthers 4 none d (SC ++ X) jv_rv 20 [(0, .ref 28), (2, .int a2)] [] h (g0_tryOthers_28_b20 self a2 h) := by
  intro a2 h
  unfold g0_tryOthers_28_b20
  refine v_iload_n 1 21 rfl dX0_tryOthers_20 rfl rfl ?_
  refine v_aload_n 0 22 rfl dX0_tryOthers_21 rfl rfl ?_
  refine v_geti 25 rfl fl_X0_26 sc_28 rfl dX0_tryOthers_22 ?_
  refine v_icmp_le 48 28 rfl rfl dX0_tryOthers_25 (fun _ => ?_) (fun _ => ?_)
  · exact v_vret rfl dX0_tryOthers_48
  · refine v_aload_n 0 29 rfl dX0_tryOthers_28 rfl rfl ?_
    refine v_iload_n 1 30 rfl dX0_tryOthers_29 rfl rfl ?_
    refine n_puti 33 rfl fl_X0_26 sc_28 rfl dX0_tryOthers_30 (fun h1 => ?_)
    refine v_aload_n 0 34 rfl dX0_tryOthers_33 rfl rfl ?_
    refine v_getr 37 rfl fl_X0_9 sc_28 rfl dX0_tryOthers_34 ?_
    refine v_iconst 38 rfl dX0_tryOthers_37 ic_0 ?_
    refine v_aload_n 0 39 rfl dX0_tryOthers_38 rfl rfl ?_
    refine v_getr 42 rfl fl_X0_15 sc_28 rfl dX0_tryOthers_39 ?_
    refine v_iconst 43 rfl dX0_tryOthers_42 ic_0 ?_
    refine v_bipush 45 rfl dX0_tryOthers_43 bp_6 ?_
    refine n_copy 48 rfl (by omega) (Nat.le_of_ble_eq_true rfl) sc_29 sc_30 mw_682 mw_476 mw_475 mw_64 dX0_tryOthers_45 (fun h2 => ?_)
    exact v_vret rfl dX0_tryOthers_48
def g0_tryOthers_28_b150 (self : Int32 → Int32 → jv_H → Option (Unit × jv_H)) (k73 : Int32 → Int32 → Int32 → jv_H → Option (Unit × jv_H)) (a1 : Int32) (a2 : Int32) (a3 : Int32) (h : jv_H) : Option (Unit × jv_H) := jv_let (a3 + (1 : Int32)) fun x1 => k73 a1 a2 x1 h
set_option maxRecDepth 20000 in
theorem b0_tryOthers_28_b150 {l : Launch} {d : Nat} {X : List jv_S} (hd : 3 ≤ d) (self : Int32 → Int32 → jv_H → Option (Unit × jv_H)) (hself : ∀ (a1 : Int32) (a2 : Int32) (h : jv_H), jv_E l yX0_tryOthers cX0_tryOthers 4 none (d - 1) (SC ++ X) jv_rv [.ref 28, .int a1, .int a2] h (self a1 a2 h)) (k73 : Int32 → Int32 → Int32 → jv_H → Option (Unit × jv_H)) (hk73 : ∀ (a1 a2 a3 : Int32) (h : jv_H), jv_V l RX0 cX0_tryOthers 4 none d (SC ++ X) jv_rv 73 [(0, .ref 28), (1, .int a1), (2, .int a2), (3, .int a3)] [] h (k73 a1 a2 a3 h)) : ∀ (a1 : Int32) (a2 : Int32) (a3 : Int32) (h : jv_H), jv_V l RX0 cX0_tryOthers 4 none d (SC ++ X) jv_rv 150 [(0, .ref 28), (1, .int a1), (2, .int a2), (3, .int a3)] [] h (g0_tryOthers_28_b150 self k73 a1 a2 a3 h) := by
  intro a1 a2 a3 h
  unfold g0_tryOthers_28_b150
  refine n_iinc (fun x1 => [(0, .ref 28), (1, .int a1), (2, .int a2), (3, .int x1)]) 3 153 rfl dX0_tryOthers_150 rfl ic_1 (Nat.le_of_ble_eq_true rfl) rfl (fun _ => rfl) (fun x1 => ?_)
  refine v_goto 73 rfl dX0_tryOthers_153 ?_
  exact hk73 a1 a2 x1 h
def g0_tryOthers_28_b73 (self : Int32 → Int32 → jv_H → Option (Unit × jv_H)) (k73 : Int32 → Int32 → Int32 → jv_H → Option (Unit × jv_H)) (a1 : Int32) (a2 : Int32) (a3 : Int32) (h : jv_H) : Option (Unit × jv_H) := if (h.1 1 0) ≤ a3 then (self (a1 + (1 : Int32)) a2 h).bind fun q1 => some ((), q1.2) else if jv_ix a3 6 then if (h.1 29 (Int32.toNatClampNeg a3)) = (-9 : Int32) then (f0_mayShare_28 a1 a3 h).bind fun q2 => if q2.1 = 0 then g0_tryOthers_28_b150 self k73 a1 a2 a3 q2.2 else if jv_ix a1 6 then jv_let (jv_p q2.2 29 (Int32.toNatClampNeg a1) a3) fun h3 => if jv_ix a3 6 then jv_let (jv_p h3 29 (Int32.toNatClampNeg a3) a1) fun h4 => (self (a1 + (1 : Int32)) (a2 + (1 : Int32)) h4).bind fun q5 => if jv_ix a1 6 then jv_let (jv_p q5.2 29 (Int32.toNatClampNeg a1) (-9 : Int32)) fun h6 => if jv_ix a3 6 then jv_let (jv_p h6 29 (Int32.toNatClampNeg a3) (-9 : Int32)) fun h7 => g0_tryOthers_28_b150 self k73 a1 a2 a3 h7 else none else none else none else none else g0_tryOthers_28_b150 self k73 a1 a2 a3 h else none
set_option maxRecDepth 20000 in
theorem b0_tryOthers_28_b73 {l : Launch} {d : Nat} {X : List jv_S} (hd : 3 ≤ d) (self : Int32 → Int32 → jv_H → Option (Unit × jv_H)) (hself : ∀ (a1 : Int32) (a2 : Int32) (h : jv_H), jv_E l yX0_tryOthers cX0_tryOthers 4 none (d - 1) (SC ++ X) jv_rv [.ref 28, .int a1, .int a2] h (self a1 a2 h)) (k73 : Int32 → Int32 → Int32 → jv_H → Option (Unit × jv_H)) (hk73 : ∀ (a1 a2 a3 : Int32) (h : jv_H), jv_V l RX0 cX0_tryOthers 4 none d (SC ++ X) jv_rv 73 [(0, .ref 28), (1, .int a1), (2, .int a2), (3, .int a3)] [] h (k73 a1 a2 a3 h)) : ∀ (a1 : Int32) (a2 : Int32) (a3 : Int32) (h : jv_H), jv_V l RX0 cX0_tryOthers 4 none d (SC ++ X) jv_rv 73 [(0, .ref 28), (1, .int a1), (2, .int a2), (3, .int a3)] [] h (g0_tryOthers_28_b73 self k73 a1 a2 a3 h) := by
  intro a1 a2 a3 h
  unfold g0_tryOthers_28_b73
  refine v_iload_n 3 74 rfl dX0_tryOthers_73 rfl rfl ?_
  refine v_aload_n 0 75 rfl dX0_tryOthers_74 rfl rfl ?_
  refine v_getr 78 rfl fl_X0_18 sc_28 rfl dX0_tryOthers_75 ?_
  refine v_getr 81 rfl fl_X0_39 sc_22 rfl dX0_tryOthers_78 ?_
  refine v_geti 84 rfl fl_X0_45 sc_1 rfl dX0_tryOthers_81 ?_
  refine v_icmp_ge 156 87 rfl rfl dX0_tryOthers_84 (fun _ => ?_) (fun _ => ?_)
  · refine v_aload_n 0 157 rfl dX0_tryOthers_156 rfl rfl ?_
    refine v_iload_n 1 158 rfl dX0_tryOthers_157 rfl rfl ?_
    refine v_iconst 159 rfl dX0_tryOthers_158 ic_1 ?_
    refine v_iadd 160 rfl dX0_tryOthers_159 ?_
    refine v_iload_n 2 161 rfl dX0_tryOthers_160 rfl rfl ?_
    refine n_callv [.int (a1 + (1 : Int32)), .int a2] [] (fun _ => []) 164 rfl (by omega) (Nat.le_of_ble_eq_true rfl) cb_X0_tryOthers cv_X0_35 sc_28 cn_X0 rfl (Nat.le_of_ble_eq_true rfl) dX0_tryOthers_161 rfl (fun _ => rfl) (hself (a1 + (1 : Int32)) a2 h) (fun q1 => ?_)
    exact v_vret rfl dX0_tryOthers_164
  · refine v_aload_n 0 88 rfl dX0_tryOthers_87 rfl rfl ?_
    refine v_getr 91 rfl fl_X0_9 sc_28 rfl dX0_tryOthers_88 ?_
    refine v_iload_n 3 92 rfl dX0_tryOthers_91 rfl rfl ?_
    refine v_iald 93 rfl sc_29 dX0_tryOthers_92 (fun _ => ?_)
    refine v_bipush 95 rfl dX0_tryOthers_93 bp_m9 ?_
    refine v_icmp_ne 150 98 rfl rfl dX0_tryOthers_95 (fun _ => ?_) (fun _ => ?_)
    · exact b0_tryOthers_28_b150 hd self hself k73 hk73 a1 a2 a3 h
    · refine v_aload_n 0 99 rfl dX0_tryOthers_98 rfl rfl ?_
      refine v_iload_n 1 100 rfl dX0_tryOthers_99 rfl rfl ?_
      refine v_iload_n 3 101 rfl dX0_tryOthers_100 rfl rfl ?_
      refine n_callv [.int a1, .int a3] [] (fun r => .int r :: []) 104 rfl (by omega) (Nat.le_of_ble_eq_true rfl) cb_X0_mayShare cv_X0_56 sc_28 cn_X0 rfl (Nat.le_of_ble_eq_true rfl) dX0_tryOthers_101 rfl (fun _ => rfl) (e0_mayShare_28 (by omega) a1 a3 h) (fun q2 => ?_)
      refine v_if_ne 110 107 rfl rfl dX0_tryOthers_104 (fun _ => ?_) (fun _ => ?_)
      · refine v_aload_n 0 111 rfl dX0_tryOthers_110 rfl rfl ?_
        refine v_getr 114 rfl fl_X0_9 sc_28 rfl dX0_tryOthers_111 ?_
        refine v_iload_n 1 115 rfl dX0_tryOthers_114 rfl rfl ?_
        refine v_iload_n 3 116 rfl dX0_tryOthers_115 rfl rfl ?_
        refine n_iast 117 rfl sc_29 dX0_tryOthers_116 (fun h3 => ?_)
        refine v_aload_n 0 118 rfl dX0_tryOthers_117 rfl rfl ?_
        refine v_getr 121 rfl fl_X0_9 sc_28 rfl dX0_tryOthers_118 ?_
        refine v_iload_n 3 122 rfl dX0_tryOthers_121 rfl rfl ?_
        refine v_iload_n 1 123 rfl dX0_tryOthers_122 rfl rfl ?_
        refine n_iast 124 rfl sc_29 dX0_tryOthers_123 (fun h4 => ?_)
        refine v_aload_n 0 125 rfl dX0_tryOthers_124 rfl rfl ?_
        refine v_iload_n 1 126 rfl dX0_tryOthers_125 rfl rfl ?_
        refine v_iconst 127 rfl dX0_tryOthers_126 ic_1 ?_
        refine v_iadd 128 rfl dX0_tryOthers_127 ?_
        refine v_iload_n 2 129 rfl dX0_tryOthers_128 rfl rfl ?_
        refine v_iconst 130 rfl dX0_tryOthers_129 ic_1 ?_
        refine v_iadd 131 rfl dX0_tryOthers_130 ?_
        refine n_callv [.int (a1 + (1 : Int32)), .int (a2 + (1 : Int32))] [] (fun _ => []) 134 rfl (by omega) (Nat.le_of_ble_eq_true rfl) cb_X0_tryOthers cv_X0_35 sc_28 cn_X0 rfl (Nat.le_of_ble_eq_true rfl) dX0_tryOthers_131 rfl (fun _ => rfl) (hself (a1 + (1 : Int32)) (a2 + (1 : Int32)) h4) (fun q5 => ?_)
        refine v_aload_n 0 135 rfl dX0_tryOthers_134 rfl rfl ?_
        refine v_getr 138 rfl fl_X0_9 sc_28 rfl dX0_tryOthers_135 ?_
        refine v_iload_n 1 139 rfl dX0_tryOthers_138 rfl rfl ?_
        refine v_bipush 141 rfl dX0_tryOthers_139 bp_m9 ?_
        refine n_iast 142 rfl sc_29 dX0_tryOthers_141 (fun h6 => ?_)
        refine v_aload_n 0 143 rfl dX0_tryOthers_142 rfl rfl ?_
        refine v_getr 146 rfl fl_X0_9 sc_28 rfl dX0_tryOthers_143 ?_
        refine v_iload_n 3 147 rfl dX0_tryOthers_146 rfl rfl ?_
        refine v_bipush 149 rfl dX0_tryOthers_147 bp_m9 ?_
        refine n_iast 150 rfl sc_29 dX0_tryOthers_149 (fun h7 => ?_)
        exact b0_tryOthers_28_b150 hd self hself k73 hk73 a1 a2 a3 h7
      · refine v_goto 150 rfl dX0_tryOthers_107 ?_
        exact b0_tryOthers_28_b150 hd self hself k73 hk73 a1 a2 a3 q2.2
def f0_tryOthers_28_l73 (self : Int32 → Int32 → jv_H → Option (Unit × jv_H)) : Nat → Int32 → Int32 → Int32 → jv_H → Option (Unit × jv_H)
  | 0 => fun _ _ _ _ => none
  | n + 1 => fun a1 a2 a3 h => g0_tryOthers_28_b73 self (f0_tryOthers_28_l73 self n) a1 a2 a3 h
theorem w0_tryOthers_28_l73 {l : Launch} {d : Nat} {X : List jv_S} (hd : 3 ≤ d) (self : Int32 → Int32 → jv_H → Option (Unit × jv_H)) (hself : ∀ (a1 : Int32) (a2 : Int32) (h : jv_H), jv_E l yX0_tryOthers cX0_tryOthers 4 none (d - 1) (SC ++ X) jv_rv [.ref 28, .int a1, .int a2] h (self a1 a2 h)) : ∀ (n : Nat) (a1 : Int32) (a2 : Int32) (a3 : Int32) (h : jv_H), jv_V l RX0 cX0_tryOthers 4 none d (SC ++ X) jv_rv 73 [(0, .ref 28), (1, .int a1), (2, .int a2), (3, .int a3)] [] h (f0_tryOthers_28_l73 self n a1 a2 a3 h) := by
  intro n
  induction n with
  | zero => intro a1 a2 a3 h; exact v_none
  | succ n ih => intro a1 a2 a3 h; exact b0_tryOthers_28_b73 hd self hself (f0_tryOthers_28_l73 self n) ih a1 a2 a3 h
def g0_tryOthers_28 (self : Int32 → Int32 → jv_H → Option (Unit × jv_H)) (a1 : Int32) (a2 : Int32) (h : jv_H) : Option (Unit × jv_H) := if (h.1 1 0) ≤ a1 then g0_tryOthers_28_b20 self a2 h else if a1 < (6 : Int32) then if jv_ix a1 6 then if (h.1 29 (Int32.toNatClampNeg a1)) = (-9 : Int32) then jv_let (a1 + (1 : Int32)) fun x1 => f0_tryOthers_28_l73 self jv_fuel a1 a2 x1 h else (self (a1 + (1 : Int32)) a2 h).bind fun q2 => some ((), q2.2) else none else g0_tryOthers_28_b20 self a2 h
set_option maxRecDepth 20000 in
theorem b0_tryOthers_28 {l : Launch} {d : Nat} {X : List jv_S} (hd : 3 ≤ d) (self : Int32 → Int32 → jv_H → Option (Unit × jv_H)) (hself : ∀ (a1 : Int32) (a2 : Int32) (h : jv_H), jv_E l yX0_tryOthers cX0_tryOthers 4 none (d - 1) (SC ++ X) jv_rv [.ref 28, .int a1, .int a2] h (self a1 a2 h)) (a1 : Int32) (a2 : Int32) (h : jv_H) : jv_E l yX0_tryOthers cX0_tryOthers 4 none d (SC ++ X) jv_rv [.ref 28, .int a1, .int a2] h (g0_tryOthers_28 self a1 a2 h) := by
  refine e_of [(0, .ref 28), (1, .int a1), (2, .int a2)] rfl pn_X0 (fun _ => Nat.le_of_ble_eq_true rfl) (fun _ => rfl) ?_
  unfold g0_tryOthers_28
  refine v_iload_n 1 1 rfl dX0_tryOthers_0 rfl rfl ?_
  refine v_aload_n 0 2 rfl dX0_tryOthers_1 rfl rfl ?_
  refine v_getr 5 rfl fl_X0_18 sc_28 rfl dX0_tryOthers_2 ?_
  refine v_getr 8 rfl fl_X0_39 sc_22 rfl dX0_tryOthers_5 ?_
  refine v_geti 11 rfl fl_X0_45 sc_1 rfl dX0_tryOthers_8 ?_
  refine v_icmp_ge 20 14 rfl rfl dX0_tryOthers_11 (fun _ => ?_) (fun _ => ?_)
  · refine v_sub [0, 2] rfl ?_
    exact b0_tryOthers_28_b20 hd self hself a2 h
  · refine v_iload_n 1 15 rfl dX0_tryOthers_14 rfl rfl ?_
    refine v_bipush 17 rfl dX0_tryOthers_15 bp_6 ?_
    refine v_icmp_lt 49 20 rfl rfl dX0_tryOthers_17 (fun _ => ?_) (fun _ => ?_)
    · refine v_aload_n 0 50 rfl dX0_tryOthers_49 rfl rfl ?_
      refine v_getr 53 rfl fl_X0_9 sc_28 rfl dX0_tryOthers_50 ?_
      refine v_iload_n 1 54 rfl dX0_tryOthers_53 rfl rfl ?_
      refine v_iald 55 rfl sc_29 dX0_tryOthers_54 (fun _ => ?_)
      refine v_bipush 57 rfl dX0_tryOthers_55 bp_m9 ?_
      refine v_icmp_eq 69 60 rfl rfl dX0_tryOthers_57 (fun _ => ?_) (fun _ => ?_)
      · refine v_iload_n 1 70 rfl dX0_tryOthers_69 rfl rfl ?_
        refine v_iconst 71 rfl dX0_tryOthers_70 ic_1 ?_
        refine v_iadd 72 rfl dX0_tryOthers_71 ?_
        refine n_istore_n (fun x1 => [(0, .ref 28), (1, .int a1), (2, .int a2), (3, .int x1)]) 73 rfl dX0_tryOthers_72 rfl (Nat.le_of_ble_eq_true rfl) rfl (fun _ => rfl) (fun x1 => ?_)
        exact w0_tryOthers_28_l73 hd self hself jv_fuel a1 a2 x1 h
      · refine v_aload_n 0 61 rfl dX0_tryOthers_60 rfl rfl ?_
        refine v_iload_n 1 62 rfl dX0_tryOthers_61 rfl rfl ?_
        refine v_iconst 63 rfl dX0_tryOthers_62 ic_1 ?_
        refine v_iadd 64 rfl dX0_tryOthers_63 ?_
        refine v_iload_n 2 65 rfl dX0_tryOthers_64 rfl rfl ?_
        refine n_callv [.int (a1 + (1 : Int32)), .int a2] [] (fun _ => []) 68 rfl (by omega) (Nat.le_of_ble_eq_true rfl) cb_X0_tryOthers cv_X0_35 sc_28 cn_X0 rfl (Nat.le_of_ble_eq_true rfl) dX0_tryOthers_65 rfl (fun _ => rfl) (hself (a1 + (1 : Int32)) a2 h) (fun q2 => ?_)
        exact v_vret rfl dX0_tryOthers_68
    · refine v_sub [0, 2] rfl ?_
      exact b0_tryOthers_28_b20 hd self hself a2 h
def f0_tryOthers_28 : Nat → Int32 → Int32 → jv_H → Option (Unit × jv_H)
  | 0 => fun _ _ _ => none
  | n + 1 => fun a1 a2 h => g0_tryOthers_28 (f0_tryOthers_28 n) a1 a2 h
theorem e0_tryOthers_28 {l : Launch} {X : List jv_S} : ∀ (n : Nat) {d : Nat} (hd : 3 + n ≤ d) (a1 : Int32) (a2 : Int32) (h : jv_H), jv_E l yX0_tryOthers cX0_tryOthers 4 none d (SC ++ X) jv_rv [.ref 28, .int a1, .int a2] h (f0_tryOthers_28 n a1 a2 h) := by
  intro n
  induction n with
  | zero => intro d hd a1 a2 h res ho; cases ho
  | succ n ih => intro d hd a1 a2 h; exact b0_tryOthers_28 (by omega) (f0_tryOthers_28 n) (fun a1 a2 h => ih (by omega) a1 a2 h) a1 a2 h
-- TemperNurses$BedMaker.makeBeds(I)V at 28
def f0_makeBeds_28 (a1 : Int32) (h : jv_H) : Option (Unit × jv_H) := jv_let (jv_p h 28 2 a1) fun h1 => jv_let (jv_p h1 28 4 (-1 : Int32)) fun h2 => (fj7_fill_53178_29 (-9 : Int32) h2).bind fun q3 => (f0_tryOthers_28 jv_deep (0 : Int32) (0 : Int32) q3.2).bind fun q4 => some ((), q4.2)
set_option maxRecDepth 20000 in
theorem e0_makeBeds_28 {l : Launch} {d : Nat} {X : List jv_S} (hd : 44 ≤ d) (a1 : Int32) (h : jv_H) : jv_E l yX0_makeBeds cX0_makeBeds 2 none d (SC ++ X) jv_rv [.ref 28, .int a1] h (f0_makeBeds_28 a1 h) := by
  refine e_of [(0, .ref 28), (1, .int a1)] rfl pn_X0 (fun _ => Nat.le_of_ble_eq_true rfl) (fun _ => rfl) ?_
  unfold f0_makeBeds_28
  refine v_aload_n 0 1 rfl dX0_makeBeds_0 rfl rfl ?_
  refine v_iload_n 1 2 rfl dX0_makeBeds_1 rfl rfl ?_
  refine n_puti 5 rfl fl_X0_22 sc_28 rfl dX0_makeBeds_2 (fun h1 => ?_)
  refine v_aload_n 0 6 rfl dX0_makeBeds_5 rfl rfl ?_
  refine v_iconst 7 rfl dX0_makeBeds_6 ic_m1 ?_
  refine n_puti 10 rfl fl_X0_26 sc_28 rfl dX0_makeBeds_7 (fun h2 => ?_)
  refine v_aload_n 0 11 rfl dX0_makeBeds_10 rfl rfl ?_
  refine v_getr 14 rfl fl_X0_9 sc_28 rfl dX0_makeBeds_11 ?_
  refine v_bipush 16 rfl dX0_makeBeds_14 bp_m9 ?_
  refine n_calls [.ref 29, .int (-9 : Int32)] [] (fun _ => []) 19 rfl (by omega) (Nat.le_of_ble_eq_true rfl) cb_J7_fill_53178 cs_X0_29 rfl (Nat.le_of_ble_eq_true rfl) dX0_makeBeds_16 rfl (fun _ => rfl) (ej7_fill_53178_29 (by omega) (-9 : Int32) h2) (fun q3 => ?_)
  refine v_aload_n 0 20 rfl dX0_makeBeds_19 rfl rfl ?_
  refine v_iconst 21 rfl dX0_makeBeds_20 ic_0 ?_
  refine v_iconst 22 rfl dX0_makeBeds_21 ic_0 ?_
  refine n_callv [.int (0 : Int32), .int (0 : Int32)] [] (fun _ => []) 25 rfl (by omega) (Nat.le_of_ble_eq_true rfl) cb_X0_tryOthers cv_X0_35 sc_28 cn_X0 rfl (Nat.le_of_ble_eq_true rfl) dX0_makeBeds_22 rfl (fun _ => rfl) (e0_tryOthers_28 jv_deep (by simp only [jv_deep]; omega) (0 : Int32) (0 : Int32) q3.2) (fun q4 => ?_)
  exact v_vret rfl dX0_makeBeds_25
-- TemperNurses.beds(II)I at 0
def g8_beds_0_b31 (a1 : Int32) (a2 : Int32) (h : jv_H) : Option (Int32 × jv_H) := (f0_makeBeds_28 a1 h).bind fun q1 => if a2 = (-1 : Int32) then some ((q1.2.1 28 4), q1.2) else if jv_ix a2 6 then some ((q1.2.1 30 (Int32.toNatClampNeg a2)), q1.2) else none
set_option maxRecDepth 20000 in
theorem b8_beds_0_b31 {l : Launch} {d : Nat} {X : List jv_S} (hd : 45 ≤ d) : ∀ (a1 : Int32) (a2 : Int32) (h : jv_H), jv_V l RX8 cX8_beds 3 (some .int) d (SC ++ X) jv_ri 31 [(0, .ref 0), (1, .int a1), (2, .int a2)] [] h (g8_beds_0_b31 a1 a2 h) := by
  intro a1 a2 h
  unfold g8_beds_0_b31
  refine v_aload_n 0 32 rfl dX8_beds_31 rfl rfl ?_
  refine v_getr 35 rfl fl_X8_51 sc_0 rfl dX8_beds_32 ?_
  refine v_iload_n 1 36 rfl dX8_beds_35 rfl rfl ?_
  refine n_callv [.int a1] [] (fun _ => []) 39 rfl (by omega) (Nat.le_of_ble_eq_true rfl) cb_X0_makeBeds cv_X8_226 sc_28 cn_X0 rfl (Nat.le_of_ble_eq_true rfl) dX8_beds_36 rfl (fun _ => rfl) (e0_makeBeds_28 (by omega) a1 h) (fun q1 => ?_)
  refine v_iload_n 2 40 rfl dX8_beds_39 rfl rfl ?_
  refine v_iconst 41 rfl dX8_beds_40 ic_m1 ?_
  refine v_icmp_ne 54 44 rfl rfl dX8_beds_41 (fun _ => ?_) (fun _ => ?_)
  · refine v_aload_n 0 55 rfl dX8_beds_54 rfl rfl ?_
    refine v_getr 58 rfl fl_X8_51 sc_0 rfl dX8_beds_55 ?_
    refine v_getr 61 rfl fl_X8_230 sc_28 rfl dX8_beds_58 ?_
    refine v_iload_n 2 62 rfl dX8_beds_61 rfl rfl ?_
    refine v_iald 63 rfl sc_30 dX8_beds_62 (fun _ => ?_)
    exact v_iret rfl dX8_beds_63
  · refine v_aload_n 0 45 rfl dX8_beds_44 rfl rfl ?_
    refine v_getr 48 rfl fl_X8_51 sc_0 rfl dX8_beds_45 ?_
    refine v_geti 51 rfl fl_X8_229 sc_28 rfl dX8_beds_48 ?_
    refine v_goto 63 rfl dX8_beds_51 ?_
    exact v_iret rfl dX8_beds_63
def f8_beds_0 (a1 : Int32) (a2 : Int32) (h : jv_H) : Option (Int32 × jv_H) := (f8_isWithin a1 (0 : Int32) (198 : Int32) h).bind fun q1 => if q1.1 = 0 then some ((-1 : Int32), q1.2) else if a2 = (-1 : Int32) then g8_beds_0_b31 a1 a2 q1.2 else (f2_hasTemper_1 a2 q1.2).bind fun q2 => if q2.1 = 0 then some ((-1 : Int32), q2.2) else g8_beds_0_b31 a1 a2 q2.2
set_option maxRecDepth 20000 in
theorem e8_beds_0 {l : Launch} {d : Nat} {X : List jv_S} (hd : 45 ≤ d) (a1 : Int32) (a2 : Int32) (h : jv_H) : jv_E l yX8_beds cX8_beds 3 (some .int) d (SC ++ X) jv_ri [.ref 0, .int a1, .int a2] h (f8_beds_0 a1 a2 h) := by
  refine e_of [(0, .ref 0), (1, .int a1), (2, .int a2)] rfl pn_X8 (fun _ => Nat.le_of_ble_eq_true rfl) (fun _ => rfl) ?_
  unfold f8_beds_0
  refine v_iload_n 1 1 rfl dX8_beds_0 rfl rfl ?_
  refine v_iconst 2 rfl dX8_beds_1 ic_0 ?_
  refine v_sipush 5 rfl dX8_beds_2 sp_198 ?_
  refine n_calls [.int a1, .int (0 : Int32), .int (198 : Int32)] [] (fun r => .int r :: []) 8 rfl (by omega) (Nat.le_of_ble_eq_true rfl) cb_X8_isWithin cs_X8_83 rfl (Nat.le_of_ble_eq_true rfl) dX8_beds_5 rfl (fun _ => rfl) (e8_isWithin (by omega) a1 (0 : Int32) (198 : Int32) h) (fun q1 => ?_)
  refine v_if_ne 13 11 rfl rfl dX8_beds_8 (fun _ => ?_) (fun _ => ?_)
  · refine v_iload_n 2 14 rfl dX8_beds_13 rfl rfl ?_
    refine v_iconst 15 rfl dX8_beds_14 ic_m1 ?_
    refine v_icmp_eq 31 18 rfl rfl dX8_beds_15 (fun _ => ?_) (fun _ => ?_)
    · exact b8_beds_0_b31 hd a1 a2 q1.2
    · refine v_aload_n 0 19 rfl dX8_beds_18 rfl rfl ?_
      refine v_getr 22 rfl fl_X8_10 sc_0 rfl dX8_beds_19 ?_
      refine v_iload_n 2 23 rfl dX8_beds_22 rfl rfl ?_
      refine n_callv [.int a2] [] (fun r => .int r :: []) 26 rfl (by omega) (Nat.le_of_ble_eq_true rfl) cb_X2_hasTemper cv_X8_112 sc_1 cn_X2 rfl (Nat.le_of_ble_eq_true rfl) dX8_beds_23 rfl (fun _ => rfl) (e2_hasTemper_1 (by omega) a2 q1.2) (fun q2 => ?_)
      refine v_if_ne 31 29 rfl rfl dX8_beds_26 (fun _ => ?_) (fun _ => ?_)
      · exact b8_beds_0_b31 hd a1 a2 q2.2
      · refine v_iconst 30 rfl dX8_beds_29 ic_m1 ?_
        exact v_iret rfl dX8_beds_30
  · refine v_iconst 12 rfl dX8_beds_11 ic_m1 ?_
    exact v_iret rfl dX8_beds_12
-- java/util/Arrays.fill([II)V at 39
def gj7_fill_53178_39_b5 (k5 : Int32 → Int32 → Int32 → jv_H → Option (Unit × jv_H)) (a1 : Int32) (a2 : Int32) (a3 : Int32) (h : jv_H) : Option (Unit × jv_H) := if a3 ≤ a2 then some ((), h) else if jv_ix a2 7 then jv_let (jv_p h 39 (Int32.toNatClampNeg a2) a1) fun h1 => jv_let (a2 + (1 : Int32)) fun x2 => k5 a1 x2 a3 h1 else none
set_option maxRecDepth 20000 in
theorem bj7_fill_53178_39_b5 {l : Launch} {d : Nat} {X : List jv_S} (hd : 0 ≤ d) (k5 : Int32 → Int32 → Int32 → jv_H → Option (Unit × jv_H)) (hk5 : ∀ (a1 a2 a3 : Int32) (h : jv_H), jv_V l RJ7 cJ7_fill_53178 4 none d (SC ++ X) jv_rv 5 [(0, .ref 39), (1, .int a1), (2, .int a2), (3, .int a3)] [] h (k5 a1 a2 a3 h)) : ∀ (a1 : Int32) (a2 : Int32) (a3 : Int32) (h : jv_H), jv_V l RJ7 cJ7_fill_53178 4 none d (SC ++ X) jv_rv 5 [(0, .ref 39), (1, .int a1), (2, .int a2), (3, .int a3)] [] h (gj7_fill_53178_39_b5 k5 a1 a2 a3 h) := by
  intro a1 a2 a3 h
  unfold gj7_fill_53178_39_b5
  refine v_iload_n 2 6 rfl dJ7_fill_53178_5 rfl rfl ?_
  refine v_iload_n 3 7 rfl dJ7_fill_53178_6 rfl rfl ?_
  refine v_icmp_ge 20 10 rfl rfl dJ7_fill_53178_7 (fun _ => ?_) (fun _ => ?_)
  · exact v_vret rfl dJ7_fill_53178_20
  · refine v_aload_n 0 11 rfl dJ7_fill_53178_10 rfl rfl ?_
    refine v_iload_n 2 12 rfl dJ7_fill_53178_11 rfl rfl ?_
    refine v_iload_n 1 13 rfl dJ7_fill_53178_12 rfl rfl ?_
    refine n_iast 14 rfl sc_39 dJ7_fill_53178_13 (fun h1 => ?_)
    refine n_iinc (fun x2 => [(0, .ref 39), (1, .int a1), (2, .int x2), (3, .int a3)]) 2 17 rfl dJ7_fill_53178_14 rfl ic_1 (Nat.le_of_ble_eq_true rfl) rfl (fun _ => rfl) (fun x2 => ?_)
    refine v_goto 5 rfl dJ7_fill_53178_17 ?_
    exact hk5 a1 x2 a3 h1
def fj7_fill_53178_39_l5 : Nat → Int32 → Int32 → Int32 → jv_H → Option (Unit × jv_H)
  | 0 => fun _ _ _ _ => none
  | n + 1 => fun a1 a2 a3 h => gj7_fill_53178_39_b5 (fj7_fill_53178_39_l5 n) a1 a2 a3 h
theorem wj7_fill_53178_39_l5 {l : Launch} {d : Nat} {X : List jv_S} (hd : 0 ≤ d) : ∀ (n : Nat) (a1 : Int32) (a2 : Int32) (a3 : Int32) (h : jv_H), jv_V l RJ7 cJ7_fill_53178 4 none d (SC ++ X) jv_rv 5 [(0, .ref 39), (1, .int a1), (2, .int a2), (3, .int a3)] [] h (fj7_fill_53178_39_l5 n a1 a2 a3 h) := by
  intro n
  induction n with
  | zero => intro a1 a2 a3 h; exact v_none
  | succ n ih => intro a1 a2 a3 h; exact bj7_fill_53178_39_b5 hd (fj7_fill_53178_39_l5 n) ih a1 a2 a3 h
def fj7_fill_53178_39 (a1 : Int32) (h : jv_H) : Option (Unit × jv_H) := jv_let (0 : Int32) fun x1 => jv_let (7 : Int32) fun x2 => fj7_fill_53178_39_l5 jv_fuel a1 x1 x2 h
set_option maxRecDepth 20000 in
theorem ej7_fill_53178_39 {l : Launch} {d : Nat} {X : List jv_S} (hd : 0 ≤ d) (a1 : Int32) (h : jv_H) : jv_E l yJ7_fill_53178 cJ7_fill_53178 4 none d (SC ++ X) jv_rv [.ref 39, .int a1] h (fj7_fill_53178_39 a1 h) := by
  refine e_of [(0, .ref 39), (1, .int a1)] rfl pn_J7 (fun _ => Nat.le_of_ble_eq_true rfl) (fun _ => rfl) ?_
  unfold fj7_fill_53178_39
  refine v_iconst 1 rfl dJ7_fill_53178_0 ic_0 ?_
  refine n_istore_n (fun x1 => [(0, .ref 39), (1, .int a1), (2, .int x1)]) 2 rfl dJ7_fill_53178_1 rfl (Nat.le_of_ble_eq_true rfl) rfl (fun _ => rfl) (fun x1 => ?_)
  refine v_aload_n 0 3 rfl dJ7_fill_53178_2 rfl rfl ?_
  refine v_alen (v := (7 : Int32)) 4 rfl sc_39 rfl dJ7_fill_53178_3 ?_
  refine n_istore_n (fun x2 => [(0, .ref 39), (1, .int a1), (2, .int x1), (3, .int x2)]) 5 rfl dJ7_fill_53178_4 rfl (Nat.le_of_ble_eq_true rfl) rfl (fun _ => rfl) (fun x2 => ?_)
  exact wj7_fill_53178_39_l5 hd jv_fuel a1 x1 x2 h
