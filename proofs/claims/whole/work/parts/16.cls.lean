-- TemperNurses$Course.take(LTemperNurses$Course;)V at 20, 35
def f1_take_20_35 (h : jv_H) : Option (Unit × jv_H) := jv_let (jv_p h 20 1 (h.1 35 1)) fun h1 => if jv_cp (0 : Int32) (0 : Int32) (209 : Int32) 209 209 then jv_let (jv_y h1 36 21 (0 : Int32) (0 : Int32) (209 : Int32)) fun h2 => some ((), h2) else none
set_option maxRecDepth 20000 in
theorem e1_take_20_35 {l : Launch} {d : Nat} {X : List jv_S} (hd : 1 ≤ d) (h : jv_H) : jv_E l yX1_take cX1_take 2 none d (SC ++ X) jv_rv [.ref 20, .ref 35] h (f1_take_20_35  h) := by
  refine e_of [(0, .ref 20), (1, .ref 35)] rfl pn_X1 (fun _ => Nat.le_of_ble_eq_true rfl) (fun _ => rfl) ?_
  unfold f1_take_20_35
  refine v_aload_n 0 1 rfl dX1_take_0 rfl rfl ?_
  refine v_aload_n 1 2 rfl dX1_take_1 rfl rfl ?_
  refine v_geti 5 rfl fl_X1_15 sc_35 rfl dX1_take_2 ?_
  refine n_puti 8 rfl fl_X1_15 sc_20 rfl dX1_take_5 (fun h1 => ?_)
  refine v_aload_n 1 9 rfl dX1_take_8 rfl rfl ?_
  refine v_getr 12 rfl fl_X1_11 sc_35 rfl dX1_take_9 ?_
  refine v_iconst 13 rfl dX1_take_12 ic_0 ?_
  refine v_aload_n 0 14 rfl dX1_take_13 rfl rfl ?_
  refine v_getr 17 rfl fl_X1_11 sc_20 rfl dX1_take_14 ?_
  refine v_iconst 18 rfl dX1_take_17 ic_0 ?_
  refine v_aload_n 0 19 rfl dX1_take_18 rfl rfl ?_
  refine v_getr 22 rfl fl_X1_11 sc_20 rfl dX1_take_19 ?_
  refine v_alen (v := (209 : Int32)) 23 rfl sc_21 rfl dX1_take_22 ?_
  refine n_copy 26 rfl (by omega) (Nat.le_of_ble_eq_true rfl) sc_36 sc_21 mw_552 mw_476 mw_475 mw_64 dX1_take_23 (fun h2 => ?_)
  exact v_vret rfl dX1_take_26
-- TemperNurses$Course.take(LTemperNurses$Course;)V at 20, 37
def f1_take_20_37 (h : jv_H) : Option (Unit × jv_H) := jv_let (jv_p h 20 1 (h.1 37 1)) fun h1 => if jv_cp (0 : Int32) (0 : Int32) (209 : Int32) 209 209 then jv_let (jv_y h1 38 21 (0 : Int32) (0 : Int32) (209 : Int32)) fun h2 => some ((), h2) else none
set_option maxRecDepth 20000 in
theorem e1_take_20_37 {l : Launch} {d : Nat} {X : List jv_S} (hd : 1 ≤ d) (h : jv_H) : jv_E l yX1_take cX1_take 2 none d (SC ++ X) jv_rv [.ref 20, .ref 37] h (f1_take_20_37  h) := by
  refine e_of [(0, .ref 20), (1, .ref 37)] rfl pn_X1 (fun _ => Nat.le_of_ble_eq_true rfl) (fun _ => rfl) ?_
  unfold f1_take_20_37
  refine v_aload_n 0 1 rfl dX1_take_0 rfl rfl ?_
  refine v_aload_n 1 2 rfl dX1_take_1 rfl rfl ?_
  refine v_geti 5 rfl fl_X1_15 sc_37 rfl dX1_take_2 ?_
  refine n_puti 8 rfl fl_X1_15 sc_20 rfl dX1_take_5 (fun h1 => ?_)
  refine v_aload_n 1 9 rfl dX1_take_8 rfl rfl ?_
  refine v_getr 12 rfl fl_X1_11 sc_37 rfl dX1_take_9 ?_
  refine v_iconst 13 rfl dX1_take_12 ic_0 ?_
  refine v_aload_n 0 14 rfl dX1_take_13 rfl rfl ?_
  refine v_getr 17 rfl fl_X1_11 sc_20 rfl dX1_take_14 ?_
  refine v_iconst 18 rfl dX1_take_17 ic_0 ?_
  refine v_aload_n 0 19 rfl dX1_take_18 rfl rfl ?_
  refine v_getr 22 rfl fl_X1_11 sc_20 rfl dX1_take_19 ?_
  refine v_alen (v := (209 : Int32)) 23 rfl sc_21 rfl dX1_take_22 ?_
  refine n_copy 26 rfl (by omega) (Nat.le_of_ble_eq_true rfl) sc_38 sc_21 mw_552 mw_476 mw_475 mw_64 dX1_take_23 (fun h2 => ?_)
  exact v_vret rfl dX1_take_26
-- TemperNurses.back(I)I at 0
def f8_back_0 (a1 : Int32) (h : jv_H) : Option (Int32 × jv_H) := (f8_isWithin a1 (0 : Int32) (1 : Int32) h).bind fun q1 => if q1.1 = 0 then some ((-1 : Int32), q1.2) else (f8_bit a1 q1.2).bind fun q2 => if ((q1.2.1 0 11) &&& q2.1) = 0 then some ((-2 : Int32), q2.2) else (f8_imageOf_0 a1 q2.2).bind fun q3 => if q3.1 = 35 then (f1_take_20_35 q3.2).bind fun q4 => (f1_year_20 q4.2).bind fun q5 => some (q5.1, q5.2) else if q3.1 = 37 then (f1_take_20_37 q3.2).bind fun q6 => (f1_year_20 q6.2).bind fun q7 => some (q7.1, q7.2) else none
set_option maxRecDepth 20000 in
theorem e8_back_0 {l : Launch} {d : Nat} {X : List jv_S} (hd : 2 ≤ d) (a1 : Int32) (h : jv_H) : jv_E l yX8_back cX8_back 2 (some .int) d (SC ++ X) jv_ri [.ref 0, .int a1] h (f8_back_0 a1 h) := by
  refine e_of [(0, .ref 0), (1, .int a1)] rfl pn_X8 (fun _ => Nat.le_of_ble_eq_true rfl) (fun _ => rfl) ?_
  unfold f8_back_0
  refine v_iload_n 1 1 rfl dX8_back_0 rfl rfl ?_
  refine v_iconst 2 rfl dX8_back_1 ic_0 ?_
  refine v_iconst 3 rfl dX8_back_2 ic_1 ?_
  refine n_calls [.int a1, .int (0 : Int32), .int (1 : Int32)] [] (fun r => .int r :: []) 6 rfl (by omega) (Nat.le_of_ble_eq_true rfl) cb_X8_isWithin cs_X8_83 rfl (Nat.le_of_ble_eq_true rfl) dX8_back_3 rfl (fun _ => rfl) (e8_isWithin (by omega) a1 (0 : Int32) (1 : Int32) h) (fun q1 => ?_)
  refine v_if_ne 11 9 rfl rfl dX8_back_6 (fun _ => ?_) (fun _ => ?_)
  · refine v_aload_n 0 12 rfl dX8_back_11 rfl rfl ?_
    refine v_geti 15 rfl fl_X8_109 sc_0 rfl dX8_back_12 ?_
    refine v_iload_n 1 16 rfl dX8_back_15 rfl rfl ?_
    refine n_calls [.int a1] [.int (q1.2.1 0 11)] (fun r => .int r :: [.int (q1.2.1 0 11)]) 19 rfl (by omega) (Nat.le_of_ble_eq_true rfl) cb_X8_bit cs_X8_273 rfl (Nat.le_of_ble_eq_true rfl) dX8_back_16 rfl (fun _ => rfl) (e8_bit (by omega) a1 q1.2) (fun q2 => ?_)
    refine v_iand 20 rfl dX8_back_19 ?_
    refine v_if_ne 26 23 rfl rfl dX8_back_20 (fun _ => ?_) (fun _ => ?_)
    · refine v_aload_n 0 27 rfl dX8_back_26 rfl rfl ?_
      refine v_getr 30 rfl fl_X8_26 sc_0 rfl dX8_back_27 ?_
      refine v_aload_n 0 31 rfl dX8_back_30 rfl rfl ?_
      refine v_iload_n 1 32 rfl dX8_back_31 rfl rfl ?_
      refine n_callv [.int a1] [.ref 20] (fun r => .ref r :: [.ref 20]) 35 rfl (by omega) (Nat.le_of_ble_eq_true rfl) cb_X8_imageOf cv_X8_266 sc_0 cn_X8 rfl (Nat.le_of_ble_eq_true rfl) dX8_back_32 rfl (fun _ => rfl) (e8_imageOf_0 (by omega) a1 q2.2) (fun q3 => ?_)
      refine n_ref (fun r => .ref r :: [.ref 20]) 35 ?_ ?_
      · refine n_callv [.ref 35] [] (fun _ => []) 38 rfl (by omega) (Nat.le_of_ble_eq_true rfl) cb_X1_take cv_X8_270 sc_20 cn_X1 rfl (Nat.le_of_ble_eq_true rfl) dX8_back_35 rfl (fun _ => rfl) (e1_take_20_35 (by omega)  q3.2) (fun q4 => ?_)
        refine v_aload_n 0 39 rfl dX8_back_38 rfl rfl ?_
        refine v_getr 42 rfl fl_X8_26 sc_0 rfl dX8_back_39 ?_
        refine n_callv [] [] (fun r => .int r :: []) 45 rfl (by omega) (Nat.le_of_ble_eq_true rfl) cb_X1_year cv_X8_183 sc_20 cn_X1 rfl (Nat.le_of_ble_eq_true rfl) dX8_back_42 rfl (fun _ => rfl) (e1_year_20 (by omega)  q4.2) (fun q5 => ?_)
        exact v_iret rfl dX8_back_45
      refine n_ref (fun r => .ref r :: [.ref 20]) 37 ?_ ?_
      · refine n_callv [.ref 37] [] (fun _ => []) 38 rfl (by omega) (Nat.le_of_ble_eq_true rfl) cb_X1_take cv_X8_270 sc_20 cn_X1 rfl (Nat.le_of_ble_eq_true rfl) dX8_back_35 rfl (fun _ => rfl) (e1_take_20_37 (by omega)  q3.2) (fun q6 => ?_)
        refine v_aload_n 0 39 rfl dX8_back_38 rfl rfl ?_
        refine v_getr 42 rfl fl_X8_26 sc_0 rfl dX8_back_39 ?_
        refine n_callv [] [] (fun r => .int r :: []) 45 rfl (by omega) (Nat.le_of_ble_eq_true rfl) cb_X1_year cv_X8_183 sc_20 cn_X1 rfl (Nat.le_of_ble_eq_true rfl) dX8_back_42 rfl (fun _ => rfl) (e1_year_20 (by omega)  q6.2) (fun q7 => ?_)
        exact v_iret rfl dX8_back_45
      exact v_none
    · refine v_bipush 25 rfl dX8_back_23 bp_m2 ?_
      exact v_iret rfl dX8_back_25
  · refine v_iconst 10 rfl dX8_back_9 ic_m1 ?_
    exact v_iret rfl dX8_back_10
-- TemperNurses.count(I)I at 0
def f8_count_0 (a1 : Int32) (h : jv_H) : Option (Int32 × jv_H) := if a1 = 0 then some ((h.1 1 0), h) else if a1 = 1 then some ((h.1 1 1), h) else if a1 = 2 then some ((h.1 31 3), h) else if a1 = 3 then some ((h.1 20 1), h) else if a1 = 4 then some ((h.1 9 1), h) else some ((-1 : Int32), h)
set_option maxRecDepth 20000 in
theorem e8_count_0 {l : Launch} {d : Nat} {X : List jv_S} (hd : 0 ≤ d) (a1 : Int32) (h : jv_H) : jv_E l yX8_count cX8_count 2 (some .int) d (SC ++ X) jv_ri [.ref 0, .int a1] h (f8_count_0 a1 h) := by
  refine e_of [(0, .ref 0), (1, .int a1)] rfl pn_X8 (fun _ => Nat.le_of_ble_eq_true rfl) (fun _ => rfl) ?_
  unfold f8_count_0
  refine v_iload_n 1 1 rfl dX8_count_0 rfl rfl ?_
  refine v_tabc (0 : Int32) (off := 35) 36 dX8_count_1 (by decide +kernel) rfl (fun _ => ?_) (fun c1 => ?_)
  · refine v_aload_n 0 37 rfl dX8_count_36 rfl rfl ?_
    refine v_getr 40 rfl fl_X8_10 sc_0 rfl dX8_count_37 ?_
    refine v_geti 43 rfl fl_X8_177 sc_1 rfl dX8_count_40 ?_
    exact v_iret rfl dX8_count_43
  refine v_tabc (1 : Int32) (off := 43) 44 dX8_count_1 (by decide +kernel) rfl (fun _ => ?_) (fun c2 => ?_)
  · refine v_aload_n 0 45 rfl dX8_count_44 rfl rfl ?_
    refine v_getr 48 rfl fl_X8_10 sc_0 rfl dX8_count_45 ?_
    refine v_geti 51 rfl fl_X8_276 sc_1 rfl dX8_count_48 ?_
    exact v_iret rfl dX8_count_51
  refine v_tabc (2 : Int32) (off := 51) 52 dX8_count_1 (by decide +kernel) rfl (fun _ => ?_) (fun c3 => ?_)
  · refine v_aload_n 0 53 rfl dX8_count_52 rfl rfl ?_
    refine v_getr 56 rfl fl_X8_58 sc_0 rfl dX8_count_53 ?_
    refine v_geti 59 rfl fl_X8_239 sc_31 rfl dX8_count_56 ?_
    exact v_iret rfl dX8_count_59
  refine v_tabc (3 : Int32) (off := 59) 60 dX8_count_1 (by decide +kernel) rfl (fun _ => ?_) (fun c4 => ?_)
  · refine v_aload_n 0 61 rfl dX8_count_60 rfl rfl ?_
    refine v_getr 64 rfl fl_X8_26 sc_0 rfl dX8_count_61 ?_
    refine v_geti 67 rfl fl_X8_201 sc_20 rfl dX8_count_64 ?_
    exact v_iret rfl dX8_count_67
  refine v_tabc (4 : Int32) (off := 67) 68 dX8_count_1 (by decide +kernel) rfl (fun _ => ?_) (fun c5 => ?_)
  · refine v_aload_n 0 69 rfl dX8_count_68 rfl rfl ?_
    refine v_getr 72 rfl fl_X8_19 sc_0 rfl dX8_count_69 ?_
    refine v_geti 75 rfl fl_X8_91 sc_9 rfl dX8_count_72 ?_
    exact v_iret rfl dX8_count_75
  refine v_tabd 76 dX8_count_1 (by have := lv_neT (a := 0) c1 rfl; have := lv_neT (a := 1) c2 rfl; have := lv_neT (a := 2) c3 rfl; have := lv_neT (a := 3) c4 rfl; have := lv_neT (a := 4) c5 rfl; omega) rfl ?_
  refine v_iconst 77 rfl dX8_count_76 ic_m1 ?_
  exact v_iret rfl dX8_count_77
-- TemperNurses.trace()J at 0
def f8_trace_0 (h : jv_H) : Option (Int64 × jv_H) := some ((h.2 34 1), h)
set_option maxRecDepth 20000 in
theorem e8_trace_0 {l : Launch} {d : Nat} {X : List jv_S} (hd : 0 ≤ d) (h : jv_H) : jv_E l yX8_trace cX8_trace 1 (some .long) d (SC ++ X) jv_rl [.ref 0] h (f8_trace_0  h) := by
  refine e_of [(0, .ref 0)] rfl pn_X8 (fun _ => Nat.le_of_ble_eq_true rfl) (fun _ => rfl) ?_
  unfold f8_trace_0
  refine v_aload_n 0 1 rfl dX8_trace_0 rfl rfl ?_
  refine v_getr 4 rfl fl_X8_65 sc_0 rfl dX8_trace_1 ?_
  refine v_getl 7 rfl fl_X8_279 sc_34 rfl dX8_trace_4 ?_
  exact v_lret rfl dX8_trace_7
