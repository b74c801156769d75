-- TemperNurses$Course.remember()V at 20
def g1_remember_20_b32 (h : jv_H) : Option (Unit × jv_H) := if jv_cp ((h.1 20 1) * (19 : Int32)) (((h.1 20 1) + (1 : Int32)) * (19 : Int32)) (19 : Int32) 209 209 then jv_let (jv_y h 21 21 ((h.1 20 1) * (19 : Int32)) (((h.1 20 1) + (1 : Int32)) * (19 : Int32)) (19 : Int32)) fun h1 => jv_let (jv_p h1 20 1 ((h1.1 20 1) + (1 : Int32))) fun h2 => some ((), h2) else none
set_option maxRecDepth 20000 in
theorem b1_remember_20_b32 {l : Launch} {d : Nat} {X : List jv_S} (hd : 1 ≤ d) : ∀ (h : jv_H), jv_V l RX1 cX1_remember 1 none d (SC ++ X) jv_rv 32 [(0, .ref 20)] [] h (g1_remember_20_b32 h) := by
  intro  h
  unfold g1_remember_20_b32
  refine v_aload_n 0 33 rfl dX1_remember_32 rfl rfl ?_
  refine v_getr 36 rfl fl_X1_11 sc_20 rfl dX1_remember_33 ?_
  refine v_aload_n 0 37 rfl dX1_remember_36 rfl rfl ?_
  refine v_geti 40 rfl fl_X1_15 sc_20 rfl dX1_remember_37 ?_
  refine v_bipush 42 rfl dX1_remember_40 bp_19 ?_
  refine v_imul 43 rfl dX1_remember_42 ?_
  refine v_aload_n 0 44 rfl dX1_remember_43 rfl rfl ?_
  refine v_getr 47 rfl fl_X1_11 sc_20 rfl dX1_remember_44 ?_
  refine v_aload_n 0 48 rfl dX1_remember_47 rfl rfl ?_
  refine v_geti 51 rfl fl_X1_15 sc_20 rfl dX1_remember_48 ?_
  refine v_iconst 52 rfl dX1_remember_51 ic_1 ?_
  refine v_iadd 53 rfl dX1_remember_52 ?_
  refine v_bipush 55 rfl dX1_remember_53 bp_19 ?_
  refine v_imul 56 rfl dX1_remember_55 ?_
  refine v_bipush 58 rfl dX1_remember_56 bp_19 ?_
  refine n_copy 61 rfl (by omega) (Nat.le_of_ble_eq_true rfl) sc_21 sc_21 mw_552 mw_476 mw_475 mw_64 dX1_remember_58 (fun h1 => ?_)
  refine v_aload_n 0 62 rfl dX1_remember_61 rfl rfl ?_
  refine v_dupr 63 rfl dX1_remember_62 ?_
  refine v_geti 66 rfl fl_X1_15 sc_20 rfl dX1_remember_63 ?_
  refine v_iconst 67 rfl dX1_remember_66 ic_1 ?_
  refine v_iadd 68 rfl dX1_remember_67 ?_
  refine n_puti 71 rfl fl_X1_15 sc_20 rfl dX1_remember_68 (fun h2 => ?_)
  exact v_vret rfl dX1_remember_71
def f1_remember_20 (h : jv_H) : Option (Unit × jv_H) := if (h.1 20 1) < (10 : Int32) then g1_remember_20_b32 h else if jv_cp (19 : Int32) (0 : Int32) (190 : Int32) 209 209 then jv_let (jv_y h 21 21 (19 : Int32) (0 : Int32) (190 : Int32)) fun h1 => jv_let (jv_p h1 20 1 (9 : Int32)) fun h2 => g1_remember_20_b32 h2 else none
set_option maxRecDepth 20000 in
theorem e1_remember_20 {l : Launch} {d : Nat} {X : List jv_S} (hd : 1 ≤ d) (h : jv_H) : jv_E l yX1_remember cX1_remember 1 none d (SC ++ X) jv_rv [.ref 20] h (f1_remember_20  h) := by
  refine e_of [(0, .ref 20)] rfl pn_X1 (fun _ => Nat.le_of_ble_eq_true rfl) (fun _ => rfl) ?_
  unfold f1_remember_20
  refine v_aload_n 0 1 rfl dX1_remember_0 rfl rfl ?_
  refine v_geti 4 rfl fl_X1_15 sc_20 rfl dX1_remember_1 ?_
  refine v_bipush 6 rfl dX1_remember_4 bp_10 ?_
  refine v_icmp_lt 32 9 rfl rfl dX1_remember_6 (fun _ => ?_) (fun _ => ?_)
  · exact b1_remember_20_b32 hd h
  · refine v_aload_n 0 10 rfl dX1_remember_9 rfl rfl ?_
    refine v_getr 13 rfl fl_X1_11 sc_20 rfl dX1_remember_10 ?_
    refine v_bipush 15 rfl dX1_remember_13 bp_19 ?_
    refine v_aload_n 0 16 rfl dX1_remember_15 rfl rfl ?_
    refine v_getr 19 rfl fl_X1_11 sc_20 rfl dX1_remember_16 ?_
    refine v_iconst 20 rfl dX1_remember_19 ic_0 ?_
    refine v_sipush 23 rfl dX1_remember_20 sp_190 ?_
    refine n_copy 26 rfl (by omega) (Nat.le_of_ble_eq_true rfl) sc_21 sc_21 mw_552 mw_476 mw_475 mw_64 dX1_remember_23 (fun h1 => ?_)
    refine v_aload_n 0 27 rfl dX1_remember_26 rfl rfl ?_
    refine v_bipush 29 rfl dX1_remember_27 bp_9 ?_
    refine n_puti 32 rfl fl_X1_15 sc_20 rfl dX1_remember_29 (fun h2 => ?_)
    exact b1_remember_20_b32 hd h2
-- TemperNurses.sends(II)I at 0
def f8_sends_0 (a1 : Int32) (a2 : Int32) (h : jv_H) : Option (Int32 × jv_H) := (f2_hasTemper_1 a1 h).bind fun q1 => if q1.1 = 0 then some ((-1 : Int32), q1.2) else (f2_hasNurse_1 a2 q1.2).bind fun q2 => if q2.1 = 0 then some ((-1 : Int32), q2.2) else (f3_mayBeSent_22 a1 a2 q2.2).bind fun q3 => if q3.1 = 0 then some ((-2 : Int32), q3.2) else (f1_remember_20 q3.2).bind fun q4 => (f1_setPlace_20 a1 a2 q4.2).bind fun q5 => (f3_thoseWith_22 a2 q5.2).bind fun q6 => (fj6_bitCount_0f7a4 q6.1 q6.2).bind fun q7 => some (q7.1, q7.2)
set_option maxRecDepth 20000 in
theorem e8_sends_0 {l : Launch} {d : Nat} {X : List jv_S} (hd : 4 ≤ d) (a1 : Int32) (a2 : Int32) (h : jv_H) : jv_E l yX8_sends cX8_sends 3 (some .int) d (SC ++ X) jv_ri [.ref 0, .int a1, .int a2] h (f8_sends_0 a1 a2 h) := by
  refine e_of [(0, .ref 0), (1, .int a1), (2, .int a2)] rfl pn_X8 (fun _ => Nat.le_of_ble_eq_true rfl) (fun _ => rfl) ?_
  unfold f8_sends_0
  refine v_aload_n 0 1 rfl dX8_sends_0 rfl rfl ?_
  refine v_getr 4 rfl fl_X8_10 sc_0 rfl dX8_sends_1 ?_
  refine v_iload_n 1 5 rfl dX8_sends_4 rfl rfl ?_
  refine n_callv [.int a1] [] (fun r => .int r :: []) 8 rfl (by omega) (Nat.le_of_ble_eq_true rfl) cb_X2_hasTemper cv_X8_112 sc_1 cn_X2 rfl (Nat.le_of_ble_eq_true rfl) dX8_sends_5 rfl (fun _ => rfl) (e2_hasTemper_1 (by omega) a1 h) (fun q1 => ?_)
  refine v_if_eq 22 11 rfl rfl dX8_sends_8 (fun _ => ?_) (fun _ => ?_)
  · refine v_iconst 23 rfl dX8_sends_22 ic_m1 ?_
    exact v_iret rfl dX8_sends_23
  · refine v_aload_n 0 12 rfl dX8_sends_11 rfl rfl ?_
    refine v_getr 15 rfl fl_X8_10 sc_0 rfl dX8_sends_12 ?_
    refine v_iload_n 2 16 rfl dX8_sends_15 rfl rfl ?_
    refine n_callv [.int a2] [] (fun r => .int r :: []) 19 rfl (by omega) (Nat.le_of_ble_eq_true rfl) cb_X2_hasNurse cv_X8_137 sc_1 cn_X2 rfl (Nat.le_of_ble_eq_true rfl) dX8_sends_16 rfl (fun _ => rfl) (e2_hasNurse_1 (by omega) a2 q1.2) (fun q2 => ?_)
    refine v_if_ne 24 22 rfl rfl dX8_sends_19 (fun _ => ?_) (fun _ => ?_)
    · refine v_aload_n 0 25 rfl dX8_sends_24 rfl rfl ?_
      refine v_getr 28 rfl fl_X8_35 sc_0 rfl dX8_sends_25 ?_
      refine v_iload_n 1 29 rfl dX8_sends_28 rfl rfl ?_
      refine v_iload_n 2 30 rfl dX8_sends_29 rfl rfl ?_
      refine n_callv [.int a1, .int a2] [] (fun r => .int r :: []) 33 rfl (by omega) (Nat.le_of_ble_eq_true rfl) cb_X3_mayBeSent cv_X8_155 sc_22 cn_X3 rfl (Nat.le_of_ble_eq_true rfl) dX8_sends_30 rfl (fun _ => rfl) (e3_mayBeSent_22 (by omega) a1 a2 q2.2) (fun q3 => ?_)
      refine v_if_ne 39 36 rfl rfl dX8_sends_33 (fun _ => ?_) (fun _ => ?_)
      · refine v_aload_n 0 40 rfl dX8_sends_39 rfl rfl ?_
        refine v_getr 43 rfl fl_X8_26 sc_0 rfl dX8_sends_40 ?_
        refine n_callv [] [] (fun _ => []) 46 rfl (by omega) (Nat.le_of_ble_eq_true rfl) cb_X1_remember cv_X8_159 sc_20 cn_X1 rfl (Nat.le_of_ble_eq_true rfl) dX8_sends_43 rfl (fun _ => rfl) (e1_remember_20 (by omega)  q3.2) (fun q4 => ?_)
        refine v_aload_n 0 47 rfl dX8_sends_46 rfl rfl ?_
        refine v_getr 50 rfl fl_X8_26 sc_0 rfl dX8_sends_47 ?_
        refine v_iload_n 1 51 rfl dX8_sends_50 rfl rfl ?_
        refine v_iload_n 2 52 rfl dX8_sends_51 rfl rfl ?_
        refine n_callv [.int a1, .int a2] [] (fun _ => []) 55 rfl (by omega) (Nat.le_of_ble_eq_true rfl) cb_X1_setPlace cv_X8_162 sc_20 cn_X1 rfl (Nat.le_of_ble_eq_true rfl) dX8_sends_52 rfl (fun _ => rfl) (e1_setPlace_20 (by omega) a1 a2 q4.2) (fun q5 => ?_)
        refine v_aload_n 0 56 rfl dX8_sends_55 rfl rfl ?_
        refine v_getr 59 rfl fl_X8_35 sc_0 rfl dX8_sends_56 ?_
        refine v_iload_n 2 60 rfl dX8_sends_59 rfl rfl ?_
        refine n_callv [.int a2] [] (fun r => .int r :: []) 63 rfl (by omega) (Nat.le_of_ble_eq_true rfl) cb_X3_thoseWith cv_X8_149 sc_22 cn_X3 rfl (Nat.le_of_ble_eq_true rfl) dX8_sends_60 rfl (fun _ => rfl) (e3_thoseWith_22 (by omega) a2 q5.2) (fun q6 => ?_)
        refine n_calls [.int q6.1] [] (fun r => .int r :: []) 66 rfl (by omega) (Nat.le_of_ble_eq_true rfl) cb_J6_bitCount_0f7a4 cs_X8_166 rfl (Nat.le_of_ble_eq_true rfl) dX8_sends_63 rfl (fun _ => rfl) (ej6_bitCount_0f7a4 (by omega) q6.1 q6.2) (fun q7 => ?_)
        exact v_iret rfl dX8_sends_66
      · refine v_bipush 38 rfl dX8_sends_36 bp_m2 ?_
        exact v_iret rfl dX8_sends_38
    · refine v_iconst 23 rfl dX8_sends_22 ic_m1 ?_
      exact v_iret rfl dX8_sends_23
-- TemperNurses.fetches(I)I at 0
def f8_fetches_0 (a1 : Int32) (h : jv_H) : Option (Int32 × jv_H) := (f2_hasTemper_1 a1 h).bind fun q1 => if q1.1 = 0 then some ((-1 : Int32), q1.2) else (f1_place_20 a1 q1.2).bind fun q2 => jv_let q2.1 fun x3 => if x3 = (-9 : Int32) then some ((-2 : Int32), q2.2) else (f1_remember_20 q2.2).bind fun q4 => (f1_setPlace_20 a1 (-9 : Int32) q4.2).bind fun q5 => some (x3, q5.2)
set_option maxRecDepth 20000 in
theorem e8_fetches_0 {l : Launch} {d : Nat} {X : List jv_S} (hd : 2 ≤ d) (a1 : Int32) (h : jv_H) : jv_E l yX8_fetches cX8_fetches 3 (some .int) d (SC ++ X) jv_ri [.ref 0, .int a1] h (f8_fetches_0 a1 h) := by
  refine e_of [(0, .ref 0), (1, .int a1)] rfl pn_X8 (fun _ => Nat.le_of_ble_eq_true rfl) (fun _ => rfl) ?_
  unfold f8_fetches_0
  refine v_aload_n 0 1 rfl dX8_fetches_0 rfl rfl ?_
  refine v_getr 4 rfl fl_X8_10 sc_0 rfl dX8_fetches_1 ?_
  refine v_iload_n 1 5 rfl dX8_fetches_4 rfl rfl ?_
  refine n_callv [.int a1] [] (fun r => .int r :: []) 8 rfl (by omega) (Nat.le_of_ble_eq_true rfl) cb_X2_hasTemper cv_X8_112 sc_1 cn_X2 rfl (Nat.le_of_ble_eq_true rfl) dX8_fetches_5 rfl (fun _ => rfl) (e2_hasTemper_1 (by omega) a1 h) (fun q1 => ?_)
  refine v_if_ne 13 11 rfl rfl dX8_fetches_8 (fun _ => ?_) (fun _ => ?_)
  · refine v_aload_n 0 14 rfl dX8_fetches_13 rfl rfl ?_
    refine v_getr 17 rfl fl_X8_26 sc_0 rfl dX8_fetches_14 ?_
    refine v_iload_n 1 18 rfl dX8_fetches_17 rfl rfl ?_
    refine n_callv [.int a1] [] (fun r => .int r :: []) 21 rfl (by omega) (Nat.le_of_ble_eq_true rfl) cb_X1_place cv_X8_125 sc_20 cn_X1 rfl (Nat.le_of_ble_eq_true rfl) dX8_fetches_18 rfl (fun _ => rfl) (e1_place_20 (by omega) a1 q1.2) (fun q2 => ?_)
    refine n_istore_n (fun x3 => [(0, .ref 0), (1, .int a1), (2, .int x3)]) 22 rfl dX8_fetches_21 rfl (Nat.le_of_ble_eq_true rfl) rfl (fun _ => rfl) (fun x3 => ?_)
    refine v_iload_n 2 23 rfl dX8_fetches_22 rfl rfl ?_
    refine v_bipush 25 rfl dX8_fetches_23 bp_m9 ?_
    refine v_icmp_ne 31 28 rfl rfl dX8_fetches_25 (fun _ => ?_) (fun _ => ?_)
    · refine v_aload_n 0 32 rfl dX8_fetches_31 rfl rfl ?_
      refine v_getr 35 rfl fl_X8_26 sc_0 rfl dX8_fetches_32 ?_
      refine n_callv [] [] (fun _ => []) 38 rfl (by omega) (Nat.le_of_ble_eq_true rfl) cb_X1_remember cv_X8_159 sc_20 cn_X1 rfl (Nat.le_of_ble_eq_true rfl) dX8_fetches_35 rfl (fun _ => rfl) (e1_remember_20 (by omega)  q2.2) (fun q4 => ?_)
      refine v_aload_n 0 39 rfl dX8_fetches_38 rfl rfl ?_
      refine v_getr 42 rfl fl_X8_26 sc_0 rfl dX8_fetches_39 ?_
      refine v_iload_n 1 43 rfl dX8_fetches_42 rfl rfl ?_
      refine v_bipush 45 rfl dX8_fetches_43 bp_m9 ?_
      refine n_callv [.int a1, .int (-9 : Int32)] [] (fun _ => []) 48 rfl (by omega) (Nat.le_of_ble_eq_true rfl) cb_X1_setPlace cv_X8_162 sc_20 cn_X1 rfl (Nat.le_of_ble_eq_true rfl) dX8_fetches_45 rfl (fun _ => rfl) (e1_setPlace_20 (by omega) a1 (-9 : Int32) q4.2) (fun q5 => ?_)
      refine v_iload_n 2 49 rfl dX8_fetches_48 rfl rfl ?_
      exact v_iret rfl dX8_fetches_49
    · refine v_bipush 30 rfl dX8_fetches_28 bp_m2 ?_
      exact v_iret rfl dX8_fetches_30
  · refine v_iconst 12 rfl dX8_fetches_11 ic_m1 ?_
    exact v_iret rfl dX8_fetches_12
-- TemperNurses.visits(I)I at 0
def f8_visits_0 (a1 : Int32) (h : jv_H) : Option (Int32 × jv_H) := (f2_hasTemper_1 a1 h).bind fun q1 => if q1.1 = 0 then some ((-1 : Int32), q1.2) else (f1_heat_20 a1 q1.2).bind fun q2 => jv_let q2.1 fun x3 => (f1_place_20 a1 q2.2).bind fun q4 => if q4.1 = (-9 : Int32) then some ((-2 : Int32), q4.2) else if x3 = 0 then some ((-2 : Int32), q4.2) else (f1_remember_20 q4.2).bind fun q5 => (f1_setHeat_20 a1 (x3 - (1 : Int32)) q5.2).bind fun q6 => some ((x3 - (1 : Int32)), q6.2)
set_option maxRecDepth 20000 in
theorem e8_visits_0 {l : Launch} {d : Nat} {X : List jv_S} (hd : 2 ≤ d) (a1 : Int32) (h : jv_H) : jv_E l yX8_visits cX8_visits 3 (some .int) d (SC ++ X) jv_ri [.ref 0, .int a1] h (f8_visits_0 a1 h) := by
  refine e_of [(0, .ref 0), (1, .int a1)] rfl pn_X8 (fun _ => Nat.le_of_ble_eq_true rfl) (fun _ => rfl) ?_
  unfold f8_visits_0
  refine v_aload_n 0 1 rfl dX8_visits_0 rfl rfl ?_
  refine v_getr 4 rfl fl_X8_10 sc_0 rfl dX8_visits_1 ?_
  refine v_iload_n 1 5 rfl dX8_visits_4 rfl rfl ?_
  refine n_callv [.int a1] [] (fun r => .int r :: []) 8 rfl (by omega) (Nat.le_of_ble_eq_true rfl) cb_X2_hasTemper cv_X8_112 sc_1 cn_X2 rfl (Nat.le_of_ble_eq_true rfl) dX8_visits_5 rfl (fun _ => rfl) (e2_hasTemper_1 (by omega) a1 h) (fun q1 => ?_)
  refine v_if_ne 13 11 rfl rfl dX8_visits_8 (fun _ => ?_) (fun _ => ?_)
  · refine v_aload_n 0 14 rfl dX8_visits_13 rfl rfl ?_
    refine v_getr 17 rfl fl_X8_26 sc_0 rfl dX8_visits_14 ?_
    refine v_iload_n 1 18 rfl dX8_visits_17 rfl rfl ?_
    refine n_callv [.int a1] [] (fun r => .int r :: []) 21 rfl (by omega) (Nat.le_of_ble_eq_true rfl) cb_X1_heat cv_X8_115 sc_20 cn_X1 rfl (Nat.le_of_ble_eq_true rfl) dX8_visits_18 rfl (fun _ => rfl) (e1_heat_20 (by omega) a1 q1.2) (fun q2 => ?_)
    refine n_istore_n (fun x3 => [(0, .ref 0), (1, .int a1), (2, .int x3)]) 22 rfl dX8_visits_21 rfl (Nat.le_of_ble_eq_true rfl) rfl (fun _ => rfl) (fun x3 => ?_)
    refine v_aload_n 0 23 rfl dX8_visits_22 rfl rfl ?_
    refine v_getr 26 rfl fl_X8_26 sc_0 rfl dX8_visits_23 ?_
    refine v_iload_n 1 27 rfl dX8_visits_26 rfl rfl ?_
    refine n_callv [.int a1] [] (fun r => .int r :: []) 30 rfl (by omega) (Nat.le_of_ble_eq_true rfl) cb_X1_place cv_X8_125 sc_20 cn_X1 rfl (Nat.le_of_ble_eq_true rfl) dX8_visits_27 rfl (fun _ => rfl) (e1_place_20 (by omega) a1 q2.2) (fun q4 => ?_)
    refine v_bipush 32 rfl dX8_visits_30 bp_m9 ?_
    refine v_icmp_eq 39 35 rfl rfl dX8_visits_32 (fun _ => ?_) (fun _ => ?_)
    · refine v_bipush 41 rfl dX8_visits_39 bp_m2 ?_
      exact v_iret rfl dX8_visits_41
    · refine v_iload_n 2 36 rfl dX8_visits_35 rfl rfl ?_
      refine v_if_ne 42 39 rfl rfl dX8_visits_36 (fun _ => ?_) (fun _ => ?_)
      · refine v_aload_n 0 43 rfl dX8_visits_42 rfl rfl ?_
        refine v_getr 46 rfl fl_X8_26 sc_0 rfl dX8_visits_43 ?_
        refine n_callv [] [] (fun _ => []) 49 rfl (by omega) (Nat.le_of_ble_eq_true rfl) cb_X1_remember cv_X8_159 sc_20 cn_X1 rfl (Nat.le_of_ble_eq_true rfl) dX8_visits_46 rfl (fun _ => rfl) (e1_remember_20 (by omega)  q4.2) (fun q5 => ?_)
        refine v_aload_n 0 50 rfl dX8_visits_49 rfl rfl ?_
        refine v_getr 53 rfl fl_X8_26 sc_0 rfl dX8_visits_50 ?_
        refine v_iload_n 1 54 rfl dX8_visits_53 rfl rfl ?_
        refine v_iload_n 2 55 rfl dX8_visits_54 rfl rfl ?_
        refine v_iconst 56 rfl dX8_visits_55 ic_1 ?_
        refine v_isub 57 rfl dX8_visits_56 ?_
        refine n_callv [.int a1, .int (x3 - (1 : Int32))] [] (fun _ => []) 60 rfl (by omega) (Nat.le_of_ble_eq_true rfl) cb_X1_setHeat cv_X8_171 sc_20 cn_X1 rfl (Nat.le_of_ble_eq_true rfl) dX8_visits_57 rfl (fun _ => rfl) (e1_setHeat_20 (by omega) a1 (x3 - (1 : Int32)) q5.2) (fun q6 => ?_)
        refine v_iload_n 2 61 rfl dX8_visits_60 rfl rfl ?_
        refine v_iconst 62 rfl dX8_visits_61 ic_1 ?_
        refine v_isub 63 rfl dX8_visits_62 ?_
        exact v_iret rfl dX8_visits_63
      · refine v_bipush 41 rfl dX8_visits_39 bp_m2 ?_
        exact v_iret rfl dX8_visits_41
  · refine v_iconst 12 rfl dX8_visits_11 ic_m1 ?_
    exact v_iret rfl dX8_visits_12
-- TemperNurses$Course.isLowestOfRing(I)Z at 20
def g1_isLowestOfRing_20_b8 (k8 : Int32 → Int32 → Int32 → jv_H → Option (Int32 × jv_H)) (a1 : Int32) (a2 : Int32) (a3 : Int32) (h : jv_H) : Option (Int32 × jv_H) := if (6 : Int32) ≤ a3 then some ((1 : Int32), h) else if a1 ≤ a2 then (f1_owner_20 a2 h).bind fun q1 => jv_let q1.1 fun x2 => jv_let (a3 + (1 : Int32)) fun x3 => k8 a1 x2 x3 q1.2 else some ((0 : Int32), h)
set_option maxRecDepth 20000 in
theorem b1_isLowestOfRing_20_b8 {l : Launch} {d : Nat} {X : List jv_S} (hd : 2 ≤ d) (k8 : Int32 → Int32 → Int32 → jv_H → Option (Int32 × jv_H)) (hk8 : ∀ (a1 a2 a3 : Int32) (h : jv_H), jv_V l RX1 cX1_isLowestOfRing 4 (some .boolean) d (SC ++ X) jv_ri 8 [(0, .ref 20), (1, .int a1), (2, .int a2), (3, .int a3)] [] h (k8 a1 a2 a3 h)) : ∀ (a1 : Int32) (a2 : Int32) (a3 : Int32) (h : jv_H), jv_V l RX1 cX1_isLowestOfRing 4 (some .boolean) d (SC ++ X) jv_ri 8 [(0, .ref 20), (1, .int a1), (2, .int a2), (3, .int a3)] [] h (g1_isLowestOfRing_20_b8 k8 a1 a2 a3 h) := by
  intro a1 a2 a3 h
  unfold g1_isLowestOfRing_20_b8
  refine v_iload_n 3 9 rfl dX1_isLowestOfRing_8 rfl rfl ?_
  refine v_bipush 11 rfl dX1_isLowestOfRing_9 bp_6 ?_
  refine v_icmp_ge 33 14 rfl rfl dX1_isLowestOfRing_11 (fun _ => ?_) (fun _ => ?_)
  · refine v_iconst 34 rfl dX1_isLowestOfRing_33 ic_1 ?_
    exact v_zr1 dX1_isLowestOfRing_34
  · refine v_iload_n 2 15 rfl dX1_isLowestOfRing_14 rfl rfl ?_
    refine v_iload_n 1 16 rfl dX1_isLowestOfRing_15 rfl rfl ?_
    refine v_icmp_ge 21 19 rfl rfl dX1_isLowestOfRing_16 (fun _ => ?_) (fun _ => ?_)
    · refine v_aload_n 0 22 rfl dX1_isLowestOfRing_21 rfl rfl ?_
      refine v_iload_n 2 23 rfl dX1_isLowestOfRing_22 rfl rfl ?_
      refine n_callv [.int a2] [] (fun r => .int r :: []) 26 rfl (by omega) (Nat.le_of_ble_eq_true rfl) cb_X1_owner cv_X1_51 sc_20 cn_X1 rfl (Nat.le_of_ble_eq_true rfl) dX1_isLowestOfRing_23 rfl (fun _ => rfl) (e1_owner_20 (by omega) a2 h) (fun q1 => ?_)
      refine n_istore_n (fun x2 => [(0, .ref 20), (1, .int a1), (2, .int x2), (3, .int a3)]) 27 rfl dX1_isLowestOfRing_26 rfl (Nat.le_of_ble_eq_true rfl) rfl (fun _ => rfl) (fun x2 => ?_)
      refine n_iinc (fun x3 => [(0, .ref 20), (1, .int a1), (2, .int x2), (3, .int x3)]) 3 30 rfl dX1_isLowestOfRing_27 rfl ic_1 (Nat.le_of_ble_eq_true rfl) rfl (fun _ => rfl) (fun x3 => ?_)
      refine v_goto 8 rfl dX1_isLowestOfRing_30 ?_
      exact hk8 a1 x2 x3 q1.2
    · refine v_iconst 20 rfl dX1_isLowestOfRing_19 ic_0 ?_
      exact v_zr0 dX1_isLowestOfRing_20
def f1_isLowestOfRing_20_l8 : Nat → Int32 → Int32 → Int32 → jv_H → Option (Int32 × jv_H)
  | 0 => fun _ _ _ _ => none
  | n + 1 => fun a1 a2 a3 h => g1_isLowestOfRing_20_b8 (f1_isLowestOfRing_20_l8 n) a1 a2 a3 h
theorem w1_isLowestOfRing_20_l8 {l : Launch} {d : Nat} {X : List jv_S} (hd : 2 ≤ d) : ∀ (n : Nat) (a1 : Int32) (a2 : Int32) (a3 : Int32) (h : jv_H), jv_V l RX1 cX1_isLowestOfRing 4 (some .boolean) d (SC ++ X) jv_ri 8 [(0, .ref 20), (1, .int a1), (2, .int a2), (3, .int a3)] [] h (f1_isLowestOfRing_20_l8 n a1 a2 a3 h) := by
  intro n
  induction n with
  | zero => intro a1 a2 a3 h; exact v_none
  | succ n ih => intro a1 a2 a3 h; exact b1_isLowestOfRing_20_b8 hd (f1_isLowestOfRing_20_l8 n) ih a1 a2 a3 h
def f1_isLowestOfRing_20 (a1 : Int32) (h : jv_H) : Option (Int32 × jv_H) := (f1_owner_20 a1 h).bind fun q1 => jv_let q1.1 fun x2 => jv_let (0 : Int32) fun x3 => f1_isLowestOfRing_20_l8 jv_fuel a1 x2 x3 q1.2
set_option maxRecDepth 20000 in
theorem e1_isLowestOfRing_20 {l : Launch} {d : Nat} {X : List jv_S} (hd : 2 ≤ d) (a1 : Int32) (h : jv_H) : jv_E l yX1_isLowestOfRing cX1_isLowestOfRing 4 (some .boolean) d (SC ++ X) jv_ri [.ref 20, .int a1] h (f1_isLowestOfRing_20 a1 h) := by
  refine e_of [(0, .ref 20), (1, .int a1)] rfl pn_X1 (fun _ => Nat.le_of_ble_eq_true rfl) (fun _ => rfl) ?_
  unfold f1_isLowestOfRing_20
  refine v_aload_n 0 1 rfl dX1_isLowestOfRing_0 rfl rfl ?_
  refine v_iload_n 1 2 rfl dX1_isLowestOfRing_1 rfl rfl ?_
  refine n_callv [.int a1] [] (fun r => .int r :: []) 5 rfl (by omega) (Nat.le_of_ble_eq_true rfl) cb_X1_owner cv_X1_51 sc_20 cn_X1 rfl (Nat.le_of_ble_eq_true rfl) dX1_isLowestOfRing_2 rfl (fun _ => rfl) (e1_owner_20 (by omega) a1 h) (fun q1 => ?_)
  refine n_istore_n (fun x2 => [(0, .ref 20), (1, .int a1), (2, .int x2)]) 6 rfl dX1_isLowestOfRing_5 rfl (Nat.le_of_ble_eq_true rfl) rfl (fun _ => rfl) (fun x2 => ?_)
  refine v_iconst 7 rfl dX1_isLowestOfRing_6 ic_0 ?_
  refine n_istore_n (fun x3 => [(0, .ref 20), (1, .int a1), (2, .int x2), (3, .int x3)]) 8 rfl dX1_isLowestOfRing_7 rfl (Nat.le_of_ble_eq_true rfl) rfl (fun _ => rfl) (fun x3 => ?_)
  exact w1_isLowestOfRing_20_l8 hd jv_fuel a1 x2 x3 q1.2
-- TemperNurses$Course.mixesToRight(I)I at 20
def g1_mixesToRight_20_b20 (k4 : Int32 → Int32 → Int32 → jv_H → Option (Int32 × jv_H)) (a1 : Int32) (a2 : Int32) (a3 : Int32) (h : jv_H) : Option (Int32 × jv_H) := jv_let (a3 + (1 : Int32)) fun x1 => k4 a1 a2 x1 h
set_option maxRecDepth 20000 in
theorem b1_mixesToRight_20_b20 {l : Launch} {d : Nat} {X : List jv_S} (hd : 3 ≤ d) (k4 : Int32 → Int32 → Int32 → jv_H → Option (Int32 × jv_H)) (hk4 : ∀ (a1 a2 a3 : Int32) (h : jv_H), jv_V l RX1 cX1_mixesToRight 4 (some .int) d (SC ++ X) jv_ri 4 [(0, .ref 20), (1, .int a1), (2, .int a2), (3, .int a3)] [] h (k4 a1 a2 a3 h)) : ∀ (a1 : Int32) (a2 : Int32) (a3 : Int32) (h : jv_H), jv_V l RX1 cX1_mixesToRight 4 (some .int) d (SC ++ X) jv_ri 20 [(0, .ref 20), (1, .int a1), (2, .int a2), (3, .int a3)] [] h (g1_mixesToRight_20_b20 k4 a1 a2 a3 h) := by
  intro a1 a2 a3 h
  unfold g1_mixesToRight_20_b20
  refine n_iinc (fun x1 => [(0, .ref 20), (1, .int a1), (2, .int a2), (3, .int x1)]) 3 23 rfl dX1_mixesToRight_20 rfl ic_1 (Nat.le_of_ble_eq_true rfl) rfl (fun _ => rfl) (fun x1 => ?_)
  refine v_goto 4 rfl dX1_mixesToRight_23 ?_
  exact hk4 a1 a2 x1 h
def g1_mixesToRight_20_b4 (k4 : Int32 → Int32 → Int32 → jv_H → Option (Int32 × jv_H)) (a1 : Int32) (a2 : Int32) (a3 : Int32) (h : jv_H) : Option (Int32 × jv_H) := if a1 ≤ a3 then some (a2, h) else (f1_isLowestOfRing_20 a3 h).bind fun q1 => if q1.1 = 0 then jv_let (a2 + (1 : Int32)) fun x2 => g1_mixesToRight_20_b20 k4 a1 x2 a3 q1.2 else g1_mixesToRight_20_b20 k4 a1 a2 a3 q1.2
set_option maxRecDepth 20000 in
theorem b1_mixesToRight_20_b4 {l : Launch} {d : Nat} {X : List jv_S} (hd : 3 ≤ d) (k4 : Int32 → Int32 → Int32 → jv_H → Option (Int32 × jv_H)) (hk4 : ∀ (a1 a2 a3 : Int32) (h : jv_H), jv_V l RX1 cX1_mixesToRight 4 (some .int) d (SC ++ X) jv_ri 4 [(0, .ref 20), (1, .int a1), (2, .int a2), (3, .int a3)] [] h (k4 a1 a2 a3 h)) : ∀ (a1 : Int32) (a2 : Int32) (a3 : Int32) (h : jv_H), jv_V l RX1 cX1_mixesToRight 4 (some .int) d (SC ++ X) jv_ri 4 [(0, .ref 20), (1, .int a1), (2, .int a2), (3, .int a3)] [] h (g1_mixesToRight_20_b4 k4 a1 a2 a3 h) := by
  intro a1 a2 a3 h
  unfold g1_mixesToRight_20_b4
  refine v_iload_n 3 5 rfl dX1_mixesToRight_4 rfl rfl ?_
  refine v_iload_n 1 6 rfl dX1_mixesToRight_5 rfl rfl ?_
  refine v_icmp_ge 26 9 rfl rfl dX1_mixesToRight_6 (fun _ => ?_) (fun _ => ?_)
  · refine v_iload_n 2 27 rfl dX1_mixesToRight_26 rfl rfl ?_
    exact v_iret rfl dX1_mixesToRight_27
  · refine v_aload_n 0 10 rfl dX1_mixesToRight_9 rfl rfl ?_
    refine v_iload_n 3 11 rfl dX1_mixesToRight_10 rfl rfl ?_
    refine n_callv [.int a3] [] (fun r => .int r :: []) 14 rfl (by omega) (Nat.le_of_ble_eq_true rfl) cb_X1_isLowestOfRing cv_X1_54 sc_20 cn_X1 rfl (Nat.le_of_ble_eq_true rfl) dX1_mixesToRight_11 rfl (fun _ => rfl) (e1_isLowestOfRing_20 (by omega) a3 h) (fun q1 => ?_)
    refine v_if_ne 20 17 rfl rfl dX1_mixesToRight_14 (fun _ => ?_) (fun _ => ?_)
    · exact b1_mixesToRight_20_b20 hd k4 hk4 a1 a2 a3 q1.2
    · refine n_iinc (fun x2 => [(0, .ref 20), (1, .int a1), (2, .int x2), (3, .int a3)]) 2 20 rfl dX1_mixesToRight_17 rfl ic_1 (Nat.le_of_ble_eq_true rfl) rfl (fun _ => rfl) (fun x2 => ?_)
      exact b1_mixesToRight_20_b20 hd k4 hk4 a1 x2 a3 q1.2
def f1_mixesToRight_20_l4 : Nat → Int32 → Int32 → Int32 → jv_H → Option (Int32 × jv_H)
  | 0 => fun _ _ _ _ => none
  | n + 1 => fun a1 a2 a3 h => g1_mixesToRight_20_b4 (f1_mixesToRight_20_l4 n) a1 a2 a3 h
theorem w1_mixesToRight_20_l4 {l : Launch} {d : Nat} {X : List jv_S} (hd : 3 ≤ d) : ∀ (n : Nat) (a1 : Int32) (a2 : Int32) (a3 : Int32) (h : jv_H), jv_V l RX1 cX1_mixesToRight 4 (some .int) d (SC ++ X) jv_ri 4 [(0, .ref 20), (1, .int a1), (2, .int a2), (3, .int a3)] [] h (f1_mixesToRight_20_l4 n a1 a2 a3 h) := by
  intro n
  induction n with
  | zero => intro a1 a2 a3 h; exact v_none
  | succ n ih => intro a1 a2 a3 h; exact b1_mixesToRight_20_b4 hd (f1_mixesToRight_20_l4 n) ih a1 a2 a3 h
def f1_mixesToRight_20 (a1 : Int32) (h : jv_H) : Option (Int32 × jv_H) := jv_let (0 : Int32) fun x1 => jv_let (0 : Int32) fun x2 => f1_mixesToRight_20_l4 jv_fuel a1 x1 x2 h
set_option maxRecDepth 20000 in
theorem e1_mixesToRight_20 {l : Launch} {d : Nat} {X : List jv_S} (hd : 3 ≤ d) (a1 : Int32) (h : jv_H) : jv_E l yX1_mixesToRight cX1_mixesToRight 4 (some .int) d (SC ++ X) jv_ri [.ref 20, .int a1] h (f1_mixesToRight_20 a1 h) := by
  refine e_of [(0, .ref 20), (1, .int a1)] rfl pn_X1 (fun _ => Nat.le_of_ble_eq_true rfl) (fun _ => rfl) ?_
  unfold f1_mixesToRight_20
  refine v_iconst 1 rfl dX1_mixesToRight_0 ic_0 ?_
  refine n_istore_n (fun x1 => [(0, .ref 20), (1, .int a1), (2, .int x1)]) 2 rfl dX1_mixesToRight_1 rfl (Nat.le_of_ble_eq_true rfl) rfl (fun _ => rfl) (fun x1 => ?_)
  refine v_iconst 3 rfl dX1_mixesToRight_2 ic_0 ?_
  refine n_istore_n (fun x2 => [(0, .ref 20), (1, .int a1), (2, .int x1), (3, .int x2)]) 4 rfl dX1_mixesToRight_3 rfl (Nat.le_of_ble_eq_true rfl) rfl (fun _ => rfl) (fun x2 => ?_)
  exact w1_mixesToRight_20_l4 hd jv_fuel a1 x1 x2 h
-- TemperNurses.mixes(II)I at 0
def f8_mixes_0 (a1 : Int32) (a2 : Int32) (h : jv_H) : Option (Int32 × jv_H) := (f2_hasTemper_1 a1 h).bind fun q1 => if q1.1 = 0 then some ((-1 : Int32), q1.2) else (f2_hasTemper_1 a2 q1.2).bind fun q2 => if q2.1 = 0 then some ((-1 : Int32), q2.2) else if a1 = a2 then some ((-1 : Int32), q2.2) else (f1_remember_20 q2.2).bind fun q3 => (f1_owner_20 a1 q3.2).bind fun q4 => jv_let q4.1 fun x5 => (f1_owner_20 a2 q4.2).bind fun q6 => (f1_setOwner_20 a1 q6.1 q6.2).bind fun q7 => (f1_setOwner_20 a2 x5 q7.2).bind fun q8 => (f1_mixesToRight_20 (q8.2.1 1 0) q8.2).bind fun q9 => some (q9.1, q9.2)
set_option maxRecDepth 20000 in
theorem e8_mixes_0 {l : Launch} {d : Nat} {X : List jv_S} (hd : 4 ≤ d) (a1 : Int32) (a2 : Int32) (h : jv_H) : jv_E l yX8_mixes cX8_mixes 4 (some .int) d (SC ++ X) jv_ri [.ref 0, .int a1, .int a2] h (f8_mixes_0 a1 a2 h) := by
  refine e_of [(0, .ref 0), (1, .int a1), (2, .int a2)] rfl pn_X8 (fun _ => Nat.le_of_ble_eq_true rfl) (fun _ => rfl) ?_
  unfold f8_mixes_0
  refine v_aload_n 0 1 rfl dX8_mixes_0 rfl rfl ?_
  refine v_getr 4 rfl fl_X8_10 sc_0 rfl dX8_mixes_1 ?_
  refine v_iload_n 1 5 rfl dX8_mixes_4 rfl rfl ?_
  refine n_callv [.int a1] [] (fun r => .int r :: []) 8 rfl (by omega) (Nat.le_of_ble_eq_true rfl) cb_X2_hasTemper cv_X8_112 sc_1 cn_X2 rfl (Nat.le_of_ble_eq_true rfl) dX8_mixes_5 rfl (fun _ => rfl) (e2_hasTemper_1 (by omega) a1 h) (fun q1 => ?_)
  refine v_if_eq 27 11 rfl rfl dX8_mixes_8 (fun _ => ?_) (fun _ => ?_)
  · refine v_iconst 28 rfl dX8_mixes_27 ic_m1 ?_
    exact v_iret rfl dX8_mixes_28
  · refine v_aload_n 0 12 rfl dX8_mixes_11 rfl rfl ?_
    refine v_getr 15 rfl fl_X8_10 sc_0 rfl dX8_mixes_12 ?_
    refine v_iload_n 2 16 rfl dX8_mixes_15 rfl rfl ?_
    refine n_callv [.int a2] [] (fun r => .int r :: []) 19 rfl (by omega) (Nat.le_of_ble_eq_true rfl) cb_X2_hasTemper cv_X8_112 sc_1 cn_X2 rfl (Nat.le_of_ble_eq_true rfl) dX8_mixes_16 rfl (fun _ => rfl) (e2_hasTemper_1 (by omega) a2 q1.2) (fun q2 => ?_)
    refine v_if_eq 27 22 rfl rfl dX8_mixes_19 (fun _ => ?_) (fun _ => ?_)
    · refine v_iconst 28 rfl dX8_mixes_27 ic_m1 ?_
      exact v_iret rfl dX8_mixes_28
    · refine v_iload_n 1 23 rfl dX8_mixes_22 rfl rfl ?_
      refine v_iload_n 2 24 rfl dX8_mixes_23 rfl rfl ?_
      refine v_icmp_ne 29 27 rfl rfl dX8_mixes_24 (fun _ => ?_) (fun _ => ?_)
      · refine v_aload_n 0 30 rfl dX8_mixes_29 rfl rfl ?_
        refine v_getr 33 rfl fl_X8_26 sc_0 rfl dX8_mixes_30 ?_
        refine n_callv [] [] (fun _ => []) 36 rfl (by omega) (Nat.le_of_ble_eq_true rfl) cb_X1_remember cv_X8_159 sc_20 cn_X1 rfl (Nat.le_of_ble_eq_true rfl) dX8_mixes_33 rfl (fun _ => rfl) (e1_remember_20 (by omega)  q2.2) (fun q3 => ?_)
        refine v_aload_n 0 37 rfl dX8_mixes_36 rfl rfl ?_
        refine v_getr 40 rfl fl_X8_26 sc_0 rfl dX8_mixes_37 ?_
        refine v_iload_n 1 41 rfl dX8_mixes_40 rfl rfl ?_
        refine n_callv [.int a1] [] (fun r => .int r :: []) 44 rfl (by omega) (Nat.le_of_ble_eq_true rfl) cb_X1_owner cv_X8_128 sc_20 cn_X1 rfl (Nat.le_of_ble_eq_true rfl) dX8_mixes_41 rfl (fun _ => rfl) (e1_owner_20 (by omega) a1 q3.2) (fun q4 => ?_)
        refine n_istore_n (fun x5 => [(0, .ref 0), (1, .int a1), (2, .int a2), (3, .int x5)]) 45 rfl dX8_mixes_44 rfl (Nat.le_of_ble_eq_true rfl) rfl (fun _ => rfl) (fun x5 => ?_)
        refine v_aload_n 0 46 rfl dX8_mixes_45 rfl rfl ?_
        refine v_getr 49 rfl fl_X8_26 sc_0 rfl dX8_mixes_46 ?_
        refine v_iload_n 1 50 rfl dX8_mixes_49 rfl rfl ?_
        refine v_aload_n 0 51 rfl dX8_mixes_50 rfl rfl ?_
        refine v_getr 54 rfl fl_X8_26 sc_0 rfl dX8_mixes_51 ?_
        refine v_iload_n 2 55 rfl dX8_mixes_54 rfl rfl ?_
        refine n_callv [.int a2] [.int a1, .ref 20] (fun r => .int r :: [.int a1, .ref 20]) 58 rfl (by omega) (Nat.le_of_ble_eq_true rfl) cb_X1_owner cv_X8_128 sc_20 cn_X1 rfl (Nat.le_of_ble_eq_true rfl) dX8_mixes_55 rfl (fun _ => rfl) (e1_owner_20 (by omega) a2 q4.2) (fun q6 => ?_)
        refine n_callv [.int a1, .int q6.1] [] (fun _ => []) 61 rfl (by omega) (Nat.le_of_ble_eq_true rfl) cb_X1_setOwner cv_X8_174 sc_20 cn_X1 rfl (Nat.le_of_ble_eq_true rfl) dX8_mixes_58 rfl (fun _ => rfl) (e1_setOwner_20 (by omega) a1 q6.1 q6.2) (fun q7 => ?_)
        refine v_aload_n 0 62 rfl dX8_mixes_61 rfl rfl ?_
        refine v_getr 65 rfl fl_X8_26 sc_0 rfl dX8_mixes_62 ?_
        refine v_iload_n 2 66 rfl dX8_mixes_65 rfl rfl ?_
        refine v_iload_n 3 67 rfl dX8_mixes_66 rfl rfl ?_
        refine n_callv [.int a2, .int x5] [] (fun _ => []) 70 rfl (by omega) (Nat.le_of_ble_eq_true rfl) cb_X1_setOwner cv_X8_174 sc_20 cn_X1 rfl (Nat.le_of_ble_eq_true rfl) dX8_mixes_67 rfl (fun _ => rfl) (e1_setOwner_20 (by omega) a2 x5 q7.2) (fun q8 => ?_)
        refine v_aload_n 0 71 rfl dX8_mixes_70 rfl rfl ?_
        refine v_getr 74 rfl fl_X8_26 sc_0 rfl dX8_mixes_71 ?_
        refine v_aload_n 0 75 rfl dX8_mixes_74 rfl rfl ?_
        refine v_getr 78 rfl fl_X8_10 sc_0 rfl dX8_mixes_75 ?_
        refine v_geti 81 rfl fl_X8_177 sc_1 rfl dX8_mixes_78 ?_
        refine n_callv [.int (q8.2.1 1 0)] [] (fun r => .int r :: []) 84 rfl (by omega) (Nat.le_of_ble_eq_true rfl) cb_X1_mixesToRight cv_X8_180 sc_20 cn_X1 rfl (Nat.le_of_ble_eq_true rfl) dX8_mixes_81 rfl (fun _ => rfl) (e1_mixesToRight_20 (by omega) (q8.2.1 1 0) q8.2) (fun q9 => ?_)
        exact v_iret rfl dX8_mixes_84
      · refine v_iconst 28 rfl dX8_mixes_27 ic_m1 ?_
        exact v_iret rfl dX8_mixes_28
-- TemperNurses$Course.year()I at 20
def f1_year_20 (h : jv_H) : Option (Int32 × jv_H) := (f1_cell_20 (0 : Int32) h).bind fun q1 => some (q1.1, q1.2)
set_option maxRecDepth 20000 in
theorem e1_year_20 {l : Launch} {d : Nat} {X : List jv_S} (hd : 1 ≤ d) (h : jv_H) : jv_E l yX1_year cX1_year 1 (some .int) d (SC ++ X) jv_ri [.ref 20] h (f1_year_20  h) := by
  refine e_of [(0, .ref 20)] rfl pn_X1 (fun _ => Nat.le_of_ble_eq_true rfl) (fun _ => rfl) ?_
  unfold f1_year_20
  refine v_aload_n 0 1 rfl dX1_year_0 rfl rfl ?_
  refine v_iconst 2 rfl dX1_year_1 ic_0 ?_
  refine n_callv [.int (0 : Int32)] [] (fun r => .int r :: []) 5 rfl (by omega) (Nat.le_of_ble_eq_true rfl) cb_X1_cell cv_X1_44 sc_20 cn_X1 rfl (Nat.le_of_ble_eq_true rfl) dX1_year_2 rfl (fun _ => rfl) (e1_cell_20 (by omega) (0 : Int32) h) (fun q1 => ?_)
  exact v_iret rfl dX1_year_5
-- TemperNurses$House.broken()I at 22
def g3_broken_22_b33 (k4 : Int32 → Int32 → jv_H → Option (Int32 × jv_H)) (a1 : Int32) (a2 : Int32) (h : jv_H) : Option (Int32 × jv_H) := jv_let (a2 + (1 : Int32)) fun x1 => k4 a1 x1 h
set_option maxRecDepth 20000 in
theorem b3_broken_22_b33 {l : Launch} {d : Nat} {X : List jv_S} (hd : 2 ≤ d) (k4 : Int32 → Int32 → jv_H → Option (Int32 × jv_H)) (hk4 : ∀ (a1 a2 : Int32) (h : jv_H), jv_V l RX3 cX3_broken 3 (some .int) d (SC ++ X) jv_ri 4 [(0, .ref 22), (1, .int a1), (2, .int a2)] [] h (k4 a1 a2 h)) : ∀ (a1 : Int32) (a2 : Int32) (h : jv_H), jv_V l RX3 cX3_broken 3 (some .int) d (SC ++ X) jv_ri 33 [(0, .ref 22), (1, .int a1), (2, .int a2)] [] h (g3_broken_22_b33 k4 a1 a2 h) := by
  intro a1 a2 h
  unfold g3_broken_22_b33
  refine n_iinc (fun x1 => [(0, .ref 22), (1, .int a1), (2, .int x1)]) 2 36 rfl dX3_broken_33 rfl ic_1 (Nat.le_of_ble_eq_true rfl) rfl (fun _ => rfl) (fun x1 => ?_)
  refine v_goto 4 rfl dX3_broken_36 ?_
  exact hk4 a1 x1 h
def g3_broken_22_b4 (k4 : Int32 → Int32 → jv_H → Option (Int32 × jv_H)) (a1 : Int32) (a2 : Int32) (h : jv_H) : Option (Int32 × jv_H) := if (h.1 1 0) ≤ a2 then some (a1, h) else (f1_heat_20 a2 h).bind fun q1 => if q1.1 = 0 then (f8_bit a2 q1.2).bind fun q2 => jv_let (a1 ||| q2.1) fun x3 => g3_broken_22_b33 k4 x3 a2 q2.2 else g3_broken_22_b33 k4 a1 a2 q1.2
set_option maxRecDepth 20000 in
theorem b3_broken_22_b4 {l : Launch} {d : Nat} {X : List jv_S} (hd : 2 ≤ d) (k4 : Int32 → Int32 → jv_H → Option (Int32 × jv_H)) (hk4 : ∀ (a1 a2 : Int32) (h : jv_H), jv_V l RX3 cX3_broken 3 (some .int) d (SC ++ X) jv_ri 4 [(0, .ref 22), (1, .int a1), (2, .int a2)] [] h (k4 a1 a2 h)) : ∀ (a1 : Int32) (a2 : Int32) (h : jv_H), jv_V l RX3 cX3_broken 3 (some .int) d (SC ++ X) jv_ri 4 [(0, .ref 22), (1, .int a1), (2, .int a2)] [] h (g3_broken_22_b4 k4 a1 a2 h) := by
  intro a1 a2 h
  unfold g3_broken_22_b4
  refine v_iload_n 2 5 rfl dX3_broken_4 rfl rfl ?_
  refine v_aload_n 0 6 rfl dX3_broken_5 rfl rfl ?_
  refine v_getr 9 rfl fl_X3_9 sc_22 rfl dX3_broken_6 ?_
  refine v_geti 12 rfl fl_X3_19 sc_1 rfl dX3_broken_9 ?_
  refine v_icmp_ge 39 15 rfl rfl dX3_broken_12 (fun _ => ?_) (fun _ => ?_)
  · refine v_iload_n 1 40 rfl dX3_broken_39 rfl rfl ?_
    exact v_iret rfl dX3_broken_40
  · refine v_aload_n 0 16 rfl dX3_broken_15 rfl rfl ?_
    refine v_getr 19 rfl fl_X3_15 sc_22 rfl dX3_broken_16 ?_
    refine v_iload_n 2 20 rfl dX3_broken_19 rfl rfl ?_
    refine n_callv [.int a2] [] (fun r => .int r :: []) 23 rfl (by omega) (Nat.le_of_ble_eq_true rfl) cb_X1_heat cv_X3_25 sc_20 cn_X1 rfl (Nat.le_of_ble_eq_true rfl) dX3_broken_20 rfl (fun _ => rfl) (e1_heat_20 (by omega) a2 h) (fun q1 => ?_)
    refine v_if_ne 33 26 rfl rfl dX3_broken_23 (fun _ => ?_) (fun _ => ?_)
    · exact b3_broken_22_b33 hd k4 hk4 a1 a2 q1.2
    · refine v_iload_n 1 27 rfl dX3_broken_26 rfl rfl ?_
      refine v_iload_n 2 28 rfl dX3_broken_27 rfl rfl ?_
      refine n_calln [.int a2] [.int a1] (fun r => .int r :: [.int a1]) 31 rfl (by omega) (Nat.le_of_ble_eq_true rfl) cb_X8_bit cn_X3_31 rfl (Nat.le_of_ble_eq_true rfl) dX3_broken_28 rfl (fun _ => rfl) (e8_bit (by omega) a2 q1.2) (fun q2 => ?_)
      refine v_ior 32 rfl dX3_broken_31 ?_
      refine n_istore_n (fun x3 => [(0, .ref 22), (1, .int x3), (2, .int a2)]) 33 rfl dX3_broken_32 rfl (Nat.le_of_ble_eq_true rfl) rfl (fun _ => rfl) (fun x3 => ?_)
      exact b3_broken_22_b33 hd k4 hk4 x3 a2 q2.2
def f3_broken_22_l4 : Nat → Int32 → Int32 → jv_H → Option (Int32 × jv_H)
  | 0 => fun _ _ _ => none
  | n + 1 => fun a1 a2 h => g3_broken_22_b4 (f3_broken_22_l4 n) a1 a2 h
theorem w3_broken_22_l4 {l : Launch} {d : Nat} {X : List jv_S} (hd : 2 ≤ d) : ∀ (n : Nat) (a1 : Int32) (a2 : Int32) (h : jv_H), jv_V l RX3 cX3_broken 3 (some .int) d (SC ++ X) jv_ri 4 [(0, .ref 22), (1, .int a1), (2, .int a2)] [] h (f3_broken_22_l4 n a1 a2 h) := by
  intro n
  induction n with
  | zero => intro a1 a2 h; exact v_none
  | succ n ih => intro a1 a2 h; exact b3_broken_22_b4 hd (f3_broken_22_l4 n) ih a1 a2 h
def f3_broken_22 (h : jv_H) : Option (Int32 × jv_H) := jv_let (0 : Int32) fun x1 => jv_let (0 : Int32) fun x2 => f3_broken_22_l4 jv_fuel x1 x2 h
set_option maxRecDepth 20000 in
theorem e3_broken_22 {l : Launch} {d : Nat} {X : List jv_S} (hd : 2 ≤ d) (h : jv_H) : jv_E l yX3_broken cX3_broken 3 (some .int) d (SC ++ X) jv_ri [.ref 22] h (f3_broken_22  h) := by
  refine e_of [(0, .ref 22)] rfl pn_X3 (fun _ => Nat.le_of_ble_eq_true rfl) (fun _ => rfl) ?_
  unfold f3_broken_22
  refine v_iconst 1 rfl dX3_broken_0 ic_0 ?_
  refine n_istore_n (fun x1 => [(0, .ref 22), (1, .int x1)]) 2 rfl dX3_broken_1 rfl (Nat.le_of_ble_eq_true rfl) rfl (fun _ => rfl) (fun x1 => ?_)
  refine v_iconst 3 rfl dX3_broken_2 ic_0 ?_
  refine n_istore_n (fun x2 => [(0, .ref 22), (1, .int x1), (2, .int x2)]) 4 rfl dX3_broken_3 rfl (Nat.le_of_ble_eq_true rfl) rfl (fun _ => rfl) (fun x2 => ?_)
  exact w3_broken_22_l4 hd jv_fuel x1 x2 h
-- TemperNurses$House.heatNextYear(III)I
def f3_heatNextYear (a0 : Int32) (a1 : Int32) (a2 : Int32) (h : jv_H) : Option (Int32 × jv_H) := if a0 = 0 then some ((0 : Int32), h) else some ((if (0 : Int32) < ((if (a0 + a1) < (99 : Int32) then (a0 + a1) else (99 : Int32)) - a2) then ((if (a0 + a1) < (99 : Int32) then (a0 + a1) else (99 : Int32)) - a2) else (0 : Int32)), h)
set_option maxRecDepth 20000 in
theorem e3_heatNextYear {l : Launch} {d : Nat} {X : List jv_S} (hd : 1 ≤ d) (a0 : Int32) (a1 : Int32) (a2 : Int32) (h : jv_H) : jv_E l yX3_heatNextYear cX3_heatNextYear 3 (some .int) d (SC ++ X) jv_ri [.int a0, .int a1, .int a2] h (f3_heatNextYear a0 a1 a2 h) := by
  refine e_of [(0, .int a0), (1, .int a1), (2, .int a2)] rfl pn_X3 (fun _ => Nat.le_of_ble_eq_true rfl) (fun _ => rfl) ?_
  unfold f3_heatNextYear
  refine v_iload_n 0 1 rfl dX3_heatNextYear_0 rfl rfl ?_
  refine v_if_ne 6 4 rfl rfl dX3_heatNextYear_1 (fun _ => ?_) (fun _ => ?_)
  · refine v_iconst 7 rfl dX3_heatNextYear_6 ic_0 ?_
    refine v_bipush 9 rfl dX3_heatNextYear_7 bp_99 ?_
    refine v_iload_n 0 10 rfl dX3_heatNextYear_9 rfl rfl ?_
    refine v_iload_n 1 11 rfl dX3_heatNextYear_10 rfl rfl ?_
    refine v_iadd 12 rfl dX3_heatNextYear_11 ?_
    refine v_mmin 15 rfl (by omega) (Nat.le_of_ble_eq_true rfl) mw_592 mw_593 mw_66 mw_594 dX3_heatNextYear_12 ?_
    refine v_iload_n 2 16 rfl dX3_heatNextYear_15 rfl rfl ?_
    refine v_isub 17 rfl dX3_heatNextYear_16 ?_
    refine v_mmax 20 rfl (by omega) (Nat.le_of_ble_eq_true rfl) mw_595 mw_596 mw_66 mw_597 dX3_heatNextYear_17 ?_
    exact v_iret rfl dX3_heatNextYear_20
  · refine v_iconst 5 rfl dX3_heatNextYear_4 ic_0 ?_
    exact v_iret rfl dX3_heatNextYear_5
-- TemperNurses$House.heatIn(II)I at 22
def g3_heatIn_22_b61 (k61 : Int32 → Int32 → Int32 → Int32 → Int32 → jv_H → Option (Int32 × jv_H)) (a1 : Int32) (a2 : Int32) (a4 : Int32) (a5 : Int32) (a6 : Int32) (h : jv_H) : Option (Int32 × jv_H) := if a2 ≤ a6 then some (a5, h) else if (99 : Int32) ≤ a6 then some (a5, h) else if jv_ix a1 6 then (f3_heatNextYear a5 (h.1 3 (Int32.toNatClampNeg a1)) a4 h).bind fun q1 => jv_let q1.1 fun x2 => jv_let (a6 + (1 : Int32)) fun x3 => k61 a1 a2 a4 x2 x3 q1.2 else none
set_option maxRecDepth 20000 in
theorem b3_heatIn_22_b61 {l : Launch} {d : Nat} {X : List jv_S} (hd : 2 ≤ d) (k61 : Int32 → Int32 → Int32 → Int32 → Int32 → jv_H → Option (Int32 × jv_H)) (hk61 : ∀ (a1 a2 a4 a5 a6 : Int32) (h : jv_H), jv_V l RX3 cX3_heatIn 7 (some .int) d (SC ++ X) jv_ri 61 [(0, .ref 22), (1, .int a1), (2, .int a2), (4, .int a4), (5, .int a5), (6, .int a6)] [] h (k61 a1 a2 a4 a5 a6 h)) : ∀ (a1 : Int32) (a2 : Int32) (a4 : Int32) (a5 : Int32) (a6 : Int32) (h : jv_H), jv_V l RX3 cX3_heatIn 7 (some .int) d (SC ++ X) jv_ri 61 [(0, .ref 22), (1, .int a1), (2, .int a2), (4, .int a4), (5, .int a5), (6, .int a6)] [] h (g3_heatIn_22_b61 k61 a1 a2 a4 a5 a6 h) := by
  intro a1 a2 a4 a5 a6 h
  unfold g3_heatIn_22_b61
  refine v_iload 5 63 rfl dX3_heatIn_61 rfl ?_
  refine v_iload_n 2 64 rfl dX3_heatIn_63 rfl rfl ?_
  refine v_icmp_ge 98 67 rfl rfl dX3_heatIn_64 (fun _ => ?_) (fun _ => ?_)
  · refine v_iload 4 100 rfl dX3_heatIn_98 rfl ?_
    exact v_iret rfl dX3_heatIn_100
  · refine v_iload 5 69 rfl dX3_heatIn_67 rfl ?_
    refine v_bipush 71 rfl dX3_heatIn_69 bp_99 ?_
    refine v_icmp_ge 98 74 rfl rfl dX3_heatIn_71 (fun _ => ?_) (fun _ => ?_)
    · refine v_iload 4 100 rfl dX3_heatIn_98 rfl ?_
      exact v_iret rfl dX3_heatIn_100
    · refine v_iload 4 76 rfl dX3_heatIn_74 rfl ?_
      refine v_aload_n 0 77 rfl dX3_heatIn_76 rfl rfl ?_
      refine v_getr 80 rfl fl_X3_9 sc_22 rfl dX3_heatIn_77 ?_
      refine v_getr 83 rfl fl_X3_73 sc_1 rfl dX3_heatIn_80 ?_
      refine v_iload_n 1 84 rfl dX3_heatIn_83 rfl rfl ?_
      refine v_iald 85 rfl sc_3 dX3_heatIn_84 (fun _ => ?_)
      refine v_iload 3 87 rfl dX3_heatIn_85 rfl ?_
      refine n_calls [.int a5, .int (h.1 3 (Int32.toNatClampNeg a1)), .int a4] [] (fun r => .int r :: []) 90 rfl (by omega) (Nat.le_of_ble_eq_true rfl) cb_X3_heatNextYear cs_X3_76 rfl (Nat.le_of_ble_eq_true rfl) dX3_heatIn_87 rfl (fun _ => rfl) (e3_heatNextYear (by omega) a5 (h.1 3 (Int32.toNatClampNeg a1)) a4 h) (fun q1 => ?_)
      refine n_istore (fun x2 => [(0, .ref 22), (1, .int a1), (2, .int a2), (4, .int a4), (5, .int x2), (6, .int a6)]) 92 rfl dX3_heatIn_90 (Nat.le_of_ble_eq_true rfl) rfl (fun _ => rfl) (fun x2 => ?_)
      refine n_iinc (fun x3 => [(0, .ref 22), (1, .int a1), (2, .int a2), (4, .int a4), (5, .int x2), (6, .int x3)]) 5 95 rfl dX3_heatIn_92 rfl ic_1 (Nat.le_of_ble_eq_true rfl) rfl (fun _ => rfl) (fun x3 => ?_)
      refine v_goto 61 rfl dX3_heatIn_95 ?_
      exact hk61 a1 a2 a4 x2 x3 q1.2
def f3_heatIn_22_l61 : Nat → Int32 → Int32 → Int32 → Int32 → Int32 → jv_H → Option (Int32 × jv_H)
  | 0 => fun _ _ _ _ _ _ => none
  | n + 1 => fun a1 a2 a4 a5 a6 h => g3_heatIn_22_b61 (f3_heatIn_22_l61 n) a1 a2 a4 a5 a6 h
theorem w3_heatIn_22_l61 {l : Launch} {d : Nat} {X : List jv_S} (hd : 2 ≤ d) : ∀ (n : Nat) (a1 : Int32) (a2 : Int32) (a4 : Int32) (a5 : Int32) (a6 : Int32) (h : jv_H), jv_V l RX3 cX3_heatIn 7 (some .int) d (SC ++ X) jv_ri 61 [(0, .ref 22), (1, .int a1), (2, .int a2), (4, .int a4), (5, .int a5), (6, .int a6)] [] h (f3_heatIn_22_l61 n a1 a2 a4 a5 a6 h) := by
  intro n
  induction n with
  | zero => intro a1 a2 a4 a5 a6 h; exact v_none
  | succ n ih => intro a1 a2 a4 a5 a6 h; exact b3_heatIn_22_b61 hd (f3_heatIn_22_l61 n) ih a1 a2 a4 a5 a6 h
def g3_heatIn_22_b46 (a1 : Int32) (a2 : Int32) (s0 : Int32) (h : jv_H) : Option (Int32 × jv_H) := jv_let s0 fun x1 => (f1_heat_20 a1 h).bind fun q2 => jv_let q2.1 fun x3 => jv_let (0 : Int32) fun x4 => f3_heatIn_22_l61 jv_fuel a1 a2 x1 x3 x4 q2.2
set_option maxRecDepth 20000 in
theorem b3_heatIn_22_b46 {l : Launch} {d : Nat} {X : List jv_S} (hd : 2 ≤ d) : ∀ (a1 : Int32) (a2 : Int32) (s0 : Int32) (h : jv_H), jv_V l RX3 cX3_heatIn 7 (some .int) d (SC ++ X) jv_ri 46 [(0, .ref 22), (1, .int a1), (2, .int a2)] [.int s0] h (g3_heatIn_22_b46 a1 a2 s0 h) := by
  intro a1 a2 s0 h
  unfold g3_heatIn_22_b46
  refine n_istore (fun x1 => [(0, .ref 22), (1, .int a1), (2, .int a2), (4, .int x1)]) 48 rfl dX3_heatIn_46 (Nat.le_of_ble_eq_true rfl) rfl (fun _ => rfl) (fun x1 => ?_)
  refine v_aload_n 0 49 rfl dX3_heatIn_48 rfl rfl ?_
  refine v_getr 52 rfl fl_X3_15 sc_22 rfl dX3_heatIn_49 ?_
  refine v_iload_n 1 53 rfl dX3_heatIn_52 rfl rfl ?_
  refine n_callv [.int a1] [] (fun r => .int r :: []) 56 rfl (by omega) (Nat.le_of_ble_eq_true rfl) cb_X1_heat cv_X3_25 sc_20 cn_X1 rfl (Nat.le_of_ble_eq_true rfl) dX3_heatIn_53 rfl (fun _ => rfl) (e1_heat_20 (by omega) a1 h) (fun q2 => ?_)
  refine n_istore (fun x3 => [(0, .ref 22), (1, .int a1), (2, .int a2), (4, .int x1), (5, .int x3)]) 58 rfl dX3_heatIn_56 (Nat.le_of_ble_eq_true rfl) rfl (fun _ => rfl) (fun x3 => ?_)
  refine v_iconst 59 rfl dX3_heatIn_58 ic_0 ?_
  refine n_istore (fun x4 => [(0, .ref 22), (1, .int a1), (2, .int a2), (4, .int x1), (5, .int x3), (6, .int x4)]) 61 rfl dX3_heatIn_59 (Nat.le_of_ble_eq_true rfl) rfl (fun _ => rfl) (fun x4 => ?_)
  exact w3_heatIn_22_l61 hd jv_fuel a1 a2 x1 x3 x4 q2.2
def f3_heatIn_22 (a1 : Int32) (a2 : Int32) (h : jv_H) : Option (Int32 × jv_H) := (f2_hasTemper_1 a1 h).bind fun q1 => if q1.1 = 0 then some ((0 : Int32), q1.2) else (f1_place_20 a1 q1.2).bind fun q2 => jv_let q2.1 fun x3 => (f2_hasNurse_1 x3 q2.2).bind fun q4 => if q4.1 = 0 then g3_heatIn_22_b46 a1 a2 (0 : Int32) q4.2 else if jv_ix x3 4 then g3_heatIn_22_b46 a1 a2 (q4.2.1 6 (Int32.toNatClampNeg x3)) q4.2 else none
set_option maxRecDepth 20000 in
theorem e3_heatIn_22 {l : Launch} {d : Nat} {X : List jv_S} (hd : 2 ≤ d) (a1 : Int32) (a2 : Int32) (h : jv_H) : jv_E l yX3_heatIn cX3_heatIn 7 (some .int) d (SC ++ X) jv_ri [.ref 22, .int a1, .int a2] h (f3_heatIn_22 a1 a2 h) := by
  refine e_of [(0, .ref 22), (1, .int a1), (2, .int a2)] rfl pn_X3 (fun _ => Nat.le_of_ble_eq_true rfl) (fun _ => rfl) ?_
  unfold f3_heatIn_22
  refine v_aload_n 0 1 rfl dX3_heatIn_0 rfl rfl ?_
  refine v_getr 4 rfl fl_X3_9 sc_22 rfl dX3_heatIn_1 ?_
  refine v_iload_n 1 5 rfl dX3_heatIn_4 rfl rfl ?_
  refine n_callv [.int a1] [] (fun r => .int r :: []) 8 rfl (by omega) (Nat.le_of_ble_eq_true rfl) cb_X2_hasTemper cv_X3_48 sc_1 cn_X2 rfl (Nat.le_of_ble_eq_true rfl) dX3_heatIn_5 rfl (fun _ => rfl) (e2_hasTemper_1 (by omega) a1 h) (fun q1 => ?_)
  refine v_if_ne 13 11 rfl rfl dX3_heatIn_8 (fun _ => ?_) (fun _ => ?_)
  · refine v_aload_n 0 14 rfl dX3_heatIn_13 rfl rfl ?_
    refine v_getr 17 rfl fl_X3_15 sc_22 rfl dX3_heatIn_14 ?_
    refine v_iload_n 1 18 rfl dX3_heatIn_17 rfl rfl ?_
    refine n_callv [.int a1] [] (fun r => .int r :: []) 21 rfl (by omega) (Nat.le_of_ble_eq_true rfl) cb_X1_place cv_X3_34 sc_20 cn_X1 rfl (Nat.le_of_ble_eq_true rfl) dX3_heatIn_18 rfl (fun _ => rfl) (e1_place_20 (by omega) a1 q1.2) (fun q2 => ?_)
    refine n_istore_n (fun x3 => [(0, .ref 22), (1, .int a1), (2, .int a2), (3, .int x3)]) 22 rfl dX3_heatIn_21 rfl (Nat.le_of_ble_eq_true rfl) rfl (fun _ => rfl) (fun x3 => ?_)
    refine v_aload_n 0 23 rfl dX3_heatIn_22 rfl rfl ?_
    refine v_getr 26 rfl fl_X3_9 sc_22 rfl dX3_heatIn_23 ?_
    refine v_iload_n 3 27 rfl dX3_heatIn_26 rfl rfl ?_
    refine n_callv [.int x3] [] (fun r => .int r :: []) 30 rfl (by omega) (Nat.le_of_ble_eq_true rfl) cb_X2_hasNurse cv_X3_52 sc_1 cn_X2 rfl (Nat.le_of_ble_eq_true rfl) dX3_heatIn_27 rfl (fun _ => rfl) (e2_hasNurse_1 (by omega) x3 q2.2) (fun q4 => ?_)
    refine v_if_eq 45 33 rfl rfl dX3_heatIn_30 (fun _ => ?_) (fun _ => ?_)
    · refine v_iconst 46 rfl dX3_heatIn_45 ic_0 ?_
      refine v_sub [0, 1, 2] rfl ?_
      exact b3_heatIn_22_b46 hd a1 a2 (0 : Int32) q4.2
    · refine v_aload_n 0 34 rfl dX3_heatIn_33 rfl rfl ?_
      refine v_getr 37 rfl fl_X3_9 sc_22 rfl dX3_heatIn_34 ?_
      refine v_getr 40 rfl fl_X3_70 sc_1 rfl dX3_heatIn_37 ?_
      refine v_iload_n 3 41 rfl dX3_heatIn_40 rfl rfl ?_
      refine v_iald 42 rfl sc_6 dX3_heatIn_41 (fun _ => ?_)
      refine v_goto 46 rfl dX3_heatIn_42 ?_
      refine v_sub [0, 1, 2] rfl ?_
      exact b3_heatIn_22_b46 hd a1 a2 (q4.2.1 6 (Int32.toNatClampNeg x3)) q4.2
  · refine v_iconst 12 rfl dX3_heatIn_11 ic_0 ?_
    exact v_iret rfl dX3_heatIn_12
-- TemperNurses.years(I)I at 0
def g8_years_0_b38 (k38 : Int32 → Int32 → jv_H → Option (Int32 × jv_H)) (a1 : Int32) (a2 : Int32) (h : jv_H) : Option (Int32 × jv_H) := if (h.1 1 0) ≤ a2 then (f1_year_20 h).bind fun q1 => (f1_setYear_20 (q1.1 + a1) q1.2).bind fun q2 => (f3_broken_22 q2.2).bind fun q3 => (fj6_bitCount_0f7a4 q3.1 q3.2).bind fun q4 => some (q4.1, q4.2) else (f3_heatIn_22 a2 a1 h).bind fun q5 => (f1_setHeat_20 a2 q5.1 q5.2).bind fun q6 => jv_let (a2 + (1 : Int32)) fun x7 => k38 a1 x7 q6.2
set_option maxRecDepth 20000 in
theorem b8_years_0_b38 {l : Launch} {d : Nat} {X : List jv_S} (hd : 3 ≤ d) (k38 : Int32 → Int32 → jv_H → Option (Int32 × jv_H)) (hk38 : ∀ (a1 a2 : Int32) (h : jv_H), jv_V l RX8 cX8_years 3 (some .int) d (SC ++ X) jv_ri 38 [(0, .ref 0), (1, .int a1), (2, .int a2)] [] h (k38 a1 a2 h)) : ∀ (a1 : Int32) (a2 : Int32) (h : jv_H), jv_V l RX8 cX8_years 3 (some .int) d (SC ++ X) jv_ri 38 [(0, .ref 0), (1, .int a1), (2, .int a2)] [] h (g8_years_0_b38 k38 a1 a2 h) := by
  intro a1 a2 h
  unfold g8_years_0_b38
  refine v_iload_n 2 39 rfl dX8_years_38 rfl rfl ?_
  refine v_aload_n 0 40 rfl dX8_years_39 rfl rfl ?_
  refine v_getr 43 rfl fl_X8_10 sc_0 rfl dX8_years_40 ?_
  refine v_geti 46 rfl fl_X8_177 sc_1 rfl dX8_years_43 ?_
  refine v_icmp_ge 72 49 rfl rfl dX8_years_46 (fun _ => ?_) (fun _ => ?_)
  · refine v_aload_n 0 73 rfl dX8_years_72 rfl rfl ?_
    refine v_getr 76 rfl fl_X8_26 sc_0 rfl dX8_years_73 ?_
    refine v_aload_n 0 77 rfl dX8_years_76 rfl rfl ?_
    refine v_getr 80 rfl fl_X8_26 sc_0 rfl dX8_years_77 ?_
    refine n_callv [] [.ref 20] (fun r => .int r :: [.ref 20]) 83 rfl (by omega) (Nat.le_of_ble_eq_true rfl) cb_X1_year cv_X8_183 sc_20 cn_X1 rfl (Nat.le_of_ble_eq_true rfl) dX8_years_80 rfl (fun _ => rfl) (e1_year_20 (by omega)  h) (fun q1 => ?_)
    refine v_iload_n 1 84 rfl dX8_years_83 rfl rfl ?_
    refine v_iadd 85 rfl dX8_years_84 ?_
    refine n_callv [.int (q1.1 + a1)] [] (fun _ => []) 88 rfl (by omega) (Nat.le_of_ble_eq_true rfl) cb_X1_setYear cv_X8_190 sc_20 cn_X1 rfl (Nat.le_of_ble_eq_true rfl) dX8_years_85 rfl (fun _ => rfl) (e1_setYear_20 (by omega) (q1.1 + a1) q1.2) (fun q2 => ?_)
    refine v_aload_n 0 89 rfl dX8_years_88 rfl rfl ?_
    refine v_getr 92 rfl fl_X8_35 sc_0 rfl dX8_years_89 ?_
    refine n_callv [] [] (fun r => .int r :: []) 95 rfl (by omega) (Nat.le_of_ble_eq_true rfl) cb_X3_broken cv_X8_194 sc_22 cn_X3 rfl (Nat.le_of_ble_eq_true rfl) dX8_years_92 rfl (fun _ => rfl) (e3_broken_22 (by omega)  q2.2) (fun q3 => ?_)
    refine n_calls [.int q3.1] [] (fun r => .int r :: []) 98 rfl (by omega) (Nat.le_of_ble_eq_true rfl) cb_J6_bitCount_0f7a4 cs_X8_166 rfl (Nat.le_of_ble_eq_true rfl) dX8_years_95 rfl (fun _ => rfl) (ej6_bitCount_0f7a4 (by omega) q3.1 q3.2) (fun q4 => ?_)
    exact v_iret rfl dX8_years_98
  · refine v_aload_n 0 50 rfl dX8_years_49 rfl rfl ?_
    refine v_getr 53 rfl fl_X8_26 sc_0 rfl dX8_years_50 ?_
    refine v_iload_n 2 54 rfl dX8_years_53 rfl rfl ?_
    refine v_aload_n 0 55 rfl dX8_years_54 rfl rfl ?_
    refine v_getr 58 rfl fl_X8_35 sc_0 rfl dX8_years_55 ?_
    refine v_iload_n 2 59 rfl dX8_years_58 rfl rfl ?_
    refine v_iload_n 1 60 rfl dX8_years_59 rfl rfl ?_
    refine n_callv [.int a2, .int a1] [.int a2, .ref 20] (fun r => .int r :: [.int a2, .ref 20]) 63 rfl (by omega) (Nat.le_of_ble_eq_true rfl) cb_X3_heatIn cv_X8_186 sc_22 cn_X3 rfl (Nat.le_of_ble_eq_true rfl) dX8_years_60 rfl (fun _ => rfl) (e3_heatIn_22 (by omega) a2 a1 h) (fun q5 => ?_)
    refine n_callv [.int a2, .int q5.1] [] (fun _ => []) 66 rfl (by omega) (Nat.le_of_ble_eq_true rfl) cb_X1_setHeat cv_X8_171 sc_20 cn_X1 rfl (Nat.le_of_ble_eq_true rfl) dX8_years_63 rfl (fun _ => rfl) (e1_setHeat_20 (by omega) a2 q5.1 q5.2) (fun q6 => ?_)
    refine n_iinc (fun x7 => [(0, .ref 0), (1, .int a1), (2, .int x7)]) 2 69 rfl dX8_years_66 rfl ic_1 (Nat.le_of_ble_eq_true rfl) rfl (fun _ => rfl) (fun x7 => ?_)
    refine v_goto 38 rfl dX8_years_69 ?_
    exact hk38 a1 x7 q6.2
def f8_years_0_l38 : Nat → Int32 → Int32 → jv_H → Option (Int32 × jv_H)
  | 0 => fun _ _ _ => none
  | n + 1 => fun a1 a2 h => g8_years_0_b38 (f8_years_0_l38 n) a1 a2 h
theorem w8_years_0_l38 {l : Launch} {d : Nat} {X : List jv_S} (hd : 3 ≤ d) : ∀ (n : Nat) (a1 : Int32) (a2 : Int32) (h : jv_H), jv_V l RX8 cX8_years 3 (some .int) d (SC ++ X) jv_ri 38 [(0, .ref 0), (1, .int a1), (2, .int a2)] [] h (f8_years_0_l38 n a1 a2 h) := by
  intro n
  induction n with
  | zero => intro a1 a2 h; exact v_none
  | succ n ih => intro a1 a2 h; exact b8_years_0_b38 hd (f8_years_0_l38 n) ih a1 a2 h
def f8_years_0 (a1 : Int32) (h : jv_H) : Option (Int32 × jv_H) := (f8_isWithin a1 (1 : Int32) (9 : Int32) h).bind fun q1 => if q1.1 = 0 then some ((-1 : Int32), q1.2) else (f1_year_20 q1.2).bind fun q2 => if (q2.1 + a1) ≤ (99 : Int32) then (f1_remember_20 q2.2).bind fun q3 => jv_let (0 : Int32) fun x4 => f8_years_0_l38 jv_fuel a1 x4 q3.2 else some ((-2 : Int32), q2.2)
set_option maxRecDepth 20000 in
theorem e8_years_0 {l : Launch} {d : Nat} {X : List jv_S} (hd : 3 ≤ d) (a1 : Int32) (h : jv_H) : jv_E l yX8_years cX8_years 3 (some .int) d (SC ++ X) jv_ri [.ref 0, .int a1] h (f8_years_0 a1 h) := by
  refine e_of [(0, .ref 0), (1, .int a1)] rfl pn_X8 (fun _ => Nat.le_of_ble_eq_true rfl) (fun _ => rfl) ?_
  unfold f8_years_0
  refine v_iload_n 1 1 rfl dX8_years_0 rfl rfl ?_
  refine v_iconst 2 rfl dX8_years_1 ic_1 ?_
  refine v_bipush 4 rfl dX8_years_2 bp_9 ?_
  refine n_calls [.int a1, .int (1 : Int32), .int (9 : Int32)] [] (fun r => .int r :: []) 7 rfl (by omega) (Nat.le_of_ble_eq_true rfl) cb_X8_isWithin cs_X8_83 rfl (Nat.le_of_ble_eq_true rfl) dX8_years_4 rfl (fun _ => rfl) (e8_isWithin (by omega) a1 (1 : Int32) (9 : Int32) h) (fun q1 => ?_)
  refine v_if_ne 12 10 rfl rfl dX8_years_7 (fun _ => ?_) (fun _ => ?_)
  · refine v_aload_n 0 13 rfl dX8_years_12 rfl rfl ?_
    refine v_getr 16 rfl fl_X8_26 sc_0 rfl dX8_years_13 ?_
    refine n_callv [] [] (fun r => .int r :: []) 19 rfl (by omega) (Nat.le_of_ble_eq_true rfl) cb_X1_year cv_X8_183 sc_20 cn_X1 rfl (Nat.le_of_ble_eq_true rfl) dX8_years_16 rfl (fun _ => rfl) (e1_year_20 (by omega)  q1.2) (fun q2 => ?_)
    refine v_iload_n 1 20 rfl dX8_years_19 rfl rfl ?_
    refine v_iadd 21 rfl dX8_years_20 ?_
    refine v_bipush 23 rfl dX8_years_21 bp_99 ?_
    refine v_icmp_le 29 26 rfl rfl dX8_years_23 (fun _ => ?_) (fun _ => ?_)
    · refine v_aload_n 0 30 rfl dX8_years_29 rfl rfl ?_
      refine v_getr 33 rfl fl_X8_26 sc_0 rfl dX8_years_30 ?_
      refine n_callv [] [] (fun _ => []) 36 rfl (by omega) (Nat.le_of_ble_eq_true rfl) cb_X1_remember cv_X8_159 sc_20 cn_X1 rfl (Nat.le_of_ble_eq_true rfl) dX8_years_33 rfl (fun _ => rfl) (e1_remember_20 (by omega)  q2.2) (fun q3 => ?_)
      refine v_iconst 37 rfl dX8_years_36 ic_0 ?_
      refine n_istore_n (fun x4 => [(0, .ref 0), (1, .int a1), (2, .int x4)]) 38 rfl dX8_years_37 rfl (Nat.le_of_ble_eq_true rfl) rfl (fun _ => rfl) (fun x4 => ?_)
      exact w8_years_0_l38 hd jv_fuel a1 x4 q3.2
    · refine v_bipush 28 rfl dX8_years_26 bp_m2 ?_
      exact v_iret rfl dX8_years_28
  · refine v_iconst 11 rfl dX8_years_10 ic_m1 ?_
    exact v_iret rfl dX8_years_11
-- TemperNurses$Course.stepBack()Z at 20
def f1_stepBack_20 (h : jv_H) : Option (Int32 × jv_H) := if 0 < (h.1 20 1) then jv_let (jv_p h 20 1 ((h.1 20 1) - (1 : Int32))) fun h1 => some ((1 : Int32), h1) else some ((0 : Int32), h)
set_option maxRecDepth 20000 in
theorem e1_stepBack_20 {l : Launch} {d : Nat} {X : List jv_S} (hd : 0 ≤ d) (h : jv_H) : jv_E l yX1_stepBack cX1_stepBack 1 (some .boolean) d (SC ++ X) jv_ri [.ref 20] h (f1_stepBack_20  h) := by
  refine e_of [(0, .ref 20)] rfl pn_X1 (fun _ => Nat.le_of_ble_eq_true rfl) (fun _ => rfl) ?_
  unfold f1_stepBack_20
  refine v_aload_n 0 1 rfl dX1_stepBack_0 rfl rfl ?_
  refine v_geti 4 rfl fl_X1_15 sc_20 rfl dX1_stepBack_1 ?_
  refine v_if_gt 9 7 rfl rfl dX1_stepBack_4 (fun _ => ?_) (fun _ => ?_)
  · refine v_aload_n 0 10 rfl dX1_stepBack_9 rfl rfl ?_
    refine v_dupr 11 rfl dX1_stepBack_10 ?_
    refine v_geti 14 rfl fl_X1_15 sc_20 rfl dX1_stepBack_11 ?_
    refine v_iconst 15 rfl dX1_stepBack_14 ic_1 ?_
    refine v_isub 16 rfl dX1_stepBack_15 ?_
    refine n_puti 19 rfl fl_X1_15 sc_20 rfl dX1_stepBack_16 (fun h1 => ?_)
    refine v_iconst 20 rfl dX1_stepBack_19 ic_1 ?_
    exact v_zr1 dX1_stepBack_20
  · refine v_iconst 8 rfl dX1_stepBack_7 ic_0 ?_
    exact v_zr0 dX1_stepBack_8
-- TemperNurses.undo()I at 0
def f8_undo_0 (h : jv_H) : Option (Int32 × jv_H) := (f1_stepBack_20 h).bind fun q1 => if q1.1 = 0 then some ((-2 : Int32), q1.2) else some ((q1.2.1 20 1), q1.2)
set_option maxRecDepth 20000 in
theorem e8_undo_0 {l : Launch} {d : Nat} {X : List jv_S} (hd : 1 ≤ d) (h : jv_H) : jv_E l yX8_undo cX8_undo 1 (some .int) d (SC ++ X) jv_ri [.ref 0] h (f8_undo_0  h) := by
  refine e_of [(0, .ref 0)] rfl pn_X8 (fun _ => Nat.le_of_ble_eq_true rfl) (fun _ => rfl) ?_
  unfold f8_undo_0
  refine v_aload_n 0 1 rfl dX8_undo_0 rfl rfl ?_
  refine v_getr 4 rfl fl_X8_26 sc_0 rfl dX8_undo_1 ?_
  refine n_callv [] [] (fun r => .int r :: []) 7 rfl (by omega) (Nat.le_of_ble_eq_true rfl) cb_X1_stepBack cv_X8_197 sc_20 cn_X1 rfl (Nat.le_of_ble_eq_true rfl) dX8_undo_4 rfl (fun _ => rfl) (e1_stepBack_20 (by omega)  h) (fun q1 => ?_)
  refine v_if_eq 20 10 rfl rfl dX8_undo_7 (fun _ => ?_) (fun _ => ?_)
  · refine v_bipush 22 rfl dX8_undo_20 bp_m2 ?_
    exact v_iret rfl dX8_undo_22
  · refine v_aload_n 0 11 rfl dX8_undo_10 rfl rfl ?_
    refine v_getr 14 rfl fl_X8_26 sc_0 rfl dX8_undo_11 ?_
    refine v_geti 17 rfl fl_X8_201 sc_20 rfl dX8_undo_14 ?_
    refine v_goto 22 rfl dX8_undo_17 ?_
    exact v_iret rfl dX8_undo_22
-- java/util/Arrays.fill([II)V at 25
def gj7_fill_53178_25_b5 (k5 : Int32 → Int32 → Int32 → jv_H → Option (Unit × jv_H)) (a1 : Int32) (a2 : Int32) (a3 : Int32) (h : jv_H) : Option (Unit × jv_H) := if a3 ≤ a2 then some ((), h) else if jv_ix a2 4 then jv_let (jv_p h 25 (Int32.toNatClampNeg a2) a1) fun h1 => jv_let (a2 + (1 : Int32)) fun x2 => k5 a1 x2 a3 h1 else none
set_option maxRecDepth 20000 in
theorem bj7_fill_53178_25_b5 {l : Launch} {d : Nat} {X : List jv_S} (hd : 0 ≤ d) (k5 : Int32 → Int32 → Int32 → jv_H → Option (Unit × jv_H)) (hk5 : ∀ (a1 a2 a3 : Int32) (h : jv_H), jv_V l RJ7 cJ7_fill_53178 4 none d (SC ++ X) jv_rv 5 [(0, .ref 25), (1, .int a1), (2, .int a2), (3, .int a3)] [] h (k5 a1 a2 a3 h)) : ∀ (a1 : Int32) (a2 : Int32) (a3 : Int32) (h : jv_H), jv_V l RJ7 cJ7_fill_53178 4 none d (SC ++ X) jv_rv 5 [(0, .ref 25), (1, .int a1), (2, .int a2), (3, .int a3)] [] h (gj7_fill_53178_25_b5 k5 a1 a2 a3 h) := by
  intro a1 a2 a3 h
  unfold gj7_fill_53178_25_b5
  refine v_iload_n 2 6 rfl dJ7_fill_53178_5 rfl rfl ?_
  refine v_iload_n 3 7 rfl dJ7_fill_53178_6 rfl rfl ?_
  refine v_icmp_ge 20 10 rfl rfl dJ7_fill_53178_7 (fun _ => ?_) (fun _ => ?_)
  · exact v_vret rfl dJ7_fill_53178_20
  · refine v_aload_n 0 11 rfl dJ7_fill_53178_10 rfl rfl ?_
    refine v_iload_n 2 12 rfl dJ7_fill_53178_11 rfl rfl ?_
    refine v_iload_n 1 13 rfl dJ7_fill_53178_12 rfl rfl ?_
    refine n_iast 14 rfl sc_25 dJ7_fill_53178_13 (fun h1 => ?_)
    refine n_iinc (fun x2 => [(0, .ref 25), (1, .int a1), (2, .int x2), (3, .int a3)]) 2 17 rfl dJ7_fill_53178_14 rfl ic_1 (Nat.le_of_ble_eq_true rfl) rfl (fun _ => rfl) (fun x2 => ?_)
    refine v_goto 5 rfl dJ7_fill_53178_17 ?_
    exact hk5 a1 x2 a3 h1
def fj7_fill_53178_25_l5 : Nat → Int32 → Int32 → Int32 → jv_H → Option (Unit × jv_H)
  | 0 => fun _ _ _ _ => none
  | n + 1 => fun a1 a2 a3 h => gj7_fill_53178_25_b5 (fj7_fill_53178_25_l5 n) a1 a2 a3 h
theorem wj7_fill_53178_25_l5 {l : Launch} {d : Nat} {X : List jv_S} (hd : 0 ≤ d) : ∀ (n : Nat) (a1 : Int32) (a2 : Int32) (a3 : Int32) (h : jv_H), jv_V l RJ7 cJ7_fill_53178 4 none d (SC ++ X) jv_rv 5 [(0, .ref 25), (1, .int a1), (2, .int a2), (3, .int a3)] [] h (fj7_fill_53178_25_l5 n a1 a2 a3 h) := by
  intro n
  induction n with
  | zero => intro a1 a2 a3 h; exact v_none
  | succ n ih => intro a1 a2 a3 h; exact bj7_fill_53178_25_b5 hd (fj7_fill_53178_25_l5 n) ih a1 a2 a3 h
def fj7_fill_53178_25 (a1 : Int32) (h : jv_H) : Option (Unit × jv_H) := jv_let (0 : Int32) fun x1 => jv_let (4 : Int32) fun x2 => fj7_fill_53178_25_l5 jv_fuel a1 x1 x2 h
set_option maxRecDepth 20000 in
theorem ej7_fill_53178_25 {l : Launch} {d : Nat} {X : List jv_S} (hd : 0 ≤ d) (a1 : Int32) (h : jv_H) : jv_E l yJ7_fill_53178 cJ7_fill_53178 4 none d (SC ++ X) jv_rv [.ref 25, .int a1] h (fj7_fill_53178_25 a1 h) := by
  refine e_of [(0, .ref 25), (1, .int a1)] rfl pn_J7 (fun _ => Nat.le_of_ble_eq_true rfl) (fun _ => rfl) ?_
  unfold fj7_fill_53178_25
  refine v_iconst 1 rfl dJ7_fill_53178_0 ic_0 ?_
  refine n_istore_n (fun x1 => [(0, .ref 25), (1, .int a1), (2, .int x1)]) 2 rfl dJ7_fill_53178_1 rfl (Nat.le_of_ble_eq_true rfl) rfl (fun _ => rfl) (fun x1 => ?_)
  refine v_aload_n 0 3 rfl dJ7_fill_53178_2 rfl rfl ?_
  refine v_alen (v := (4 : Int32)) 4 rfl sc_25 rfl dJ7_fill_53178_3 ?_
  refine n_istore_n (fun x2 => [(0, .ref 25), (1, .int a1), (2, .int x1), (3, .int x2)]) 5 rfl dJ7_fill_53178_4 rfl (Nat.le_of_ble_eq_true rfl) rfl (fun _ => rfl) (fun x2 => ?_)
  exact wj7_fill_53178_25_l5 hd jv_fuel a1 x1 x2 h
-- TemperNurses$Planner.tryYears(II)V at 23
def g6_tryYears_23_b162 (self : Int32 → Int32 → jv_H → Option (Unit × jv_H)) (k60 : Int32 → Int32 → Int32 → jv_H → Option (Unit × jv_H)) (a1 : Int32) (a2 : Int32) (a3 : Int32) (h : jv_H) : Option (Unit × jv_H) := jv_let (a3 + (1 : Int32)) fun x1 => k60 a1 a2 x1 h
set_option maxRecDepth 20000 in
theorem b6_tryYears_23_b162 {l : Launch} {d : Nat} {X : List jv_S} (hd : 3 ≤ d) (self : Int32 → Int32 → jv_H → Option (Unit × jv_H)) (hself : ∀ (a1 : Int32) (a2 : Int32) (h : jv_H), jv_E l yX6_tryYears cX6_tryYears 6 none (d - 1) (SC ++ X) jv_rv [.ref 23, .int a1, .int a2] h (self a1 a2 h)) (k60 : Int32 → Int32 → Int32 → jv_H → Option (Unit × jv_H)) (hk60 : ∀ (a1 a2 a3 : Int32) (h : jv_H), jv_V l RX6 cX6_tryYears 6 none d (SC ++ X) jv_rv 60 [(0, .ref 23), (1, .int a1), (2, .int a2), (3, .int a3)] [] h (k60 a1 a2 a3 h)) : ∀ (a1 : Int32) (a2 : Int32) (a3 : Int32) (h : jv_H), jv_V l RX6 cX6_tryYears 6 none d (SC ++ X) jv_rv 162 [(0, .ref 23), (1, .int a1), (2, .int a2), (3, .int a3)] [] h (g6_tryYears_23_b162 self k60 a1 a2 a3 h) := by
  intro a1 a2 a3 h
  unfold g6_tryYears_23_b162
  refine n_iinc (fun x1 => [(0, .ref 23), (1, .int a1), (2, .int a2), (3, .int x1)]) 3 165 rfl dX6_tryYears_162 rfl ic_1 (Nat.le_of_ble_eq_true rfl) rfl (fun _ => rfl) (fun x1 => ?_)
  refine v_goto 60 rfl dX6_tryYears_165 ?_
  exact hk60 a1 a2 x1 h
def g6_tryYears_23_b60 (self : Int32 → Int32 → jv_H → Option (Unit × jv_H)) (k60 : Int32 → Int32 → Int32 → jv_H → Option (Unit × jv_H)) (a1 : Int32) (a2 : Int32) (a3 : Int32) (h : jv_H) : Option (Unit × jv_H) := if (h.1 1 1) ≤ a3 then some ((), h) else if jv_ix a3 4 then jv_let (h.1 25 (Int32.toNatClampNeg a3)) fun x1 => if jv_ix ((a3 * (6 : Int32)) + a1) 24 then jv_let (h.1 26 (Int32.toNatClampNeg ((a3 * (6 : Int32)) + a1))) fun x2 => if x2 = (-9 : Int32) then g6_tryYears_23_b162 self k60 a1 a2 a3 h else if (h.1 23 4) ≤ x2 then g6_tryYears_23_b162 self k60 a1 a2 a3 h else (f3_mayjoin_22 a1 a3 x1 h).bind fun q3 => if q3.1 = 0 then g6_tryYears_23_b162 self k60 a1 a2 a3 q3.2 else (f8_bit a1 q3.2).bind fun q4 => if jv_ix a3 4 then jv_let (jv_p q4.2 25 (Int32.toNatClampNeg a3) (x1 ||| q4.1)) fun h5 => (self (a1 + (1 : Int32)) (if a2 < x2 then x2 else a2) h5).bind fun q6 => if jv_ix a3 4 then jv_let (jv_p q6.2 25 (Int32.toNatClampNeg a3) x1) fun h7 => g6_tryYears_23_b162 self k60 a1 a2 a3 h7 else none else none else none else none
set_option maxRecDepth 20000 in
theorem b6_tryYears_23_b60 {l : Launch} {d : Nat} {X : List jv_S} (hd : 3 ≤ d) (self : Int32 → Int32 → jv_H → Option (Unit × jv_H)) (hself : ∀ (a1 : Int32) (a2 : Int32) (h : jv_H), jv_E l yX6_tryYears cX6_tryYears 6 none (d - 1) (SC ++ X) jv_rv [.ref 23, .int a1, .int a2] h (self a1 a2 h)) (k60 : Int32 → Int32 → Int32 → jv_H → Option (Unit × jv_H)) (hk60 : ∀ (a1 a2 a3 : Int32) (h : jv_H), jv_V l RX6 cX6_tryYears 6 none d (SC ++ X) jv_rv 60 [(0, .ref 23), (1, .int a1), (2, .int a2), (3, .int a3)] [] h (k60 a1 a2 a3 h)) : ∀ (a1 : Int32) (a2 : Int32) (a3 : Int32) (h : jv_H), jv_V l RX6 cX6_tryYears 6 none d (SC ++ X) jv_rv 60 [(0, .ref 23), (1, .int a1), (2, .int a2), (3, .int a3)] [] h (g6_tryYears_23_b60 self k60 a1 a2 a3 h) := by
  intro a1 a2 a3 h
  unfold g6_tryYears_23_b60
  refine v_iload_n 3 61 rfl dX6_tryYears_60 rfl rfl ?_
  refine v_aload_n 0 62 rfl dX6_tryYears_61 rfl rfl ?_
  refine v_getr 65 rfl fl_X6_24 sc_23 rfl dX6_tryYears_62 ?_
  refine v_getr 68 rfl fl_X6_42 sc_22 rfl dX6_tryYears_65 ?_
  refine v_geti 71 rfl fl_X6_53 sc_1 rfl dX6_tryYears_68 ?_
  refine v_icmp_ge 168 74 rfl rfl dX6_tryYears_71 (fun _ => ?_) (fun _ => ?_)
  · exact v_vret rfl dX6_tryYears_168
  · refine v_aload_n 0 75 rfl dX6_tryYears_74 rfl rfl ?_
    refine v_getr 78 rfl fl_X6_15 sc_23 rfl dX6_tryYears_75 ?_
    refine v_iload_n 3 79 rfl dX6_tryYears_78 rfl rfl ?_
    refine v_iald 80 rfl sc_25 dX6_tryYears_79 (fun _ => ?_)
    refine n_istore (fun x1 => [(0, .ref 23), (1, .int a1), (2, .int a2), (3, .int a3), (4, .int x1)]) 82 rfl dX6_tryYears_80 (Nat.le_of_ble_eq_true rfl) rfl (fun _ => rfl) (fun x1 => ?_)
    refine v_aload_n 0 83 rfl dX6_tryYears_82 rfl rfl ?_
    refine v_getr 86 rfl fl_X6_18 sc_23 rfl dX6_tryYears_83 ?_
    refine v_iload_n 3 87 rfl dX6_tryYears_86 rfl rfl ?_
    refine v_bipush 89 rfl dX6_tryYears_87 bp_6 ?_
    refine v_imul 90 rfl dX6_tryYears_89 ?_
    refine v_iload_n 1 91 rfl dX6_tryYears_90 rfl rfl ?_
    refine v_iadd 92 rfl dX6_tryYears_91 ?_
    refine v_iald 93 rfl sc_26 dX6_tryYears_92 (fun _ => ?_)
    refine n_istore (fun x2 => [(0, .ref 23), (1, .int a1), (2, .int a2), (3, .int a3), (4, .int x1), (5, .int x2)]) 95 rfl dX6_tryYears_93 (Nat.le_of_ble_eq_true rfl) rfl (fun _ => rfl) (fun x2 => ?_)
    refine v_iload 5 97 rfl dX6_tryYears_95 rfl ?_
    refine v_bipush 99 rfl dX6_tryYears_97 bp_m9 ?_
    refine v_icmp_eq 162 102 rfl rfl dX6_tryYears_99 (fun _ => ?_) (fun _ => ?_)
    · refine v_sub [0, 1, 2, 3] rfl ?_
      exact b6_tryYears_23_b162 hd self hself k60 hk60 a1 a2 a3 h
    · refine v_iload 5 104 rfl dX6_tryYears_102 rfl ?_
      refine v_aload_n 0 105 rfl dX6_tryYears_104 rfl rfl ?_
      refine v_geti 108 rfl fl_X6_60 sc_23 rfl dX6_tryYears_105 ?_
      refine v_icmp_ge 162 111 rfl rfl dX6_tryYears_108 (fun _ => ?_) (fun _ => ?_)
      · refine v_sub [0, 1, 2, 3] rfl ?_
        exact b6_tryYears_23_b162 hd self hself k60 hk60 a1 a2 a3 h
      · refine v_aload_n 0 112 rfl dX6_tryYears_111 rfl rfl ?_
        refine v_getr 115 rfl fl_X6_24 sc_23 rfl dX6_tryYears_112 ?_
        refine v_iload_n 1 116 rfl dX6_tryYears_115 rfl rfl ?_
        refine v_iload_n 3 117 rfl dX6_tryYears_116 rfl rfl ?_
        refine v_iload 4 119 rfl dX6_tryYears_117 rfl ?_
        refine n_callv [.int a1, .int a3, .int x1] [] (fun r => .int r :: []) 122 rfl (by omega) (Nat.le_of_ble_eq_true rfl) cb_X3_mayJoin cv_X6_72 sc_22 cn_X3 rfl (Nat.le_of_ble_eq_true rfl) dX6_tryYears_119 rfl (fun _ => rfl) (e3_mayjoin_22 (by omega) a1 a3 x1 h) (fun q3 => ?_)
        refine v_if_ne 128 125 rfl rfl dX6_tryYears_122 (fun _ => ?_) (fun _ => ?_)
        · refine v_aload_n 0 129 rfl dX6_tryYears_128 rfl rfl ?_
          refine v_getr 132 rfl fl_X6_15 sc_23 rfl dX6_tryYears_129 ?_
          refine v_iload_n 3 133 rfl dX6_tryYears_132 rfl rfl ?_
          refine v_iload 4 135 rfl dX6_tryYears_133 rfl ?_
          refine v_iload_n 1 136 rfl dX6_tryYears_135 rfl rfl ?_
          refine n_calln [.int a1] [.int x1, .int a3, .ref 25] (fun r => .int r :: [.int x1, .int a3, .ref 25]) 139 rfl (by omega) (Nat.le_of_ble_eq_true rfl) cb_X8_bit cn_X6_76 rfl (Nat.le_of_ble_eq_true rfl) dX6_tryYears_136 rfl (fun _ => rfl) (e8_bit (by omega) a1 q3.2) (fun q4 => ?_)
          refine v_ior 140 rfl dX6_tryYears_139 ?_
          refine n_iast 141 rfl sc_25 dX6_tryYears_140 (fun h5 => ?_)
          refine v_aload_n 0 142 rfl dX6_tryYears_141 rfl rfl ?_
          refine v_iload_n 1 143 rfl dX6_tryYears_142 rfl rfl ?_
          refine v_iconst 144 rfl dX6_tryYears_143 ic_1 ?_
          refine v_iadd 145 rfl dX6_tryYears_144 ?_
          refine v_iload_n 2 146 rfl dX6_tryYears_145 rfl rfl ?_
          refine v_iload 5 148 rfl dX6_tryYears_146 rfl ?_
          refine v_mmax 151 rfl (by omega) (Nat.le_of_ble_eq_true rfl) mw_631 mw_596 mw_66 mw_597 dX6_tryYears_148 ?_
          refine n_callv [.int (a1 + (1 : Int32)), .int (if a2 < x2 then x2 else a2)] [] (fun _ => []) 154 rfl (by omega) (Nat.le_of_ble_eq_true rfl) cb_X6_tryYears cv_X6_63 sc_23 cn_X6 rfl (Nat.le_of_ble_eq_true rfl) dX6_tryYears_151 rfl (fun _ => rfl) (hself (a1 + (1 : Int32)) (if a2 < x2 then x2 else a2) h5) (fun q6 => ?_)
          refine v_aload_n 0 155 rfl dX6_tryYears_154 rfl rfl ?_
          refine v_getr 158 rfl fl_X6_15 sc_23 rfl dX6_tryYears_155 ?_
          refine v_iload_n 3 159 rfl dX6_tryYears_158 rfl rfl ?_
          refine v_iload 4 161 rfl dX6_tryYears_159 rfl ?_
          refine n_iast 162 rfl sc_25 dX6_tryYears_161 (fun h7 => ?_)
          refine v_sub [0, 1, 2, 3] rfl ?_
          exact b6_tryYears_23_b162 hd self hself k60 hk60 a1 a2 a3 h7
        · refine v_goto 162 rfl dX6_tryYears_125 ?_
          refine v_sub [0, 1, 2, 3] rfl ?_
          exact b6_tryYears_23_b162 hd self hself k60 hk60 a1 a2 a3 q3.2
def f6_tryYears_23_l60 (self : Int32 → Int32 → jv_H → Option (Unit × jv_H)) : Nat → Int32 → Int32 → Int32 → jv_H → Option (Unit × jv_H)
  | 0 => fun _ _ _ _ => none
  | n + 1 => fun a1 a2 a3 h => g6_tryYears_23_b60 self (f6_tryYears_23_l60 self n) a1 a2 a3 h
theorem w6_tryYears_23_l60 {l : Launch} {d : Nat} {X : List jv_S} (hd : 3 ≤ d) (self : Int32 → Int32 → jv_H → Option (Unit × jv_H)) (hself : ∀ (a1 : Int32) (a2 : Int32) (h : jv_H), jv_E l yX6_tryYears cX6_tryYears 6 none (d - 1) (SC ++ X) jv_rv [.ref 23, .int a1, .int a2] h (self a1 a2 h)) : ∀ (n : Nat) (a1 : Int32) (a2 : Int32) (a3 : Int32) (h : jv_H), jv_V l RX6 cX6_tryYears 6 none d (SC ++ X) jv_rv 60 [(0, .ref 23), (1, .int a1), (2, .int a2), (3, .int a3)] [] h (f6_tryYears_23_l60 self n a1 a2 a3 h) := by
  intro n
  induction n with
  | zero => intro a1 a2 a3 h; exact v_none
  | succ n ih => intro a1 a2 a3 h; exact b6_tryYears_23_b60 hd self hself (f6_tryYears_23_l60 self n) ih a1 a2 a3 h
def g6_tryYears_23 (self : Int32 → Int32 → jv_H → Option (Unit × jv_H)) (a1 : Int32) (a2 : Int32) (h : jv_H) : Option (Unit × jv_H) := if a2 < (h.1 23 4) then if (h.1 1 0) ≤ a1 then jv_let (jv_p h 23 4 a2) fun h1 => some ((), h1) else if a1 < (6 : Int32) then (f1_heat_20 a1 h).bind fun q2 => if q2.1 = 0 then (self (a1 + (1 : Int32)) a2 q2.2).bind fun q4 => some ((), q4.2) else jv_let (0 : Int32) fun x3 => f6_tryYears_23_l60 self jv_fuel a1 a2 x3 q2.2 else jv_let (jv_p h 23 4 a2) fun h5 => some ((), h5) else some ((), h)
set_option maxRecDepth 20000 in
theorem b6_tryYears_23 {l : Launch} {d : Nat} {X : List jv_S} (hd : 3 ≤ d) (self : Int32 → Int32 → jv_H → Option (Unit × jv_H)) (hself : ∀ (a1 : Int32) (a2 : Int32) (h : jv_H), jv_E l yX6_tryYears cX6_tryYears 6 none (d - 1) (SC ++ X) jv_rv [.ref 23, .int a1, .int a2] h (self a1 a2 h)) (a1 : Int32) (a2 : Int32) (h : jv_H) : jv_E l yX6_tryYears cX6_tryYears 6 none d (SC ++ X) jv_rv [.ref 23, .int a1, .int a2] h (g6_tryYears_23 self a1 a2 h) := by
  refine e_of [(0, .ref 23), (1, .int a1), (2, .int a2)] rfl pn_X6 (fun _ => Nat.le_of_ble_eq_true rfl) (fun _ => rfl) ?_
  unfold g6_tryYears_23
  refine v_iload_n 2 1 rfl dX6_tryYears_0 rfl rfl ?_
  refine v_aload_n 0 2 rfl dX6_tryYears_1 rfl rfl ?_
  refine v_geti 5 rfl fl_X6_60 sc_23 rfl dX6_tryYears_2 ?_
  refine v_icmp_lt 9 8 rfl rfl dX6_tryYears_5 (fun _ => ?_) (fun _ => ?_)
  · refine v_iload_n 1 10 rfl dX6_tryYears_9 rfl rfl ?_
    refine v_aload_n 0 11 rfl dX6_tryYears_10 rfl rfl ?_
    refine v_getr 14 rfl fl_X6_24 sc_23 rfl dX6_tryYears_11 ?_
    refine v_getr 17 rfl fl_X6_42 sc_22 rfl dX6_tryYears_14 ?_
    refine v_geti 20 rfl fl_X6_48 sc_1 rfl dX6_tryYears_17 ?_
    refine v_icmp_ge 29 23 rfl rfl dX6_tryYears_20 (fun _ => ?_) (fun _ => ?_)
    · refine v_aload_n 0 30 rfl dX6_tryYears_29 rfl rfl ?_
      refine v_iload_n 2 31 rfl dX6_tryYears_30 rfl rfl ?_
      refine n_puti 34 rfl fl_X6_60 sc_23 rfl dX6_tryYears_31 (fun h1 => ?_)
      exact v_vret rfl dX6_tryYears_34
    · refine v_iload_n 1 24 rfl dX6_tryYears_23 rfl rfl ?_
      refine v_bipush 26 rfl dX6_tryYears_24 bp_6 ?_
      refine v_icmp_lt 35 29 rfl rfl dX6_tryYears_26 (fun _ => ?_) (fun _ => ?_)
      · refine v_aload_n 0 36 rfl dX6_tryYears_35 rfl rfl ?_
        refine v_getr 39 rfl fl_X6_24 sc_23 rfl dX6_tryYears_36 ?_
        refine v_getr 42 rfl fl_X6_80 sc_22 rfl dX6_tryYears_39 ?_
        refine v_iload_n 1 43 rfl dX6_tryYears_42 rfl rfl ?_
        refine n_callv [.int a1] [] (fun r => .int r :: []) 46 rfl (by omega) (Nat.le_of_ble_eq_true rfl) cb_X1_heat cv_X6_84 sc_20 cn_X1 rfl (Nat.le_of_ble_eq_true rfl) dX6_tryYears_43 rfl (fun _ => rfl) (e1_heat_20 (by omega) a1 h) (fun q2 => ?_)
        refine v_if_ne 58 49 rfl rfl dX6_tryYears_46 (fun _ => ?_) (fun _ => ?_)
        · refine v_iconst 59 rfl dX6_tryYears_58 ic_0 ?_
          refine n_istore_n (fun x3 => [(0, .ref 23), (1, .int a1), (2, .int a2), (3, .int x3)]) 60 rfl dX6_tryYears_59 rfl (Nat.le_of_ble_eq_true rfl) rfl (fun _ => rfl) (fun x3 => ?_)
          exact w6_tryYears_23_l60 hd self hself jv_fuel a1 a2 x3 q2.2
        · refine v_aload_n 0 50 rfl dX6_tryYears_49 rfl rfl ?_
          refine v_iload_n 1 51 rfl dX6_tryYears_50 rfl rfl ?_
          refine v_iconst 52 rfl dX6_tryYears_51 ic_1 ?_
          refine v_iadd 53 rfl dX6_tryYears_52 ?_
          refine v_iload_n 2 54 rfl dX6_tryYears_53 rfl rfl ?_
          refine n_callv [.int (a1 + (1 : Int32)), .int a2] [] (fun _ => []) 57 rfl (by omega) (Nat.le_of_ble_eq_true rfl) cb_X6_tryYears cv_X6_63 sc_23 cn_X6 rfl (Nat.le_of_ble_eq_true rfl) dX6_tryYears_54 rfl (fun _ => rfl) (hself (a1 + (1 : Int32)) a2 q2.2) (fun q4 => ?_)
          exact v_vret rfl dX6_tryYears_57
      · refine v_aload_n 0 30 rfl dX6_tryYears_29 rfl rfl ?_
        refine v_iload_n 2 31 rfl dX6_tryYears_30 rfl rfl ?_
        refine n_puti 34 rfl fl_X6_60 sc_23 rfl dX6_tryYears_31 (fun h5 => ?_)
        exact v_vret rfl dX6_tryYears_34
  · exact v_vret rfl dX6_tryYears_8
def f6_tryYears_23 : Nat → Int32 → Int32 → jv_H → Option (Unit × jv_H)
  | 0 => fun _ _ _ => none
  | n + 1 => fun a1 a2 h => g6_tryYears_23 (f6_tryYears_23 n) a1 a2 h
theorem e6_tryYears_23 {l : Launch} {X : List jv_S} : ∀ (n : Nat) {d : Nat} (hd : 3 + n ≤ d) (a1 : Int32) (a2 : Int32) (h : jv_H), jv_E l yX6_tryYears cX6_tryYears 6 none d (SC ++ X) jv_rv [.ref 23, .int a1, .int a2] h (f6_tryYears_23 n a1 a2 h) := by
  intro n
  induction n with
  | zero => intro d hd a1 a2 h res ho; cases ho
  | succ n ih => intro d hd a1 a2 h; exact b6_tryYears_23 (by omega) (f6_tryYears_23 n) (fun a1 a2 h => ih (by omega) a1 a2 h) a1 a2 h
-- TemperNurses$House.yearsTillBroken(II)I at 22
def g3_yearsTillBroken_22_b37 (k37 : Int32 → Int32 → Int32 → Int32 → jv_H → Option (Int32 × jv_H)) (a1 : Int32) (a2 : Int32) (a3 : Int32) (a4 : Int32) (h : jv_H) : Option (Int32 × jv_H) := if (99 : Int32) < a4 then some ((-9 : Int32), h) else if a3 = 0 then some (a4, h) else if jv_ix a1 6 then if jv_ix a2 4 then (f3_heatNextYear a3 (h.1 3 (Int32.toNatClampNeg a1)) (h.1 6 (Int32.toNatClampNeg a2)) h).bind fun q1 => jv_let q1.1 fun x2 => jv_let (a4 + (1 : Int32)) fun x3 => k37 a1 a2 x2 x3 q1.2 else none else none
set_option maxRecDepth 20000 in
theorem b3_yearsTillBroken_22_b37 {l : Launch} {d : Nat} {X : List jv_S} (hd : 2 ≤ d) (k37 : Int32 → Int32 → Int32 → Int32 → jv_H → Option (Int32 × jv_H)) (hk37 : ∀ (a1 a2 a3 a4 : Int32) (h : jv_H), jv_V l RX3 cX3_yearsTillBroken 5 (some .int) d (SC ++ X) jv_ri 37 [(0, .ref 22), (1, .int a1), (2, .int a2), (3, .int a3), (4, .int a4)] [] h (k37 a1 a2 a3 a4 h)) : ∀ (a1 : Int32) (a2 : Int32) (a3 : Int32) (a4 : Int32) (h : jv_H), jv_V l RX3 cX3_yearsTillBroken 5 (some .int) d (SC ++ X) jv_ri 37 [(0, .ref 22), (1, .int a1), (2, .int a2), (3, .int a3), (4, .int a4)] [] h (g3_yearsTillBroken_22_b37 k37 a1 a2 a3 a4 h) := by
  intro a1 a2 a3 a4 h
  unfold g3_yearsTillBroken_22_b37
  refine v_iload 4 39 rfl dX3_yearsTillBroken_37 rfl ?_
  refine v_bipush 41 rfl dX3_yearsTillBroken_39 bp_99 ?_
  refine v_icmp_gt 80 44 rfl rfl dX3_yearsTillBroken_41 (fun _ => ?_) (fun _ => ?_)
  · refine v_bipush 82 rfl dX3_yearsTillBroken_80 bp_m9 ?_
    exact v_iret rfl dX3_yearsTillBroken_82
  · refine v_iload_n 3 45 rfl dX3_yearsTillBroken_44 rfl rfl ?_
    refine v_if_ne 51 48 rfl rfl dX3_yearsTillBroken_45 (fun _ => ?_) (fun _ => ?_)
    · refine v_iload_n 3 52 rfl dX3_yearsTillBroken_51 rfl rfl ?_
      refine v_aload_n 0 53 rfl dX3_yearsTillBroken_52 rfl rfl ?_
      refine v_getr 56 rfl fl_X3_9 sc_22 rfl dX3_yearsTillBroken_53 ?_
      refine v_getr 59 rfl fl_X3_73 sc_1 rfl dX3_yearsTillBroken_56 ?_
      refine v_iload_n 1 60 rfl dX3_yearsTillBroken_59 rfl rfl ?_
      refine v_iald 61 rfl sc_3 dX3_yearsTillBroken_60 (fun _ => ?_)
      refine v_aload_n 0 62 rfl dX3_yearsTillBroken_61 rfl rfl ?_
      refine v_getr 65 rfl fl_X3_9 sc_22 rfl dX3_yearsTillBroken_62 ?_
      refine v_getr 68 rfl fl_X3_70 sc_1 rfl dX3_yearsTillBroken_65 ?_
      refine v_iload_n 2 69 rfl dX3_yearsTillBroken_68 rfl rfl ?_
      refine v_iald 70 rfl sc_6 dX3_yearsTillBroken_69 (fun _ => ?_)
      refine n_calls [.int a3, .int (h.1 3 (Int32.toNatClampNeg a1)), .int (h.1 6 (Int32.toNatClampNeg a2))] [] (fun r => .int r :: []) 73 rfl (by omega) (Nat.le_of_ble_eq_true rfl) cb_X3_heatNextYear cs_X3_76 rfl (Nat.le_of_ble_eq_true rfl) dX3_yearsTillBroken_70 rfl (fun _ => rfl) (e3_heatNextYear (by omega) a3 (h.1 3 (Int32.toNatClampNeg a1)) (h.1 6 (Int32.toNatClampNeg a2)) h) (fun q1 => ?_)
      refine n_istore_n (fun x2 => [(0, .ref 22), (1, .int a1), (2, .int a2), (3, .int x2), (4, .int a4)]) 74 rfl dX3_yearsTillBroken_73 rfl (Nat.le_of_ble_eq_true rfl) rfl (fun _ => rfl) (fun x2 => ?_)
      refine n_iinc (fun x3 => [(0, .ref 22), (1, .int a1), (2, .int a2), (3, .int x2), (4, .int x3)]) 4 77 rfl dX3_yearsTillBroken_74 rfl ic_1 (Nat.le_of_ble_eq_true rfl) rfl (fun _ => rfl) (fun x3 => ?_)
      refine v_goto 37 rfl dX3_yearsTillBroken_77 ?_
      exact hk37 a1 a2 x2 x3 q1.2
    · refine v_iload 4 50 rfl dX3_yearsTillBroken_48 rfl ?_
      exact v_iret rfl dX3_yearsTillBroken_50
def f3_yearsTillBroken_22_l37 : Nat → Int32 → Int32 → Int32 → Int32 → jv_H → Option (Int32 × jv_H)
  | 0 => fun _ _ _ _ _ => none
  | n + 1 => fun a1 a2 a3 a4 h => g3_yearsTillBroken_22_b37 (f3_yearsTillBroken_22_l37 n) a1 a2 a3 a4 h
theorem w3_yearsTillBroken_22_l37 {l : Launch} {d : Nat} {X : List jv_S} (hd : 2 ≤ d) : ∀ (n : Nat) (a1 : Int32) (a2 : Int32) (a3 : Int32) (a4 : Int32) (h : jv_H), jv_V l RX3 cX3_yearsTillBroken 5 (some .int) d (SC ++ X) jv_ri 37 [(0, .ref 22), (1, .int a1), (2, .int a2), (3, .int a3), (4, .int a4)] [] h (f3_yearsTillBroken_22_l37 n a1 a2 a3 a4 h) := by
  intro n
  induction n with
  | zero => intro a1 a2 a3 a4 h; exact v_none
  | succ n ih => intro a1 a2 a3 a4 h; exact b3_yearsTillBroken_22_b37 hd (f3_yearsTillBroken_22_l37 n) ih a1 a2 a3 a4 h
def f3_yearsTillBroken_22 (a1 : Int32) (a2 : Int32) (h : jv_H) : Option (Int32 × jv_H) := (f2_hasTemper_1 a1 h).bind fun q1 => if q1.1 = 0 then some ((-9 : Int32), q1.2) else (f2_hasNurse_1 a2 q1.2).bind fun q2 => if q2.1 = 0 then some ((-9 : Int32), q2.2) else (f1_heat_20 a1 q2.2).bind fun q3 => jv_let q3.1 fun x4 => jv_let (0 : Int32) fun x5 => f3_yearsTillBroken_22_l37 jv_fuel a1 a2 x4 x5 q3.2
set_option maxRecDepth 20000 in
theorem e3_yearsTillBroken_22 {l : Launch} {d : Nat} {X : List jv_S} (hd : 2 ≤ d) (a1 : Int32) (a2 : Int32) (h : jv_H) : jv_E l yX3_yearsTillBroken cX3_yearsTillBroken 5 (some .int) d (SC ++ X) jv_ri [.ref 22, .int a1, .int a2] h (f3_yearsTillBroken_22 a1 a2 h) := by
  refine e_of [(0, .ref 22), (1, .int a1), (2, .int a2)] rfl pn_X3 (fun _ => Nat.le_of_ble_eq_true rfl) (fun _ => rfl) ?_
  unfold f3_yearsTillBroken_22
  refine v_aload_n 0 1 rfl dX3_yearsTillBroken_0 rfl rfl ?_
  refine v_getr 4 rfl fl_X3_9 sc_22 rfl dX3_yearsTillBroken_1 ?_
  refine v_iload_n 1 5 rfl dX3_yearsTillBroken_4 rfl rfl ?_
  refine n_callv [.int a1] [] (fun r => .int r :: []) 8 rfl (by omega) (Nat.le_of_ble_eq_true rfl) cb_X2_hasTemper cv_X3_48 sc_1 cn_X2 rfl (Nat.le_of_ble_eq_true rfl) dX3_yearsTillBroken_5 rfl (fun _ => rfl) (e2_hasTemper_1 (by omega) a1 h) (fun q1 => ?_)
  refine v_if_eq 22 11 rfl rfl dX3_yearsTillBroken_8 (fun _ => ?_) (fun _ => ?_)
  · refine v_bipush 24 rfl dX3_yearsTillBroken_22 bp_m9 ?_
    exact v_iret rfl dX3_yearsTillBroken_24
  · refine v_aload_n 0 12 rfl dX3_yearsTillBroken_11 rfl rfl ?_
    refine v_getr 15 rfl fl_X3_9 sc_22 rfl dX3_yearsTillBroken_12 ?_
    refine v_iload_n 2 16 rfl dX3_yearsTillBroken_15 rfl rfl ?_
    refine n_callv [.int a2] [] (fun r => .int r :: []) 19 rfl (by omega) (Nat.le_of_ble_eq_true rfl) cb_X2_hasNurse cv_X3_52 sc_1 cn_X2 rfl (Nat.le_of_ble_eq_true rfl) dX3_yearsTillBroken_16 rfl (fun _ => rfl) (e2_hasNurse_1 (by omega) a2 q1.2) (fun q2 => ?_)
    refine v_if_ne 25 22 rfl rfl dX3_yearsTillBroken_19 (fun _ => ?_) (fun _ => ?_)
    · refine v_aload_n 0 26 rfl dX3_yearsTillBroken_25 rfl rfl ?_
      refine v_getr 29 rfl fl_X3_15 sc_22 rfl dX3_yearsTillBroken_26 ?_
      refine v_iload_n 1 30 rfl dX3_yearsTillBroken_29 rfl rfl ?_
      refine n_callv [.int a1] [] (fun r => .int r :: []) 33 rfl (by omega) (Nat.le_of_ble_eq_true rfl) cb_X1_heat cv_X3_25 sc_20 cn_X1 rfl (Nat.le_of_ble_eq_true rfl) dX3_yearsTillBroken_30 rfl (fun _ => rfl) (e1_heat_20 (by omega) a1 q2.2) (fun q3 => ?_)
      refine n_istore_n (fun x4 => [(0, .ref 22), (1, .int a1), (2, .int a2), (3, .int x4)]) 34 rfl dX3_yearsTillBroken_33 rfl (Nat.le_of_ble_eq_true rfl) rfl (fun _ => rfl) (fun x4 => ?_)
      refine v_iconst 35 rfl dX3_yearsTillBroken_34 ic_0 ?_
      refine n_istore (fun x5 => [(0, .ref 22), (1, .int a1), (2, .int a2), (3, .int x4), (4, .int x5)]) 37 rfl dX3_yearsTillBroken_35 (Nat.le_of_ble_eq_true rfl) rfl (fun _ => rfl) (fun x5 => ?_)
      exact w3_yearsTillBroken_22_l37 hd jv_fuel a1 a2 x4 x5 q3.2
    · refine v_bipush 24 rfl dX3_yearsTillBroken_22 bp_m9 ?_
      exact v_iret rfl dX3_yearsTillBroken_24
