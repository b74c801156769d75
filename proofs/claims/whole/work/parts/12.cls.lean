-- TemperNurses$TextReader.takeToken()V at 9
def g7_takeToken_9_b66 (h : jv_H) : Option (Unit × jv_H) := (f7_takeItem_9 h).bind fun q1 => jv_let (jv_p q1.2 9 7 (0 : Int32)) fun h2 => some ((), h2)
set_option maxRecDepth 20000 in
theorem b7_takeToken_9_b66 {l : Launch} {d : Nat} {X : List jv_S} (hd : 3 ≤ d) : ∀ (h : jv_H), jv_V l RX7 cX7_takeToken 1 none d (SC ++ X) jv_rv 66 [(0, .ref 9)] [] h (g7_takeToken_9_b66 h) := by
  intro  h
  unfold g7_takeToken_9_b66
  refine v_aload_n 0 67 rfl dX7_takeToken_66 rfl rfl ?_
  refine n_callv [] [] (fun _ => []) 70 rfl (by omega) (Nat.le_of_ble_eq_true rfl) cb_X7_takeItem cv_X7_96 sc_9 cn_X7 rfl (Nat.le_of_ble_eq_true rfl) dX7_takeToken_67 rfl (fun _ => rfl) (e7_takeItem_9 (by omega)  h) (fun q1 => ?_)
  refine v_aload_n 0 71 rfl dX7_takeToken_70 rfl rfl ?_
  refine v_iconst 72 rfl dX7_takeToken_71 ic_0 ?_
  refine n_puti 75 rfl fl_X7_35 sc_9 rfl dX7_takeToken_72 (fun h2 => ?_)
  exact v_vret rfl dX7_takeToken_75
def f7_takeToken_9 (h : jv_H) : Option (Unit × jv_H) := if (h.1 9 3) = (1 : Int32) then jv_let (jv_p h 9 7 (h.1 9 6)) fun h3 => jv_let (jv_p h3 9 8 (0 : Int32)) fun h4 => some ((), h4) else if (h.1 9 3) = (2 : Int32) then if (3 : Int32) ≤ (h.1 9 8) then g7_takeToken_9_b66 h else if jv_ix (h.1 9 8) 3 then jv_let (jv_p h 19 (Int32.toNatClampNeg (h.1 9 8)) (h.1 9 6)) fun h1 => jv_let (jv_p h1 9 8 ((h1.1 9 8) + (1 : Int32))) fun h2 => some ((), h2) else none else g7_takeToken_9_b66 h
set_option maxRecDepth 20000 in
theorem e7_takeToken_9 {l : Launch} {d : Nat} {X : List jv_S} (hd : 3 ≤ d) (h : jv_H) : jv_E l yX7_takeToken cX7_takeToken 1 none d (SC ++ X) jv_rv [.ref 9] h (f7_takeToken_9  h) := by
  refine e_of [(0, .ref 9)] rfl pn_X7 (fun _ => Nat.le_of_ble_eq_true rfl) (fun _ => rfl) ?_
  unfold f7_takeToken_9
  refine v_aload_n 0 1 rfl dX7_takeToken_0 rfl rfl ?_
  refine v_geti 4 rfl fl_X7_41 sc_9 rfl dX7_takeToken_1 ?_
  refine v_iconst 5 rfl dX7_takeToken_4 ic_1 ?_
  refine v_icmp_ne 24 8 rfl rfl dX7_takeToken_5 (fun _ => ?_) (fun _ => ?_)
  · refine v_aload_n 0 25 rfl dX7_takeToken_24 rfl rfl ?_
    refine v_geti 28 rfl fl_X7_41 sc_9 rfl dX7_takeToken_25 ?_
    refine v_iconst 29 rfl dX7_takeToken_28 ic_2 ?_
    refine v_icmp_ne 66 32 rfl rfl dX7_takeToken_29 (fun _ => ?_) (fun _ => ?_)
    · exact b7_takeToken_9_b66 hd h
    · refine v_aload_n 0 33 rfl dX7_takeToken_32 rfl rfl ?_
      refine v_geti 36 rfl fl_X7_57 sc_9 rfl dX7_takeToken_33 ?_
      refine v_iconst 37 rfl dX7_takeToken_36 ic_3 ?_
      refine v_icmp_ge 66 40 rfl rfl dX7_takeToken_37 (fun _ => ?_) (fun _ => ?_)
      · exact b7_takeToken_9_b66 hd h
      · refine v_aload_n 0 41 rfl dX7_takeToken_40 rfl rfl ?_
        refine v_getr 44 rfl fl_X7_22 sc_9 rfl dX7_takeToken_41 ?_
        refine v_aload_n 0 45 rfl dX7_takeToken_44 rfl rfl ?_
        refine v_geti 48 rfl fl_X7_57 sc_9 rfl dX7_takeToken_45 ?_
        refine v_aload_n 0 49 rfl dX7_takeToken_48 rfl rfl ?_
        refine v_geti 52 rfl fl_X7_67 sc_9 rfl dX7_takeToken_49 ?_
        refine n_iast 53 rfl sc_19 dX7_takeToken_52 (fun h1 => ?_)
        refine v_aload_n 0 54 rfl dX7_takeToken_53 rfl rfl ?_
        refine v_dupr 55 rfl dX7_takeToken_54 ?_
        refine v_geti 58 rfl fl_X7_57 sc_9 rfl dX7_takeToken_55 ?_
        refine v_iconst 59 rfl dX7_takeToken_58 ic_1 ?_
        refine v_iadd 60 rfl dX7_takeToken_59 ?_
        refine n_puti 63 rfl fl_X7_57 sc_9 rfl dX7_takeToken_60 (fun h2 => ?_)
        refine v_goto 75 rfl dX7_takeToken_63 ?_
        exact v_vret rfl dX7_takeToken_75
  · refine v_aload_n 0 9 rfl dX7_takeToken_8 rfl rfl ?_
    refine v_aload_n 0 10 rfl dX7_takeToken_9 rfl rfl ?_
    refine v_geti 13 rfl fl_X7_67 sc_9 rfl dX7_takeToken_10 ?_
    refine n_puti 16 rfl fl_X7_35 sc_9 rfl dX7_takeToken_13 (fun h3 => ?_)
    refine v_aload_n 0 17 rfl dX7_takeToken_16 rfl rfl ?_
    refine v_iconst 18 rfl dX7_takeToken_17 ic_0 ?_
    refine n_puti 21 rfl fl_X7_57 sc_9 rfl dX7_takeToken_18 (fun h4 => ?_)
    refine v_goto 75 rfl dX7_takeToken_21 ?_
    exact v_vret rfl dX7_takeToken_75
-- TemperNurses$TextReader.readAll()I at 9
def g7_readAll_9_b73 (k21 : Int32 → Int32 → jv_H → Option (Int32 × jv_H)) (a1 : Int32) (a2 : Int32) (h : jv_H) : Option (Int32 × jv_H) := (f7_takeToken_9 h).bind fun q1 => jv_let (a2 + (1 : Int32)) fun x2 => k21 a1 x2 q1.2
set_option maxRecDepth 20000 in
theorem b7_readAll_9_b73 {l : Launch} {d : Nat} {X : List jv_S} (hd : 5 ≤ d) (k21 : Int32 → Int32 → jv_H → Option (Int32 × jv_H)) (hk21 : ∀ (a1 a2 : Int32) (h : jv_H), jv_V l RX7 cX7_readAll 3 (some .int) d (SC ++ X) jv_ri 21 [(0, .ref 9), (1, .int a1), (2, .int a2)] [] h (k21 a1 a2 h)) : ∀ (a1 : Int32) (a2 : Int32) (h : jv_H), jv_V l RX7 cX7_readAll 3 (some .int) d (SC ++ X) jv_ri 73 [(0, .ref 9), (1, .int a1), (2, .int a2)] [] h (g7_readAll_9_b73 k21 a1 a2 h) := by
  intro a1 a2 h
  unfold g7_readAll_9_b73
  refine v_aload_n 0 74 rfl dX7_readAll_73 rfl rfl ?_
  refine n_callv [] [] (fun _ => []) 77 rfl (by omega) (Nat.le_of_ble_eq_true rfl) cb_X7_takeToken cv_X7_51 sc_9 cn_X7 rfl (Nat.le_of_ble_eq_true rfl) dX7_readAll_74 rfl (fun _ => rfl) (e7_takeToken_9 (by omega)  h) (fun q1 => ?_)
  refine n_iinc (fun x2 => [(0, .ref 9), (1, .int a1), (2, .int x2)]) 2 80 rfl dX7_readAll_77 rfl ic_1 (Nat.le_of_ble_eq_true rfl) rfl (fun _ => rfl) (fun x2 => ?_)
  refine v_goto 21 rfl dX7_readAll_80 ?_
  exact hk21 a1 x2 q1.2
def g7_readAll_9_b47 (k21 : Int32 → Int32 → jv_H → Option (Int32 × jv_H)) (a1 : Int32) (a2 : Int32) (h : jv_H) : Option (Int32 × jv_H) := (f7_canStand_9 h).bind fun q1 => if q1.1 = 0 then some (((-10 : Int32) - (q1.2.1 9 4)), q1.2) else if (q1.2.1 9 3) = (3 : Int32) then jv_let (a1 + (1 : Int32)) fun x2 => g7_readAll_9_b73 k21 x2 a2 q1.2 else g7_readAll_9_b73 k21 a1 a2 q1.2
set_option maxRecDepth 20000 in
theorem b7_readAll_9_b47 {l : Launch} {d : Nat} {X : List jv_S} (hd : 5 ≤ d) (k21 : Int32 → Int32 → jv_H → Option (Int32 × jv_H)) (hk21 : ∀ (a1 a2 : Int32) (h : jv_H), jv_V l RX7 cX7_readAll 3 (some .int) d (SC ++ X) jv_ri 21 [(0, .ref 9), (1, .int a1), (2, .int a2)] [] h (k21 a1 a2 h)) : ∀ (a1 : Int32) (a2 : Int32) (h : jv_H), jv_V l RX7 cX7_readAll 3 (some .int) d (SC ++ X) jv_ri 47 [(0, .ref 9), (1, .int a1), (2, .int a2)] [] h (g7_readAll_9_b47 k21 a1 a2 h) := by
  intro a1 a2 h
  unfold g7_readAll_9_b47
  refine v_aload_n 0 48 rfl dX7_readAll_47 rfl rfl ?_
  refine n_callv [] [] (fun r => .int r :: []) 51 rfl (by omega) (Nat.le_of_ble_eq_true rfl) cb_X7_canStand cv_X7_44 sc_9 cn_X7 rfl (Nat.le_of_ble_eq_true rfl) dX7_readAll_48 rfl (fun _ => rfl) (e7_canStand_9 (by omega)  h) (fun q1 => ?_)
  refine v_if_ne 62 54 rfl rfl dX7_readAll_51 (fun _ => ?_) (fun _ => ?_)
  · refine v_aload_n 0 63 rfl dX7_readAll_62 rfl rfl ?_
    refine v_geti 66 rfl fl_X7_41 sc_9 rfl dX7_readAll_63 ?_
    refine v_iconst 67 rfl dX7_readAll_66 ic_3 ?_
    refine v_icmp_ne 73 70 rfl rfl dX7_readAll_67 (fun _ => ?_) (fun _ => ?_)
    · exact b7_readAll_9_b73 hd k21 hk21 a1 a2 q1.2
    · refine n_iinc (fun x2 => [(0, .ref 9), (1, .int x2), (2, .int a2)]) 1 73 rfl dX7_readAll_70 rfl ic_1 (Nat.le_of_ble_eq_true rfl) rfl (fun _ => rfl) (fun x2 => ?_)
      exact b7_readAll_9_b73 hd k21 hk21 x2 a2 q1.2
  · refine v_bipush 56 rfl dX7_readAll_54 bp_m10 ?_
    refine v_aload_n 0 57 rfl dX7_readAll_56 rfl rfl ?_
    refine v_geti 60 rfl fl_X7_48 sc_9 rfl dX7_readAll_57 ?_
    refine v_isub 61 rfl dX7_readAll_60 ?_
    exact v_iret rfl dX7_readAll_61
def g7_readAll_9_b21 (k21 : Int32 → Int32 → jv_H → Option (Int32 × jv_H)) (a1 : Int32) (a2 : Int32) (h : jv_H) : Option (Int32 × jv_H) := if (120 : Int32) < a2 then some (a1, h) else (f7_readToken_9 h).bind fun q1 => if (q1.2.1 9 3) = 0 then if (q1.2.1 9 7) = 0 then some (a1, q1.2) else g7_readAll_9_b47 k21 a1 a2 q1.2 else g7_readAll_9_b47 k21 a1 a2 q1.2
set_option maxRecDepth 20000 in
theorem b7_readAll_9_b21 {l : Launch} {d : Nat} {X : List jv_S} (hd : 5 ≤ d) (k21 : Int32 → Int32 → jv_H → Option (Int32 × jv_H)) (hk21 : ∀ (a1 a2 : Int32) (h : jv_H), jv_V l RX7 cX7_readAll 3 (some .int) d (SC ++ X) jv_ri 21 [(0, .ref 9), (1, .int a1), (2, .int a2)] [] h (k21 a1 a2 h)) : ∀ (a1 : Int32) (a2 : Int32) (h : jv_H), jv_V l RX7 cX7_readAll 3 (some .int) d (SC ++ X) jv_ri 21 [(0, .ref 9), (1, .int a1), (2, .int a2)] [] h (g7_readAll_9_b21 k21 a1 a2 h) := by
  intro a1 a2 h
  unfold g7_readAll_9_b21
  refine v_iload_n 2 22 rfl dX7_readAll_21 rfl rfl ?_
  refine v_bipush 24 rfl dX7_readAll_22 bp_120 ?_
  refine v_icmp_gt 83 27 rfl rfl dX7_readAll_24 (fun _ => ?_) (fun _ => ?_)
  · refine v_iload_n 1 84 rfl dX7_readAll_83 rfl rfl ?_
    exact v_iret rfl dX7_readAll_84
  · refine v_aload_n 0 28 rfl dX7_readAll_27 rfl rfl ?_
    refine n_callv [] [] (fun _ => []) 31 rfl (by omega) (Nat.le_of_ble_eq_true rfl) cb_X7_readToken cv_X7_38 sc_9 cn_X7 rfl (Nat.le_of_ble_eq_true rfl) dX7_readAll_28 rfl (fun _ => rfl) (e7_readToken_9 (by omega)  h) (fun q1 => ?_)
    refine v_aload_n 0 32 rfl dX7_readAll_31 rfl rfl ?_
    refine v_geti 35 rfl fl_X7_41 sc_9 rfl dX7_readAll_32 ?_
    refine v_if_ne 47 38 rfl rfl dX7_readAll_35 (fun _ => ?_) (fun _ => ?_)
    · exact b7_readAll_9_b47 hd k21 hk21 a1 a2 q1.2
    · refine v_aload_n 0 39 rfl dX7_readAll_38 rfl rfl ?_
      refine v_geti 42 rfl fl_X7_35 sc_9 rfl dX7_readAll_39 ?_
      refine v_if_ne 47 45 rfl rfl dX7_readAll_42 (fun _ => ?_) (fun _ => ?_)
      · exact b7_readAll_9_b47 hd k21 hk21 a1 a2 q1.2
      · refine v_iload_n 1 46 rfl dX7_readAll_45 rfl rfl ?_
        exact v_iret rfl dX7_readAll_46
def f7_readAll_9_l21 : Nat → Int32 → Int32 → jv_H → Option (Int32 × jv_H)
  | 0 => fun _ _ _ => none
  | n + 1 => fun a1 a2 h => g7_readAll_9_b21 (f7_readAll_9_l21 n) a1 a2 h
theorem w7_readAll_9_l21 {l : Launch} {d : Nat} {X : List jv_S} (hd : 5 ≤ d) : ∀ (n : Nat) (a1 : Int32) (a2 : Int32) (h : jv_H), jv_V l RX7 cX7_readAll 3 (some .int) d (SC ++ X) jv_ri 21 [(0, .ref 9), (1, .int a1), (2, .int a2)] [] h (f7_readAll_9_l21 n a1 a2 h) := by
  intro n
  induction n with
  | zero => intro a1 a2 h; exact v_none
  | succ n ih => intro a1 a2 h; exact b7_readAll_9_b21 hd (f7_readAll_9_l21 n) ih a1 a2 h
def f7_readAll_9 (h : jv_H) : Option (Int32 × jv_H) := (f2_wipe_10 h).bind fun q1 => jv_let (jv_p q1.2 9 5 (0 : Int32)) fun h2 => jv_let (jv_p h2 9 7 (0 : Int32)) fun h3 => jv_let (0 : Int32) fun x4 => jv_let (0 : Int32) fun x5 => f7_readAll_9_l21 jv_fuel x4 x5 h3
set_option maxRecDepth 20000 in
theorem e7_readAll_9 {l : Launch} {d : Nat} {X : List jv_S} (hd : 5 ≤ d) (h : jv_H) : jv_E l yX7_readAll cX7_readAll 3 (some .int) d (SC ++ X) jv_ri [.ref 9] h (f7_readAll_9  h) := by
  refine e_of [(0, .ref 9)] rfl pn_X7 (fun _ => Nat.le_of_ble_eq_true rfl) (fun _ => rfl) ?_
  unfold f7_readAll_9
  refine v_aload_n 0 1 rfl dX7_readAll_0 rfl rfl ?_
  refine v_getr 4 rfl fl_X7_12 sc_9 rfl dX7_readAll_1 ?_
  refine n_callv [] [] (fun _ => []) 7 rfl (by omega) (Nat.le_of_ble_eq_true rfl) cb_X2_wipe cv_X7_29 sc_10 cn_X2 rfl (Nat.le_of_ble_eq_true rfl) dX7_readAll_4 rfl (fun _ => rfl) (e2_wipe_10 (by omega)  h) (fun q1 => ?_)
  refine v_aload_n 0 8 rfl dX7_readAll_7 rfl rfl ?_
  refine v_iconst 9 rfl dX7_readAll_8 ic_0 ?_
  refine n_puti 12 rfl fl_X7_32 sc_9 rfl dX7_readAll_9 (fun h2 => ?_)
  refine v_aload_n 0 13 rfl dX7_readAll_12 rfl rfl ?_
  refine v_iconst 14 rfl dX7_readAll_13 ic_0 ?_
  refine n_puti 17 rfl fl_X7_35 sc_9 rfl dX7_readAll_14 (fun h3 => ?_)
  refine v_iconst 18 rfl dX7_readAll_17 ic_0 ?_
  refine n_istore_n (fun x4 => [(0, .ref 9), (1, .int x4)]) 19 rfl dX7_readAll_18 rfl (Nat.le_of_ble_eq_true rfl) rfl (fun _ => rfl) (fun x4 => ?_)
  refine v_iconst 20 rfl dX7_readAll_19 ic_0 ?_
  refine n_istore_n (fun x5 => [(0, .ref 9), (1, .int x4), (2, .int x5)]) 21 rfl dX7_readAll_20 rfl (Nat.le_of_ble_eq_true rfl) rfl (fun _ => rfl) (fun x5 => ?_)
  exact w7_readAll_9_l21 hd jv_fuel x4 x5 h3
-- TemperNurses$Hill.take(LTemperNurses$Hill;)V at 1, 10
def f2_take_1_10 (h : jv_H) : Option (Unit × jv_H) := jv_let (jv_p h 1 0 (h.1 10 0)) fun h1 => jv_let (jv_p h1 1 1 (h1.1 10 1)) fun h2 => if jv_cp (0 : Int32) (0 : Int32) (6 : Int32) 6 6 then jv_let (jv_y h2 11 2 (0 : Int32) (0 : Int32) (6 : Int32)) fun h3 => if jv_cp (0 : Int32) (0 : Int32) (6 : Int32) 6 6 then jv_let (jv_y h3 12 3 (0 : Int32) (0 : Int32) (6 : Int32)) fun h4 => if jv_cp (0 : Int32) (0 : Int32) (6 : Int32) 6 6 then jv_let (jv_y h4 13 4 (0 : Int32) (0 : Int32) (6 : Int32)) fun h5 => if jv_cp (0 : Int32) (0 : Int32) (6 : Int32) 6 6 then jv_let (jv_y h5 14 5 (0 : Int32) (0 : Int32) (6 : Int32)) fun h6 => if jv_cp (0 : Int32) (0 : Int32) (4 : Int32) 4 4 then jv_let (jv_y h6 15 6 (0 : Int32) (0 : Int32) (4 : Int32)) fun h7 => if jv_cp (0 : Int32) (0 : Int32) (4 : Int32) 4 4 then jv_let (jv_y h7 16 7 (0 : Int32) (0 : Int32) (4 : Int32)) fun h8 => if jv_cp (0 : Int32) (0 : Int32) (4 : Int32) 4 4 then jv_let (jv_y h8 17 8 (0 : Int32) (0 : Int32) (4 : Int32)) fun h9 => some ((), h9) else none else none else none else none else none else none else none
set_option maxRecDepth 20000 in
theorem e2_take_1_10 {l : Launch} {d : Nat} {X : List jv_S} (hd : 1 ≤ d) (h : jv_H) : jv_E l yX2_take cX2_take 2 none d (SC ++ X) jv_rv [.ref 1, .ref 10] h (f2_take_1_10  h) := by
  refine e_of [(0, .ref 1), (1, .ref 10)] rfl pn_X2 (fun _ => Nat.le_of_ble_eq_true rfl) (fun _ => rfl) ?_
  unfold f2_take_1_10
  refine v_aload_n 0 1 rfl dX2_take_0 rfl rfl ?_
  refine v_aload_n 1 2 rfl dX2_take_1 rfl rfl ?_
  refine v_geti 5 rfl fl_X2_33 sc_10 rfl dX2_take_2 ?_
  refine n_puti 8 rfl fl_X2_33 sc_1 rfl dX2_take_5 (fun h1 => ?_)
  refine v_aload_n 0 9 rfl dX2_take_8 rfl rfl ?_
  refine v_aload_n 1 10 rfl dX2_take_9 rfl rfl ?_
  refine v_geti 13 rfl fl_X2_37 sc_10 rfl dX2_take_10 ?_
  refine n_puti 16 rfl fl_X2_37 sc_1 rfl dX2_take_13 (fun h2 => ?_)
  refine v_aload_n 1 17 rfl dX2_take_16 rfl rfl ?_
  refine v_getr 20 rfl fl_X2_9 sc_10 rfl dX2_take_17 ?_
  refine v_iconst 21 rfl dX2_take_20 ic_0 ?_
  refine v_aload_n 0 22 rfl dX2_take_21 rfl rfl ?_
  refine v_getr 25 rfl fl_X2_9 sc_1 rfl dX2_take_22 ?_
  refine v_iconst 26 rfl dX2_take_25 ic_0 ?_
  refine v_bipush 28 rfl dX2_take_26 bp_6 ?_
  refine n_copy 31 rfl (by omega) (Nat.le_of_ble_eq_true rfl) sc_11 sc_2 mw_474 mw_476 mw_475 mw_64 dX2_take_28 (fun h3 => ?_)
  refine v_aload_n 1 32 rfl dX2_take_31 rfl rfl ?_
  refine v_getr 35 rfl fl_X2_15 sc_10 rfl dX2_take_32 ?_
  refine v_iconst 36 rfl dX2_take_35 ic_0 ?_
  refine v_aload_n 0 37 rfl dX2_take_36 rfl rfl ?_
  refine v_getr 40 rfl fl_X2_15 sc_1 rfl dX2_take_37 ?_
  refine v_iconst 41 rfl dX2_take_40 ic_0 ?_
  refine v_bipush 43 rfl dX2_take_41 bp_6 ?_
  refine n_copy 46 rfl (by omega) (Nat.le_of_ble_eq_true rfl) sc_12 sc_3 mw_474 mw_476 mw_475 mw_64 dX2_take_43 (fun h4 => ?_)
  refine v_aload_n 1 47 rfl dX2_take_46 rfl rfl ?_
  refine v_getr 50 rfl fl_X2_18 sc_10 rfl dX2_take_47 ?_
  refine v_iconst 51 rfl dX2_take_50 ic_0 ?_
  refine v_aload_n 0 52 rfl dX2_take_51 rfl rfl ?_
  refine v_getr 55 rfl fl_X2_18 sc_1 rfl dX2_take_52 ?_
  refine v_iconst 56 rfl dX2_take_55 ic_0 ?_
  refine v_bipush 58 rfl dX2_take_56 bp_6 ?_
  refine n_copy 61 rfl (by omega) (Nat.le_of_ble_eq_true rfl) sc_13 sc_4 mw_474 mw_476 mw_475 mw_64 dX2_take_58 (fun h5 => ?_)
  refine v_aload_n 1 62 rfl dX2_take_61 rfl rfl ?_
  refine v_getr 65 rfl fl_X2_21 sc_10 rfl dX2_take_62 ?_
  refine v_iconst 66 rfl dX2_take_65 ic_0 ?_
  refine v_aload_n 0 67 rfl dX2_take_66 rfl rfl ?_
  refine v_getr 70 rfl fl_X2_21 sc_1 rfl dX2_take_67 ?_
  refine v_iconst 71 rfl dX2_take_70 ic_0 ?_
  refine v_bipush 73 rfl dX2_take_71 bp_6 ?_
  refine n_copy 76 rfl (by omega) (Nat.le_of_ble_eq_true rfl) sc_14 sc_5 mw_474 mw_476 mw_475 mw_64 dX2_take_73 (fun h6 => ?_)
  refine v_aload_n 1 77 rfl dX2_take_76 rfl rfl ?_
  refine v_getr 80 rfl fl_X2_24 sc_10 rfl dX2_take_77 ?_
  refine v_iconst 81 rfl dX2_take_80 ic_0 ?_
  refine v_aload_n 0 82 rfl dX2_take_81 rfl rfl ?_
  refine v_getr 85 rfl fl_X2_24 sc_1 rfl dX2_take_82 ?_
  refine v_iconst 86 rfl dX2_take_85 ic_0 ?_
  refine v_iconst 87 rfl dX2_take_86 ic_4 ?_
  refine n_copy 90 rfl (by omega) (Nat.le_of_ble_eq_true rfl) sc_15 sc_6 mw_474 mw_476 mw_475 mw_64 dX2_take_87 (fun h7 => ?_)
  refine v_aload_n 1 91 rfl dX2_take_90 rfl rfl ?_
  refine v_getr 94 rfl fl_X2_27 sc_10 rfl dX2_take_91 ?_
  refine v_iconst 95 rfl dX2_take_94 ic_0 ?_
  refine v_aload_n 0 96 rfl dX2_take_95 rfl rfl ?_
  refine v_getr 99 rfl fl_X2_27 sc_1 rfl dX2_take_96 ?_
  refine v_iconst 100 rfl dX2_take_99 ic_0 ?_
  refine v_iconst 101 rfl dX2_take_100 ic_4 ?_
  refine n_copy 104 rfl (by omega) (Nat.le_of_ble_eq_true rfl) sc_16 sc_7 mw_474 mw_476 mw_475 mw_64 dX2_take_101 (fun h8 => ?_)
  refine v_aload_n 1 105 rfl dX2_take_104 rfl rfl ?_
  refine v_getr 108 rfl fl_X2_30 sc_10 rfl dX2_take_105 ?_
  refine v_iconst 109 rfl dX2_take_108 ic_0 ?_
  refine v_aload_n 0 110 rfl dX2_take_109 rfl rfl ?_
  refine v_getr 113 rfl fl_X2_30 sc_1 rfl dX2_take_110 ?_
  refine v_iconst 114 rfl dX2_take_113 ic_0 ?_
  refine v_iconst 115 rfl dX2_take_114 ic_4 ?_
  refine n_copy 118 rfl (by omega) (Nat.le_of_ble_eq_true rfl) sc_17 sc_8 mw_474 mw_476 mw_475 mw_64 dX2_take_115 (fun h9 => ?_)
  exact v_vret rfl dX2_take_118
-- TemperNurses$Course.setCell(II)V at 20
def f1_setCell_20 (a1 : Int32) (a2 : Int32) (h : jv_H) : Option (Unit × jv_H) := jv_let (((h.1 20 1) * (19 : Int32)) + a1) fun x1 => if x1 < 0 then some ((), h) else if (209 : Int32) ≤ x1 then some ((), h) else if jv_ix x1 209 then jv_let (jv_p h 21 (Int32.toNatClampNeg x1) a2) fun h2 => some ((), h2) else none
set_option maxRecDepth 20000 in
theorem e1_setCell_20 {l : Launch} {d : Nat} {X : List jv_S} (hd : 0 ≤ d) (a1 : Int32) (a2 : Int32) (h : jv_H) : jv_E l yX1_setCell cX1_setCell 4 none d (SC ++ X) jv_rv [.ref 20, .int a1, .int a2] h (f1_setCell_20 a1 a2 h) := by
  refine e_of [(0, .ref 20), (1, .int a1), (2, .int a2)] rfl pn_X1 (fun _ => Nat.le_of_ble_eq_true rfl) (fun _ => rfl) ?_
  unfold f1_setCell_20
  refine v_aload_n 0 1 rfl dX1_setCell_0 rfl rfl ?_
  refine v_geti 4 rfl fl_X1_15 sc_20 rfl dX1_setCell_1 ?_
  refine v_bipush 6 rfl dX1_setCell_4 bp_19 ?_
  refine v_imul 7 rfl dX1_setCell_6 ?_
  refine v_iload_n 1 8 rfl dX1_setCell_7 rfl rfl ?_
  refine v_iadd 9 rfl dX1_setCell_8 ?_
  refine n_istore_n (fun x1 => [(0, .ref 20), (1, .int a1), (2, .int a2), (3, .int x1)]) 10 rfl dX1_setCell_9 rfl (Nat.le_of_ble_eq_true rfl) rfl (fun _ => rfl) (fun x1 => ?_)
  refine v_iload_n 3 11 rfl dX1_setCell_10 rfl rfl ?_
  refine v_if_lt 30 14 rfl rfl dX1_setCell_11 (fun _ => ?_) (fun _ => ?_)
  · exact v_vret rfl dX1_setCell_30
  · refine v_iload_n 3 15 rfl dX1_setCell_14 rfl rfl ?_
    refine v_aload_n 0 16 rfl dX1_setCell_15 rfl rfl ?_
    refine v_getr 19 rfl fl_X1_11 sc_20 rfl dX1_setCell_16 ?_
    refine v_alen (v := (209 : Int32)) 20 rfl sc_21 rfl dX1_setCell_19 ?_
    refine v_icmp_ge 30 23 rfl rfl dX1_setCell_20 (fun _ => ?_) (fun _ => ?_)
    · exact v_vret rfl dX1_setCell_30
    · refine v_aload_n 0 24 rfl dX1_setCell_23 rfl rfl ?_
      refine v_getr 27 rfl fl_X1_11 sc_20 rfl dX1_setCell_24 ?_
      refine v_iload_n 3 28 rfl dX1_setCell_27 rfl rfl ?_
      refine v_iload_n 2 29 rfl dX1_setCell_28 rfl rfl ?_
      refine n_iast 30 rfl sc_21 dX1_setCell_29 (fun h2 => ?_)
      exact v_vret rfl dX1_setCell_30
-- TemperNurses$Course.setYear(I)V at 20
def f1_setYear_20 (a1 : Int32) (h : jv_H) : Option (Unit × jv_H) := (f1_setCell_20 (0 : Int32) a1 h).bind fun q1 => some ((), q1.2)
set_option maxRecDepth 20000 in
theorem e1_setYear_20 {l : Launch} {d : Nat} {X : List jv_S} (hd : 1 ≤ d) (a1 : Int32) (h : jv_H) : jv_E l yX1_setYear cX1_setYear 2 none d (SC ++ X) jv_rv [.ref 20, .int a1] h (f1_setYear_20 a1 h) := by
  refine e_of [(0, .ref 20), (1, .int a1)] rfl pn_X1 (fun _ => Nat.le_of_ble_eq_true rfl) (fun _ => rfl) ?_
  unfold f1_setYear_20
  refine v_aload_n 0 1 rfl dX1_setYear_0 rfl rfl ?_
  refine v_iconst 2 rfl dX1_setYear_1 ic_0 ?_
  refine v_iload_n 1 3 rfl dX1_setYear_2 rfl rfl ?_
  refine n_callv [.int (0 : Int32), .int a1] [] (fun _ => []) 6 rfl (by omega) (Nat.le_of_ble_eq_true rfl) cb_X1_setCell cv_X1_48 sc_20 cn_X1 rfl (Nat.le_of_ble_eq_true rfl) dX1_setYear_3 rfl (fun _ => rfl) (e1_setCell_20 (by omega) (0 : Int32) a1 h) (fun q1 => ?_)
  exact v_vret rfl dX1_setYear_6
-- TemperNurses$Course.setHeat(II)V at 20
def f1_setHeat_20 (a1 : Int32) (a2 : Int32) (h : jv_H) : Option (Unit × jv_H) := (f1_setCell_20 ((1 : Int32) + a1) a2 h).bind fun q1 => some ((), q1.2)
set_option maxRecDepth 20000 in
theorem e1_setHeat_20 {l : Launch} {d : Nat} {X : List jv_S} (hd : 1 ≤ d) (a1 : Int32) (a2 : Int32) (h : jv_H) : jv_E l yX1_setHeat cX1_setHeat 3 none d (SC ++ X) jv_rv [.ref 20, .int a1, .int a2] h (f1_setHeat_20 a1 a2 h) := by
  refine e_of [(0, .ref 20), (1, .int a1), (2, .int a2)] rfl pn_X1 (fun _ => Nat.le_of_ble_eq_true rfl) (fun _ => rfl) ?_
  unfold f1_setHeat_20
  refine v_aload_n 0 1 rfl dX1_setHeat_0 rfl rfl ?_
  refine v_iconst 2 rfl dX1_setHeat_1 ic_1 ?_
  refine v_iload_n 1 3 rfl dX1_setHeat_2 rfl rfl ?_
  refine v_iadd 4 rfl dX1_setHeat_3 ?_
  refine v_iload_n 2 5 rfl dX1_setHeat_4 rfl rfl ?_
  refine n_callv [.int ((1 : Int32) + a1), .int a2] [] (fun _ => []) 8 rfl (by omega) (Nat.le_of_ble_eq_true rfl) cb_X1_setCell cv_X1_48 sc_20 cn_X1 rfl (Nat.le_of_ble_eq_true rfl) dX1_setHeat_5 rfl (fun _ => rfl) (e1_setCell_20 (by omega) ((1 : Int32) + a1) a2 h) (fun q1 => ?_)
  exact v_vret rfl dX1_setHeat_8
-- TemperNurses$Course.setPlace(II)V at 20
def f1_setPlace_20 (a1 : Int32) (a2 : Int32) (h : jv_H) : Option (Unit × jv_H) := (f1_setCell_20 ((7 : Int32) + a1) a2 h).bind fun q1 => some ((), q1.2)
set_option maxRecDepth 20000 in
theorem e1_setPlace_20 {l : Launch} {d : Nat} {X : List jv_S} (hd : 1 ≤ d) (a1 : Int32) (a2 : Int32) (h : jv_H) : jv_E l yX1_setPlace cX1_setPlace 3 none d (SC ++ X) jv_rv [.ref 20, .int a1, .int a2] h (f1_setPlace_20 a1 a2 h) := by
  refine e_of [(0, .ref 20), (1, .int a1), (2, .int a2)] rfl pn_X1 (fun _ => Nat.le_of_ble_eq_true rfl) (fun _ => rfl) ?_
  unfold f1_setPlace_20
  refine v_aload_n 0 1 rfl dX1_setPlace_0 rfl rfl ?_
  refine v_bipush 3 rfl dX1_setPlace_1 bp_7 ?_
  refine v_iload_n 1 4 rfl dX1_setPlace_3 rfl rfl ?_
  refine v_iadd 5 rfl dX1_setPlace_4 ?_
  refine v_iload_n 2 6 rfl dX1_setPlace_5 rfl rfl ?_
  refine n_callv [.int ((7 : Int32) + a1), .int a2] [] (fun _ => []) 9 rfl (by omega) (Nat.le_of_ble_eq_true rfl) cb_X1_setCell cv_X1_48 sc_20 cn_X1 rfl (Nat.le_of_ble_eq_true rfl) dX1_setPlace_6 rfl (fun _ => rfl) (e1_setCell_20 (by omega) ((7 : Int32) + a1) a2 h) (fun q1 => ?_)
  exact v_vret rfl dX1_setPlace_9
-- TemperNurses$Course.setOwner(II)V at 20
def f1_setOwner_20 (a1 : Int32) (a2 : Int32) (h : jv_H) : Option (Unit × jv_H) := (f1_setCell_20 ((13 : Int32) + a1) a2 h).bind fun q1 => some ((), q1.2)
set_option maxRecDepth 20000 in
theorem e1_setOwner_20 {l : Launch} {d : Nat} {X : List jv_S} (hd : 1 ≤ d) (a1 : Int32) (a2 : Int32) (h : jv_H) : jv_E l yX1_setOwner cX1_setOwner 3 none d (SC ++ X) jv_rv [.ref 20, .int a1, .int a2] h (f1_setOwner_20 a1 a2 h) := by
  refine e_of [(0, .ref 20), (1, .int a1), (2, .int a2)] rfl pn_X1 (fun _ => Nat.le_of_ble_eq_true rfl) (fun _ => rfl) ?_
  unfold f1_setOwner_20
  refine v_aload_n 0 1 rfl dX1_setOwner_0 rfl rfl ?_
  refine v_bipush 3 rfl dX1_setOwner_1 bp_13 ?_
  refine v_iload_n 1 4 rfl dX1_setOwner_3 rfl rfl ?_
  refine v_iadd 5 rfl dX1_setOwner_4 ?_
  refine v_iload_n 2 6 rfl dX1_setOwner_5 rfl rfl ?_
  refine n_callv [.int ((13 : Int32) + a1), .int a2] [] (fun _ => []) 9 rfl (by omega) (Nat.le_of_ble_eq_true rfl) cb_X1_setCell cv_X1_48 sc_20 cn_X1 rfl (Nat.le_of_ble_eq_true rfl) dX1_setOwner_6 rfl (fun _ => rfl) (e1_setCell_20 (by omega) ((13 : Int32) + a1) a2 h) (fun q1 => ?_)
  exact v_vret rfl dX1_setOwner_9
-- TemperNurses$Course.begin(LTemperNurses$Hill;)V at 20, 1
def g1_begin_20_1_b12 (k12 : Int32 → jv_H → Option (Unit × jv_H)) (a2 : Int32) (h : jv_H) : Option (Unit × jv_H) := if (6 : Int32) ≤ a2 then some ((), h) else if jv_ix a2 6 then (f1_setHeat_20 a2 (h.1 2 (Int32.toNatClampNeg a2)) h).bind fun q1 => (f1_setPlace_20 a2 (-9 : Int32) q1.2).bind fun q2 => (f1_setOwner_20 a2 a2 q2.2).bind fun q3 => jv_let (a2 + (1 : Int32)) fun x4 => k12 x4 q3.2 else none
set_option maxRecDepth 20000 in
theorem b1_begin_20_1_b12 {l : Launch} {d : Nat} {X : List jv_S} (hd : 2 ≤ d) (k12 : Int32 → jv_H → Option (Unit × jv_H)) (hk12 : ∀ (a2 : Int32) (h : jv_H), jv_V l RX1 cX1_begin 3 none d (SC ++ X) jv_rv 12 [(0, .ref 20), (1, .ref 1), (2, .int a2)] [] h (k12 a2 h)) : ∀ (a2 : Int32) (h : jv_H), jv_V l RX1 cX1_begin 3 none d (SC ++ X) jv_rv 12 [(0, .ref 20), (1, .ref 1), (2, .int a2)] [] h (g1_begin_20_1_b12 k12 a2 h) := by
  intro a2 h
  unfold g1_begin_20_1_b12
  refine v_iload_n 2 13 rfl dX1_begin_12 rfl rfl ?_
  refine v_bipush 15 rfl dX1_begin_13 bp_6 ?_
  refine v_icmp_ge 48 18 rfl rfl dX1_begin_15 (fun _ => ?_) (fun _ => ?_)
  · exact v_vret rfl dX1_begin_48
  · refine v_aload_n 0 19 rfl dX1_begin_18 rfl rfl ?_
    refine v_iload_n 2 20 rfl dX1_begin_19 rfl rfl ?_
    refine v_aload_n 1 21 rfl dX1_begin_20 rfl rfl ?_
    refine v_getr 24 rfl fl_X1_23 sc_1 rfl dX1_begin_21 ?_
    refine v_iload_n 2 25 rfl dX1_begin_24 rfl rfl ?_
    refine v_iald 26 rfl sc_2 dX1_begin_25 (fun _ => ?_)
    refine n_callv [.int a2, .int (h.1 2 (Int32.toNatClampNeg a2))] [] (fun _ => []) 29 rfl (by omega) (Nat.le_of_ble_eq_true rfl) cb_X1_setHeat cv_X1_28 sc_20 cn_X1 rfl (Nat.le_of_ble_eq_true rfl) dX1_begin_26 rfl (fun _ => rfl) (e1_setHeat_20 (by omega) a2 (h.1 2 (Int32.toNatClampNeg a2)) h) (fun q1 => ?_)
    refine v_aload_n 0 30 rfl dX1_begin_29 rfl rfl ?_
    refine v_iload_n 2 31 rfl dX1_begin_30 rfl rfl ?_
    refine v_bipush 33 rfl dX1_begin_31 bp_m9 ?_
    refine n_callv [.int a2, .int (-9 : Int32)] [] (fun _ => []) 36 rfl (by omega) (Nat.le_of_ble_eq_true rfl) cb_X1_setPlace cv_X1_32 sc_20 cn_X1 rfl (Nat.le_of_ble_eq_true rfl) dX1_begin_33 rfl (fun _ => rfl) (e1_setPlace_20 (by omega) a2 (-9 : Int32) q1.2) (fun q2 => ?_)
    refine v_aload_n 0 37 rfl dX1_begin_36 rfl rfl ?_
    refine v_iload_n 2 38 rfl dX1_begin_37 rfl rfl ?_
    refine v_iload_n 2 39 rfl dX1_begin_38 rfl rfl ?_
    refine n_callv [.int a2, .int a2] [] (fun _ => []) 42 rfl (by omega) (Nat.le_of_ble_eq_true rfl) cb_X1_setOwner cv_X1_35 sc_20 cn_X1 rfl (Nat.le_of_ble_eq_true rfl) dX1_begin_39 rfl (fun _ => rfl) (e1_setOwner_20 (by omega) a2 a2 q2.2) (fun q3 => ?_)
    refine n_iinc (fun x4 => [(0, .ref 20), (1, .ref 1), (2, .int x4)]) 2 45 rfl dX1_begin_42 rfl ic_1 (Nat.le_of_ble_eq_true rfl) rfl (fun _ => rfl) (fun x4 => ?_)
    refine v_goto 12 rfl dX1_begin_45 ?_
    exact hk12 x4 q3.2
def f1_begin_20_1_l12 : Nat → Int32 → jv_H → Option (Unit × jv_H)
  | 0 => fun _ _ => none
  | n + 1 => fun a2 h => g1_begin_20_1_b12 (f1_begin_20_1_l12 n) a2 h
theorem w1_begin_20_1_l12 {l : Launch} {d : Nat} {X : List jv_S} (hd : 2 ≤ d) : ∀ (n : Nat) (a2 : Int32) (h : jv_H), jv_V l RX1 cX1_begin 3 none d (SC ++ X) jv_rv 12 [(0, .ref 20), (1, .ref 1), (2, .int a2)] [] h (f1_begin_20_1_l12 n a2 h) := by
  intro n
  induction n with
  | zero => intro a2 h; exact v_none
  | succ n ih => intro a2 h; exact b1_begin_20_1_b12 hd (f1_begin_20_1_l12 n) ih a2 h
def f1_begin_20_1 (h : jv_H) : Option (Unit × jv_H) := jv_let (jv_p h 20 1 (0 : Int32)) fun h1 => (f1_setYear_20 (0 : Int32) h1).bind fun q2 => jv_let (0 : Int32) fun x3 => f1_begin_20_1_l12 jv_fuel x3 q2.2
set_option maxRecDepth 20000 in
theorem e1_begin_20_1 {l : Launch} {d : Nat} {X : List jv_S} (hd : 2 ≤ d) (h : jv_H) : jv_E l yX1_begin cX1_begin 3 none d (SC ++ X) jv_rv [.ref 20, .ref 1] h (f1_begin_20_1  h) := by
  refine e_of [(0, .ref 20), (1, .ref 1)] rfl pn_X1 (fun _ => Nat.le_of_ble_eq_true rfl) (fun _ => rfl) ?_
  unfold f1_begin_20_1
  refine v_aload_n 0 1 rfl dX1_begin_0 rfl rfl ?_
  refine v_iconst 2 rfl dX1_begin_1 ic_0 ?_
  refine n_puti 5 rfl fl_X1_15 sc_20 rfl dX1_begin_2 (fun h1 => ?_)
  refine v_aload_n 0 6 rfl dX1_begin_5 rfl rfl ?_
  refine v_iconst 7 rfl dX1_begin_6 ic_0 ?_
  refine n_callv [.int (0 : Int32)] [] (fun _ => []) 10 rfl (by omega) (Nat.le_of_ble_eq_true rfl) cb_X1_setYear cv_X1_19 sc_20 cn_X1 rfl (Nat.le_of_ble_eq_true rfl) dX1_begin_7 rfl (fun _ => rfl) (e1_setYear_20 (by omega) (0 : Int32) h1) (fun q2 => ?_)
  refine v_iconst 11 rfl dX1_begin_10 ic_0 ?_
  refine n_istore_n (fun x3 => [(0, .ref 20), (1, .ref 1), (2, .int x3)]) 12 rfl dX1_begin_11 rfl (Nat.le_of_ble_eq_true rfl) rfl (fun _ => rfl) (fun x3 => ?_)
  exact w1_begin_20_1_l12 hd jv_fuel x3 q2.2
-- TemperNurses$Listener.empty()I at 31
def f5_empty_31 (h : jv_H) : Option (Int32 × jv_H) := jv_let (h.1 31 3) fun x1 => jv_let (jv_p h 31 3 (0 : Int32)) fun h2 => some (x1, h2)
set_option maxRecDepth 20000 in
theorem e5_empty_31 {l : Launch} {d : Nat} {X : List jv_S} (hd : 0 ≤ d) (h : jv_H) : jv_E l yX5_empty cX5_empty 2 (some .int) d (SC ++ X) jv_ri [.ref 31] h (f5_empty_31  h) := by
  refine e_of [(0, .ref 31)] rfl pn_X5 (fun _ => Nat.le_of_ble_eq_true rfl) (fun _ => rfl) ?_
  unfold f5_empty_31
  refine v_aload_n 0 1 rfl dX5_empty_0 rfl rfl ?_
  refine v_geti 4 rfl fl_X5_22 sc_31 rfl dX5_empty_1 ?_
  refine n_istore_n (fun x1 => [(0, .ref 31), (1, .int x1)]) 5 rfl dX5_empty_4 rfl (Nat.le_of_ble_eq_true rfl) rfl (fun _ => rfl) (fun x1 => ?_)
  refine v_aload_n 0 6 rfl dX5_empty_5 rfl rfl ?_
  refine v_iconst 7 rfl dX5_empty_6 ic_0 ?_
  refine n_puti 10 rfl fl_X5_22 sc_31 rfl dX5_empty_7 (fun h2 => ?_)
  refine v_iload_n 1 11 rfl dX5_empty_10 rfl rfl ?_
  exact v_iret rfl dX5_empty_11
-- TemperNurses.hill()I at 0
def f8_hill_0 (h : jv_H) : Option (Int32 × jv_H) := (f7_readAll_9 h).bind fun q1 => jv_let q1.1 fun x2 => if 0 ≤ x2 then (f2_take_1_10 q1.2).bind fun q3 => (f1_begin_20_1 q3.2).bind fun q4 => (f5_empty_31 q4.2).bind fun q5 => jv_let (jv_p q5.2 0 11 (0 : Int32)) fun h6 => (f7_empty_9 h6).bind fun q7 => some (x2, q7.2) else some (x2, q1.2)
set_option maxRecDepth 20000 in
theorem e8_hill_0 {l : Launch} {d : Nat} {X : List jv_S} (hd : 6 ≤ d) (h : jv_H) : jv_E l yX8_hill cX8_hill 2 (some .int) d (SC ++ X) jv_ri [.ref 0] h (f8_hill_0  h) := by
  refine e_of [(0, .ref 0)] rfl pn_X8 (fun _ => Nat.le_of_ble_eq_true rfl) (fun _ => rfl) ?_
  unfold f8_hill_0
  refine v_aload_n 0 1 rfl dX8_hill_0 rfl rfl ?_
  refine v_getr 4 rfl fl_X8_19 sc_0 rfl dX8_hill_1 ?_
  refine n_callv [] [] (fun r => .int r :: []) 7 rfl (by omega) (Nat.le_of_ble_eq_true rfl) cb_X7_readAll cv_X8_99 sc_9 cn_X7 rfl (Nat.le_of_ble_eq_true rfl) dX8_hill_4 rfl (fun _ => rfl) (e7_readAll_9 (by omega)  h) (fun q1 => ?_)
  refine n_istore_n (fun x2 => [(0, .ref 0), (1, .int x2)]) 8 rfl dX8_hill_7 rfl (Nat.le_of_ble_eq_true rfl) rfl (fun _ => rfl) (fun x2 => ?_)
  refine v_iload_n 1 9 rfl dX8_hill_8 rfl rfl ?_
  refine v_if_ge 14 12 rfl rfl dX8_hill_9 (fun _ => ?_) (fun _ => ?_)
  · refine v_aload_n 0 15 rfl dX8_hill_14 rfl rfl ?_
    refine v_getr 18 rfl fl_X8_10 sc_0 rfl dX8_hill_15 ?_
    refine v_aload_n 0 19 rfl dX8_hill_18 rfl rfl ?_
    refine v_getr 22 rfl fl_X8_19 sc_0 rfl dX8_hill_19 ?_
    refine v_getr 25 rfl fl_X8_102 sc_9 rfl dX8_hill_22 ?_
    refine n_callv [.ref 10] [] (fun _ => []) 28 rfl (by omega) (Nat.le_of_ble_eq_true rfl) cb_X2_take cv_X8_105 sc_1 cn_X2 rfl (Nat.le_of_ble_eq_true rfl) dX8_hill_25 rfl (fun _ => rfl) (e2_take_1_10 (by omega)  q1.2) (fun q3 => ?_)
    refine v_aload_n 0 29 rfl dX8_hill_28 rfl rfl ?_
    refine v_getr 32 rfl fl_X8_26 sc_0 rfl dX8_hill_29 ?_
    refine v_aload_n 0 33 rfl dX8_hill_32 rfl rfl ?_
    refine v_getr 36 rfl fl_X8_10 sc_0 rfl dX8_hill_33 ?_
    refine n_callv [.ref 1] [] (fun _ => []) 39 rfl (by omega) (Nat.le_of_ble_eq_true rfl) cb_X1_begin cv_X8_79 sc_20 cn_X1 rfl (Nat.le_of_ble_eq_true rfl) dX8_hill_36 rfl (fun _ => rfl) (e1_begin_20_1 (by omega)  q3.2) (fun q4 => ?_)
    refine v_aload_n 0 40 rfl dX8_hill_39 rfl rfl ?_
    refine v_getr 43 rfl fl_X8_58 sc_0 rfl dX8_hill_40 ?_
    refine n_callv [] [] (fun r => .int r :: []) 46 rfl (by omega) (Nat.le_of_ble_eq_true rfl) cb_X5_empty cv_X8_108 sc_31 cn_X5 rfl (Nat.le_of_ble_eq_true rfl) dX8_hill_43 rfl (fun _ => rfl) (e5_empty_31 (by omega)  q4.2) (fun q5 => ?_)
    refine v_popi 47 rfl dX8_hill_46 ?_
    refine v_aload_n 0 48 rfl dX8_hill_47 rfl rfl ?_
    refine v_iconst 49 rfl dX8_hill_48 ic_0 ?_
    refine n_puti 52 rfl fl_X8_109 sc_0 rfl dX8_hill_49 (fun h6 => ?_)
    refine v_aload_n 0 53 rfl dX8_hill_52 rfl rfl ?_
    refine v_getr 56 rfl fl_X8_19 sc_0 rfl dX8_hill_53 ?_
    refine n_callv [] [] (fun r => .int r :: []) 59 rfl (by omega) (Nat.le_of_ble_eq_true rfl) cb_X7_empty cv_X8_95 sc_9 cn_X7 rfl (Nat.le_of_ble_eq_true rfl) dX8_hill_56 rfl (fun _ => rfl) (e7_empty_9 (by omega)  h6) (fun q7 => ?_)
    refine v_popi 60 rfl dX8_hill_59 ?_
    refine v_iload_n 1 61 rfl dX8_hill_60 rfl rfl ?_
    exact v_iret rfl dX8_hill_61
  · refine v_iload_n 1 13 rfl dX8_hill_12 rfl rfl ?_
    exact v_iret rfl dX8_hill_13
-- TemperNurses$Hill.hasTemper(I)Z at 1
def f2_hasTemper_1 (a1 : Int32) (h : jv_H) : Option (Int32 × jv_H) := if a1 < 0 then some ((0 : Int32), h) else if (h.1 1 0) ≤ a1 then some ((0 : Int32), h) else some ((1 : Int32), h)
set_option maxRecDepth 20000 in
theorem e2_hasTemper_1 {l : Launch} {d : Nat} {X : List jv_S} (hd : 0 ≤ d) (a1 : Int32) (h : jv_H) : jv_E l yX2_hasTemper cX2_hasTemper 2 (some .boolean) d (SC ++ X) jv_ri [.ref 1, .int a1] h (f2_hasTemper_1 a1 h) := by
  refine e_of [(0, .ref 1), (1, .int a1)] rfl pn_X2 (fun _ => Nat.le_of_ble_eq_true rfl) (fun _ => rfl) ?_
  unfold f2_hasTemper_1
  refine v_iload_n 1 1 rfl dX2_hasTemper_0 rfl rfl ?_
  refine v_if_lt 16 4 rfl rfl dX2_hasTemper_1 (fun _ => ?_) (fun _ => ?_)
  · refine v_iconst 17 rfl dX2_hasTemper_16 ic_0 ?_
    exact v_zr0 dX2_hasTemper_17
  · refine v_iload_n 1 5 rfl dX2_hasTemper_4 rfl rfl ?_
    refine v_aload_n 0 6 rfl dX2_hasTemper_5 rfl rfl ?_
    refine v_geti 9 rfl fl_X2_33 sc_1 rfl dX2_hasTemper_6 ?_
    refine v_icmp_ge 16 12 rfl rfl dX2_hasTemper_9 (fun _ => ?_) (fun _ => ?_)
    · refine v_iconst 17 rfl dX2_hasTemper_16 ic_0 ?_
      exact v_zr0 dX2_hasTemper_17
    · refine v_iconst 13 rfl dX2_hasTemper_12 ic_1 ?_
      refine v_goto 17 rfl dX2_hasTemper_13 ?_
      exact v_zr1 dX2_hasTemper_17
-- TemperNurses$Course.cell(I)I at 20
def f1_cell_20 (a1 : Int32) (h : jv_H) : Option (Int32 × jv_H) := jv_let (((h.1 20 1) * (19 : Int32)) + a1) fun x1 => if x1 < 0 then some ((0 : Int32), h) else if (209 : Int32) ≤ x1 then some ((0 : Int32), h) else if jv_ix x1 209 then some ((h.1 21 (Int32.toNatClampNeg x1)), h) else none
set_option maxRecDepth 20000 in
theorem e1_cell_20 {l : Launch} {d : Nat} {X : List jv_S} (hd : 0 ≤ d) (a1 : Int32) (h : jv_H) : jv_E l yX1_cell cX1_cell 3 (some .int) d (SC ++ X) jv_ri [.ref 20, .int a1] h (f1_cell_20 a1 h) := by
  refine e_of [(0, .ref 20), (1, .int a1)] rfl pn_X1 (fun _ => Nat.le_of_ble_eq_true rfl) (fun _ => rfl) ?_
  unfold f1_cell_20
  refine v_aload_n 0 1 rfl dX1_cell_0 rfl rfl ?_
  refine v_geti 4 rfl fl_X1_15 sc_20 rfl dX1_cell_1 ?_
  refine v_bipush 6 rfl dX1_cell_4 bp_19 ?_
  refine v_imul 7 rfl dX1_cell_6 ?_
  refine v_iload_n 1 8 rfl dX1_cell_7 rfl rfl ?_
  refine v_iadd 9 rfl dX1_cell_8 ?_
  refine n_istore_n (fun x1 => [(0, .ref 20), (1, .int a1), (2, .int x1)]) 10 rfl dX1_cell_9 rfl (Nat.le_of_ble_eq_true rfl) rfl (fun _ => rfl) (fun x1 => ?_)
  refine v_iload_n 2 11 rfl dX1_cell_10 rfl rfl ?_
  refine v_if_lt 32 14 rfl rfl dX1_cell_11 (fun _ => ?_) (fun _ => ?_)
  · refine v_iconst 33 rfl dX1_cell_32 ic_0 ?_
    exact v_iret rfl dX1_cell_33
  · refine v_iload_n 2 15 rfl dX1_cell_14 rfl rfl ?_
    refine v_aload_n 0 16 rfl dX1_cell_15 rfl rfl ?_
    refine v_getr 19 rfl fl_X1_11 sc_20 rfl dX1_cell_16 ?_
    refine v_alen (v := (209 : Int32)) 20 rfl sc_21 rfl dX1_cell_19 ?_
    refine v_icmp_ge 32 23 rfl rfl dX1_cell_20 (fun _ => ?_) (fun _ => ?_)
    · refine v_iconst 33 rfl dX1_cell_32 ic_0 ?_
      exact v_iret rfl dX1_cell_33
    · refine v_aload_n 0 24 rfl dX1_cell_23 rfl rfl ?_
      refine v_getr 27 rfl fl_X1_11 sc_20 rfl dX1_cell_24 ?_
      refine v_iload_n 2 28 rfl dX1_cell_27 rfl rfl ?_
      refine v_iald 29 rfl sc_21 dX1_cell_28 (fun _ => ?_)
      refine v_goto 33 rfl dX1_cell_29 ?_
      exact v_iret rfl dX1_cell_33
-- TemperNurses$Course.heat(I)I at 20
def f1_heat_20 (a1 : Int32) (h : jv_H) : Option (Int32 × jv_H) := (f1_cell_20 ((1 : Int32) + a1) h).bind fun q1 => some (q1.1, q1.2)
set_option maxRecDepth 20000 in
theorem e1_heat_20 {l : Launch} {d : Nat} {X : List jv_S} (hd : 1 ≤ d) (a1 : Int32) (h : jv_H) : jv_E l yX1_heat cX1_heat 2 (some .int) d (SC ++ X) jv_ri [.ref 20, .int a1] h (f1_heat_20 a1 h) := by
  refine e_of [(0, .ref 20), (1, .int a1)] rfl pn_X1 (fun _ => Nat.le_of_ble_eq_true rfl) (fun _ => rfl) ?_
  unfold f1_heat_20
  refine v_aload_n 0 1 rfl dX1_heat_0 rfl rfl ?_
  refine v_iconst 2 rfl dX1_heat_1 ic_1 ?_
  refine v_iload_n 1 3 rfl dX1_heat_2 rfl rfl ?_
  refine v_iadd 4 rfl dX1_heat_3 ?_
  refine n_callv [.int ((1 : Int32) + a1)] [] (fun r => .int r :: []) 7 rfl (by omega) (Nat.le_of_ble_eq_true rfl) cb_X1_cell cv_X1_44 sc_20 cn_X1 rfl (Nat.le_of_ble_eq_true rfl) dX1_heat_4 rfl (fun _ => rfl) (e1_cell_20 (by omega) ((1 : Int32) + a1) h) (fun q1 => ?_)
  exact v_iret rfl dX1_heat_7
-- TemperNurses$Course.place(I)I at 20
def f1_place_20 (a1 : Int32) (h : jv_H) : Option (Int32 × jv_H) := (f1_cell_20 ((7 : Int32) + a1) h).bind fun q1 => some (q1.1, q1.2)
set_option maxRecDepth 20000 in
theorem e1_place_20 {l : Launch} {d : Nat} {X : List jv_S} (hd : 1 ≤ d) (a1 : Int32) (h : jv_H) : jv_E l yX1_place cX1_place 2 (some .int) d (SC ++ X) jv_ri [.ref 20, .int a1] h (f1_place_20 a1 h) := by
  refine e_of [(0, .ref 20), (1, .int a1)] rfl pn_X1 (fun _ => Nat.le_of_ble_eq_true rfl) (fun _ => rfl) ?_
  unfold f1_place_20
  refine v_aload_n 0 1 rfl dX1_place_0 rfl rfl ?_
  refine v_bipush 3 rfl dX1_place_1 bp_7 ?_
  refine v_iload_n 1 4 rfl dX1_place_3 rfl rfl ?_
  refine v_iadd 5 rfl dX1_place_4 ?_
  refine n_callv [.int ((7 : Int32) + a1)] [] (fun r => .int r :: []) 8 rfl (by omega) (Nat.le_of_ble_eq_true rfl) cb_X1_cell cv_X1_44 sc_20 cn_X1 rfl (Nat.le_of_ble_eq_true rfl) dX1_place_5 rfl (fun _ => rfl) (e1_cell_20 (by omega) ((7 : Int32) + a1) h) (fun q1 => ?_)
  exact v_iret rfl dX1_place_8
-- TemperNurses$Course.owner(I)I at 20
def f1_owner_20 (a1 : Int32) (h : jv_H) : Option (Int32 × jv_H) := (f1_cell_20 ((13 : Int32) + a1) h).bind fun q1 => some (q1.1, q1.2)
set_option maxRecDepth 20000 in
theorem e1_owner_20 {l : Launch} {d : Nat} {X : List jv_S} (hd : 1 ≤ d) (a1 : Int32) (h : jv_H) : jv_E l yX1_owner cX1_owner 2 (some .int) d (SC ++ X) jv_ri [.ref 20, .int a1] h (f1_owner_20 a1 h) := by
  refine e_of [(0, .ref 20), (1, .int a1)] rfl pn_X1 (fun _ => Nat.le_of_ble_eq_true rfl) (fun _ => rfl) ?_
  unfold f1_owner_20
  refine v_aload_n 0 1 rfl dX1_owner_0 rfl rfl ?_
  refine v_bipush 3 rfl dX1_owner_1 bp_13 ?_
  refine v_iload_n 1 4 rfl dX1_owner_3 rfl rfl ?_
  refine v_iadd 5 rfl dX1_owner_4 ?_
  refine n_callv [.int ((13 : Int32) + a1)] [] (fun r => .int r :: []) 8 rfl (by omega) (Nat.le_of_ble_eq_true rfl) cb_X1_cell cv_X1_44 sc_20 cn_X1 rfl (Nat.le_of_ble_eq_true rfl) dX1_owner_5 rfl (fun _ => rfl) (e1_cell_20 (by omega) ((13 : Int32) + a1) h) (fun q1 => ?_)
  exact v_iret rfl dX1_owner_8
-- TemperNurses$Course.ring(I)I at 20
def g1_ring_20_b8 (k8 : Int32 → Int32 → Int32 → jv_H → Option (Int32 × jv_H)) (a1 : Int32) (a2 : Int32) (a3 : Int32) (h : jv_H) : Option (Int32 × jv_H) := if a2 = a1 then some (a3, h) else if (6 : Int32) ≤ a3 then some (a3, h) else (f1_owner_20 a2 h).bind fun q1 => jv_let q1.1 fun x2 => jv_let (a3 + (1 : Int32)) fun x3 => k8 a1 x2 x3 q1.2
set_option maxRecDepth 20000 in
theorem b1_ring_20_b8 {l : Launch} {d : Nat} {X : List jv_S} (hd : 2 ≤ d) (k8 : Int32 → Int32 → Int32 → jv_H → Option (Int32 × jv_H)) (hk8 : ∀ (a1 a2 a3 : Int32) (h : jv_H), jv_V l RX1 cX1_ring 4 (some .int) d (SC ++ X) jv_ri 8 [(0, .ref 20), (1, .int a1), (2, .int a2), (3, .int a3)] [] h (k8 a1 a2 a3 h)) : ∀ (a1 : Int32) (a2 : Int32) (a3 : Int32) (h : jv_H), jv_V l RX1 cX1_ring 4 (some .int) d (SC ++ X) jv_ri 8 [(0, .ref 20), (1, .int a1), (2, .int a2), (3, .int a3)] [] h (g1_ring_20_b8 k8 a1 a2 a3 h) := by
  intro a1 a2 a3 h
  unfold g1_ring_20_b8
  refine v_iload_n 2 9 rfl dX1_ring_8 rfl rfl ?_
  refine v_iload_n 1 10 rfl dX1_ring_9 rfl rfl ?_
  refine v_icmp_eq 31 13 rfl rfl dX1_ring_10 (fun _ => ?_) (fun _ => ?_)
  · refine v_iload_n 3 32 rfl dX1_ring_31 rfl rfl ?_
    exact v_iret rfl dX1_ring_32
  · refine v_iload_n 3 14 rfl dX1_ring_13 rfl rfl ?_
    refine v_bipush 16 rfl dX1_ring_14 bp_6 ?_
    refine v_icmp_ge 31 19 rfl rfl dX1_ring_16 (fun _ => ?_) (fun _ => ?_)
    · refine v_iload_n 3 32 rfl dX1_ring_31 rfl rfl ?_
      exact v_iret rfl dX1_ring_32
    · refine v_aload_n 0 20 rfl dX1_ring_19 rfl rfl ?_
      refine v_iload_n 2 21 rfl dX1_ring_20 rfl rfl ?_
      refine n_callv [.int a2] [] (fun r => .int r :: []) 24 rfl (by omega) (Nat.le_of_ble_eq_true rfl) cb_X1_owner cv_X1_51 sc_20 cn_X1 rfl (Nat.le_of_ble_eq_true rfl) dX1_ring_21 rfl (fun _ => rfl) (e1_owner_20 (by omega) a2 h) (fun q1 => ?_)
      refine n_istore_n (fun x2 => [(0, .ref 20), (1, .int a1), (2, .int x2), (3, .int a3)]) 25 rfl dX1_ring_24 rfl (Nat.le_of_ble_eq_true rfl) rfl (fun _ => rfl) (fun x2 => ?_)
      refine n_iinc (fun x3 => [(0, .ref 20), (1, .int a1), (2, .int x2), (3, .int x3)]) 3 28 rfl dX1_ring_25 rfl ic_1 (Nat.le_of_ble_eq_true rfl) rfl (fun _ => rfl) (fun x3 => ?_)
      refine v_goto 8 rfl dX1_ring_28 ?_
      exact hk8 a1 x2 x3 q1.2
def f1_ring_20_l8 : Nat → Int32 → Int32 → Int32 → jv_H → Option (Int32 × jv_H)
  | 0 => fun _ _ _ _ => none
  | n + 1 => fun a1 a2 a3 h => g1_ring_20_b8 (f1_ring_20_l8 n) a1 a2 a3 h
theorem w1_ring_20_l8 {l : Launch} {d : Nat} {X : List jv_S} (hd : 2 ≤ d) : ∀ (n : Nat) (a1 : Int32) (a2 : Int32) (a3 : Int32) (h : jv_H), jv_V l RX1 cX1_ring 4 (some .int) d (SC ++ X) jv_ri 8 [(0, .ref 20), (1, .int a1), (2, .int a2), (3, .int a3)] [] h (f1_ring_20_l8 n a1 a2 a3 h) := by
  intro n
  induction n with
  | zero => intro a1 a2 a3 h; exact v_none
  | succ n ih => intro a1 a2 a3 h; exact b1_ring_20_b8 hd (f1_ring_20_l8 n) ih a1 a2 a3 h
def f1_ring_20 (a1 : Int32) (h : jv_H) : Option (Int32 × jv_H) := (f1_owner_20 a1 h).bind fun q1 => jv_let q1.1 fun x2 => jv_let (1 : Int32) fun x3 => f1_ring_20_l8 jv_fuel a1 x2 x3 q1.2
set_option maxRecDepth 20000 in
theorem e1_ring_20 {l : Launch} {d : Nat} {X : List jv_S} (hd : 2 ≤ d) (a1 : Int32) (h : jv_H) : jv_E l yX1_ring cX1_ring 4 (some .int) d (SC ++ X) jv_ri [.ref 20, .int a1] h (f1_ring_20 a1 h) := by
  refine e_of [(0, .ref 20), (1, .int a1)] rfl pn_X1 (fun _ => Nat.le_of_ble_eq_true rfl) (fun _ => rfl) ?_
  unfold f1_ring_20
  refine v_aload_n 0 1 rfl dX1_ring_0 rfl rfl ?_
  refine v_iload_n 1 2 rfl dX1_ring_1 rfl rfl ?_
  refine n_callv [.int a1] [] (fun r => .int r :: []) 5 rfl (by omega) (Nat.le_of_ble_eq_true rfl) cb_X1_owner cv_X1_51 sc_20 cn_X1 rfl (Nat.le_of_ble_eq_true rfl) dX1_ring_2 rfl (fun _ => rfl) (e1_owner_20 (by omega) a1 h) (fun q1 => ?_)
  refine n_istore_n (fun x2 => [(0, .ref 20), (1, .int a1), (2, .int x2)]) 6 rfl dX1_ring_5 rfl (Nat.le_of_ble_eq_true rfl) rfl (fun _ => rfl) (fun x2 => ?_)
  refine v_iconst 7 rfl dX1_ring_6 ic_1 ?_
  refine n_istore_n (fun x3 => [(0, .ref 20), (1, .int a1), (2, .int x2), (3, .int x3)]) 8 rfl dX1_ring_7 rfl (Nat.le_of_ble_eq_true rfl) rfl (fun _ => rfl) (fun x3 => ?_)
  exact w1_ring_20_l8 hd jv_fuel a1 x2 x3 q1.2
-- TemperNurses.temper(II)I at 0
def f8_temper_0 (a1 : Int32) (a2 : Int32) (h : jv_H) : Option (Int32 × jv_H) := (f2_hasTemper_1 a1 h).bind fun q1 => if q1.1 = 0 then some ((-1 : Int32), q1.2) else if a2 = 0 then (f1_heat_20 a1 q1.2).bind fun q2 => some (q2.1, q2.2) else if a2 = 1 then if jv_ix a1 6 then some ((q1.2.1 3 (Int32.toNatClampNeg a1)), q1.2) else none else if a2 = 2 then if jv_ix a1 6 then some ((q1.2.1 4 (Int32.toNatClampNeg a1)), q1.2) else none else if a2 = 3 then (f1_place_20 a1 q1.2).bind fun q6 => some (q6.1, q6.2) else if a2 = 4 then (f1_owner_20 a1 q1.2).bind fun q8 => some (q8.1, q8.2) else if a2 = 5 then if jv_ix a1 6 then some ((q1.2.1 5 (Int32.toNatClampNeg a1)), q1.2) else none else if a2 = 6 then (f1_ring_20 a1 q1.2).bind fun q11 => some (q11.1, q11.2) else some ((-1 : Int32), q1.2)
set_option maxRecDepth 20000 in
theorem e8_temper_0 {l : Launch} {d : Nat} {X : List jv_S} (hd : 3 ≤ d) (a1 : Int32) (a2 : Int32) (h : jv_H) : jv_E l yX8_temper cX8_temper 3 (some .int) d (SC ++ X) jv_ri [.ref 0, .int a1, .int a2] h (f8_temper_0 a1 a2 h) := by
  refine e_of [(0, .ref 0), (1, .int a1), (2, .int a2)] rfl pn_X8 (fun _ => Nat.le_of_ble_eq_true rfl) (fun _ => rfl) ?_
  unfold f8_temper_0
  refine v_aload_n 0 1 rfl dX8_temper_0 rfl rfl ?_
  refine v_getr 4 rfl fl_X8_10 sc_0 rfl dX8_temper_1 ?_
  refine v_iload_n 1 5 rfl dX8_temper_4 rfl rfl ?_
  refine n_callv [.int a1] [] (fun r => .int r :: []) 8 rfl (by omega) (Nat.le_of_ble_eq_true rfl) cb_X2_hasTemper cv_X8_112 sc_1 cn_X2 rfl (Nat.le_of_ble_eq_true rfl) dX8_temper_5 rfl (fun _ => rfl) (e2_hasTemper_1 (by omega) a1 h) (fun q1 => ?_)
  refine v_if_ne 13 11 rfl rfl dX8_temper_8 (fun _ => ?_) (fun _ => ?_)
  · refine v_iload_n 2 14 rfl dX8_temper_13 rfl rfl ?_
    refine v_tabc (0 : Int32) (off := 42) 56 dX8_temper_14 (by decide +kernel) rfl (fun _ => ?_) (fun c3 => ?_)
    · refine v_aload_n 0 57 rfl dX8_temper_56 rfl rfl ?_
      refine v_getr 60 rfl fl_X8_26 sc_0 rfl dX8_temper_57 ?_
      refine v_iload_n 1 61 rfl dX8_temper_60 rfl rfl ?_
      refine n_callv [.int a1] [] (fun r => .int r :: []) 64 rfl (by omega) (Nat.le_of_ble_eq_true rfl) cb_X1_heat cv_X8_115 sc_20 cn_X1 rfl (Nat.le_of_ble_eq_true rfl) dX8_temper_61 rfl (fun _ => rfl) (e1_heat_20 (by omega) a1 q1.2) (fun q2 => ?_)
      exact v_iret rfl dX8_temper_64
    refine v_tabc (1 : Int32) (off := 51) 65 dX8_temper_14 (by decide +kernel) rfl (fun _ => ?_) (fun c4 => ?_)
    · refine v_aload_n 0 66 rfl dX8_temper_65 rfl rfl ?_
      refine v_getr 69 rfl fl_X8_10 sc_0 rfl dX8_temper_66 ?_
      refine v_getr 72 rfl fl_X8_119 sc_1 rfl dX8_temper_69 ?_
      refine v_iload_n 1 73 rfl dX8_temper_72 rfl rfl ?_
      refine v_iald 74 rfl sc_3 dX8_temper_73 (fun _ => ?_)
      exact v_iret rfl dX8_temper_74
    refine v_tabc (2 : Int32) (off := 61) 75 dX8_temper_14 (by decide +kernel) rfl (fun _ => ?_) (fun c5 => ?_)
    · refine v_aload_n 0 76 rfl dX8_temper_75 rfl rfl ?_
      refine v_getr 79 rfl fl_X8_10 sc_0 rfl dX8_temper_76 ?_
      refine v_getr 82 rfl fl_X8_122 sc_1 rfl dX8_temper_79 ?_
      refine v_iload_n 1 83 rfl dX8_temper_82 rfl rfl ?_
      refine v_iald 84 rfl sc_4 dX8_temper_83 (fun _ => ?_)
      exact v_iret rfl dX8_temper_84
    refine v_tabc (3 : Int32) (off := 71) 85 dX8_temper_14 (by decide +kernel) rfl (fun _ => ?_) (fun c7 => ?_)
    · refine v_aload_n 0 86 rfl dX8_temper_85 rfl rfl ?_
      refine v_getr 89 rfl fl_X8_26 sc_0 rfl dX8_temper_86 ?_
      refine v_iload_n 1 90 rfl dX8_temper_89 rfl rfl ?_
      refine n_callv [.int a1] [] (fun r => .int r :: []) 93 rfl (by omega) (Nat.le_of_ble_eq_true rfl) cb_X1_place cv_X8_125 sc_20 cn_X1 rfl (Nat.le_of_ble_eq_true rfl) dX8_temper_90 rfl (fun _ => rfl) (e1_place_20 (by omega) a1 q1.2) (fun q6 => ?_)
      exact v_iret rfl dX8_temper_93
    refine v_tabc (4 : Int32) (off := 80) 94 dX8_temper_14 (by decide +kernel) rfl (fun _ => ?_) (fun c9 => ?_)
    · refine v_aload_n 0 95 rfl dX8_temper_94 rfl rfl ?_
      refine v_getr 98 rfl fl_X8_26 sc_0 rfl dX8_temper_95 ?_
      refine v_iload_n 1 99 rfl dX8_temper_98 rfl rfl ?_
      refine n_callv [.int a1] [] (fun r => .int r :: []) 102 rfl (by omega) (Nat.le_of_ble_eq_true rfl) cb_X1_owner cv_X8_128 sc_20 cn_X1 rfl (Nat.le_of_ble_eq_true rfl) dX8_temper_99 rfl (fun _ => rfl) (e1_owner_20 (by omega) a1 q1.2) (fun q8 => ?_)
      exact v_iret rfl dX8_temper_102
    refine v_tabc (5 : Int32) (off := 89) 103 dX8_temper_14 (by decide +kernel) rfl (fun _ => ?_) (fun c10 => ?_)
    · refine v_aload_n 0 104 rfl dX8_temper_103 rfl rfl ?_
      refine v_getr 107 rfl fl_X8_10 sc_0 rfl dX8_temper_104 ?_
      refine v_getr 110 rfl fl_X8_131 sc_1 rfl dX8_temper_107 ?_
      refine v_iload_n 1 111 rfl dX8_temper_110 rfl rfl ?_
      refine v_iald 112 rfl sc_5 dX8_temper_111 (fun _ => ?_)
      exact v_iret rfl dX8_temper_112
    refine v_tabc (6 : Int32) (off := 99) 113 dX8_temper_14 (by decide +kernel) rfl (fun _ => ?_) (fun c12 => ?_)
    · refine v_aload_n 0 114 rfl dX8_temper_113 rfl rfl ?_
      refine v_getr 117 rfl fl_X8_26 sc_0 rfl dX8_temper_114 ?_
      refine v_iload_n 1 118 rfl dX8_temper_117 rfl rfl ?_
      refine n_callv [.int a1] [] (fun r => .int r :: []) 121 rfl (by omega) (Nat.le_of_ble_eq_true rfl) cb_X1_ring cv_X8_134 sc_20 cn_X1 rfl (Nat.le_of_ble_eq_true rfl) dX8_temper_118 rfl (fun _ => rfl) (e1_ring_20 (by omega) a1 q1.2) (fun q11 => ?_)
      exact v_iret rfl dX8_temper_121
    refine v_tabd 122 dX8_temper_14 (by have := lv_neT (a := 0) c3 rfl; have := lv_neT (a := 1) c4 rfl; have := lv_neT (a := 2) c5 rfl; have := lv_neT (a := 3) c7 rfl; have := lv_neT (a := 4) c9 rfl; have := lv_neT (a := 5) c10 rfl; have := lv_neT (a := 6) c12 rfl; omega) rfl ?_
    refine v_iconst 123 rfl dX8_temper_122 ic_m1 ?_
    exact v_iret rfl dX8_temper_123
  · refine v_iconst 12 rfl dX8_temper_11 ic_m1 ?_
    exact v_iret rfl dX8_temper_12
-- TemperNurses$Hill.hasNurse(I)Z at 1
def f2_hasNurse_1 (a1 : Int32) (h : jv_H) : Option (Int32 × jv_H) := if a1 < 0 then some ((0 : Int32), h) else if (h.1 1 1) ≤ a1 then some ((0 : Int32), h) else some ((1 : Int32), h)
set_option maxRecDepth 20000 in
theorem e2_hasNurse_1 {l : Launch} {d : Nat} {X : List jv_S} (hd : 0 ≤ d) (a1 : Int32) (h : jv_H) : jv_E l yX2_hasNurse cX2_hasNurse 2 (some .boolean) d (SC ++ X) jv_ri [.ref 1, .int a1] h (f2_hasNurse_1 a1 h) := by
  refine e_of [(0, .ref 1), (1, .int a1)] rfl pn_X2 (fun _ => Nat.le_of_ble_eq_true rfl) (fun _ => rfl) ?_
  unfold f2_hasNurse_1
  refine v_iload_n 1 1 rfl dX2_hasNurse_0 rfl rfl ?_
  refine v_if_lt 16 4 rfl rfl dX2_hasNurse_1 (fun _ => ?_) (fun _ => ?_)
  · refine v_iconst 17 rfl dX2_hasNurse_16 ic_0 ?_
    exact v_zr0 dX2_hasNurse_17
  · refine v_iload_n 1 5 rfl dX2_hasNurse_4 rfl rfl ?_
    refine v_aload_n 0 6 rfl dX2_hasNurse_5 rfl rfl ?_
    refine v_geti 9 rfl fl_X2_37 sc_1 rfl dX2_hasNurse_6 ?_
    refine v_icmp_ge 16 12 rfl rfl dX2_hasNurse_9 (fun _ => ?_) (fun _ => ?_)
    · refine v_iconst 17 rfl dX2_hasNurse_16 ic_0 ?_
      exact v_zr0 dX2_hasNurse_17
    · refine v_iconst 13 rfl dX2_hasNurse_12 ic_1 ?_
      refine v_goto 17 rfl dX2_hasNurse_13 ?_
      exact v_zr1 dX2_hasNurse_17
-- TemperNurses$House.thoseWith(I)I at 22
def g3_thoseWith_22_b34 (k4 : Int32 → Int32 → Int32 → jv_H → Option (Int32 × jv_H)) (a1 : Int32) (a2 : Int32) (a3 : Int32) (h : jv_H) : Option (Int32 × jv_H) := jv_let (a3 + (1 : Int32)) fun x1 => k4 a1 a2 x1 h
set_option maxRecDepth 20000 in
theorem b3_thoseWith_22_b34 {l : Launch} {d : Nat} {X : List jv_S} (hd : 2 ≤ d) (k4 : Int32 → Int32 → Int32 → jv_H → Option (Int32 × jv_H)) (hk4 : ∀ (a1 a2 a3 : Int32) (h : jv_H), jv_V l RX3 cX3_thoseWith 4 (some .int) d (SC ++ X) jv_ri 4 [(0, .ref 22), (1, .int a1), (2, .int a2), (3, .int a3)] [] h (k4 a1 a2 a3 h)) : ∀ (a1 : Int32) (a2 : Int32) (a3 : Int32) (h : jv_H), jv_V l RX3 cX3_thoseWith 4 (some .int) d (SC ++ X) jv_ri 34 [(0, .ref 22), (1, .int a1), (2, .int a2), (3, .int a3)] [] h (g3_thoseWith_22_b34 k4 a1 a2 a3 h) := by
  intro a1 a2 a3 h
  unfold g3_thoseWith_22_b34
  refine n_iinc (fun x1 => [(0, .ref 22), (1, .int a1), (2, .int a2), (3, .int x1)]) 3 37 rfl dX3_thoseWith_34 rfl ic_1 (Nat.le_of_ble_eq_true rfl) rfl (fun _ => rfl) (fun x1 => ?_)
  refine v_goto 4 rfl dX3_thoseWith_37 ?_
  exact hk4 a1 a2 x1 h
def g3_thoseWith_22_b4 (k4 : Int32 → Int32 → Int32 → jv_H → Option (Int32 × jv_H)) (a1 : Int32) (a2 : Int32) (a3 : Int32) (h : jv_H) : Option (Int32 × jv_H) := if (h.1 1 0) ≤ a3 then some (a2, h) else (f1_place_20 a3 h).bind fun q1 => if q1.1 = a1 then (f8_bit a3 q1.2).bind fun q2 => jv_let (a2 ||| q2.1) fun x3 => g3_thoseWith_22_b34 k4 a1 x3 a3 q2.2 else g3_thoseWith_22_b34 k4 a1 a2 a3 q1.2
set_option maxRecDepth 20000 in
theorem b3_thoseWith_22_b4 {l : Launch} {d : Nat} {X : List jv_S} (hd : 2 ≤ d) (k4 : Int32 → Int32 → Int32 → jv_H → Option (Int32 × jv_H)) (hk4 : ∀ (a1 a2 a3 : Int32) (h : jv_H), jv_V l RX3 cX3_thoseWith 4 (some .int) d (SC ++ X) jv_ri 4 [(0, .ref 22), (1, .int a1), (2, .int a2), (3, .int a3)] [] h (k4 a1 a2 a3 h)) : ∀ (a1 : Int32) (a2 : Int32) (a3 : Int32) (h : jv_H), jv_V l RX3 cX3_thoseWith 4 (some .int) d (SC ++ X) jv_ri 4 [(0, .ref 22), (1, .int a1), (2, .int a2), (3, .int a3)] [] h (g3_thoseWith_22_b4 k4 a1 a2 a3 h) := by
  intro a1 a2 a3 h
  unfold g3_thoseWith_22_b4
  refine v_iload_n 3 5 rfl dX3_thoseWith_4 rfl rfl ?_
  refine v_aload_n 0 6 rfl dX3_thoseWith_5 rfl rfl ?_
  refine v_getr 9 rfl fl_X3_9 sc_22 rfl dX3_thoseWith_6 ?_
  refine v_geti 12 rfl fl_X3_19 sc_1 rfl dX3_thoseWith_9 ?_
  refine v_icmp_ge 40 15 rfl rfl dX3_thoseWith_12 (fun _ => ?_) (fun _ => ?_)
  · refine v_iload_n 2 41 rfl dX3_thoseWith_40 rfl rfl ?_
    exact v_iret rfl dX3_thoseWith_41
  · refine v_aload_n 0 16 rfl dX3_thoseWith_15 rfl rfl ?_
    refine v_getr 19 rfl fl_X3_15 sc_22 rfl dX3_thoseWith_16 ?_
    refine v_iload_n 3 20 rfl dX3_thoseWith_19 rfl rfl ?_
    refine n_callv [.int a3] [] (fun r => .int r :: []) 23 rfl (by omega) (Nat.le_of_ble_eq_true rfl) cb_X1_place cv_X3_34 sc_20 cn_X1 rfl (Nat.le_of_ble_eq_true rfl) dX3_thoseWith_20 rfl (fun _ => rfl) (e1_place_20 (by omega) a3 h) (fun q1 => ?_)
    refine v_iload_n 1 24 rfl dX3_thoseWith_23 rfl rfl ?_
    refine v_icmp_ne 34 27 rfl rfl dX3_thoseWith_24 (fun _ => ?_) (fun _ => ?_)
    · exact b3_thoseWith_22_b34 hd k4 hk4 a1 a2 a3 q1.2
    · refine v_iload_n 2 28 rfl dX3_thoseWith_27 rfl rfl ?_
      refine v_iload_n 3 29 rfl dX3_thoseWith_28 rfl rfl ?_
      refine n_calln [.int a3] [.int a2] (fun r => .int r :: [.int a2]) 32 rfl (by omega) (Nat.le_of_ble_eq_true rfl) cb_X8_bit cn_X3_31 rfl (Nat.le_of_ble_eq_true rfl) dX3_thoseWith_29 rfl (fun _ => rfl) (e8_bit (by omega) a3 q1.2) (fun q2 => ?_)
      refine v_ior 33 rfl dX3_thoseWith_32 ?_
      refine n_istore_n (fun x3 => [(0, .ref 22), (1, .int a1), (2, .int x3), (3, .int a3)]) 34 rfl dX3_thoseWith_33 rfl (Nat.le_of_ble_eq_true rfl) rfl (fun _ => rfl) (fun x3 => ?_)
      exact b3_thoseWith_22_b34 hd k4 hk4 a1 x3 a3 q2.2
def f3_thoseWith_22_l4 : Nat → Int32 → Int32 → Int32 → jv_H → Option (Int32 × jv_H)
  | 0 => fun _ _ _ _ => none
  | n + 1 => fun a1 a2 a3 h => g3_thoseWith_22_b4 (f3_thoseWith_22_l4 n) a1 a2 a3 h
theorem w3_thoseWith_22_l4 {l : Launch} {d : Nat} {X : List jv_S} (hd : 2 ≤ d) : ∀ (n : Nat) (a1 : Int32) (a2 : Int32) (a3 : Int32) (h : jv_H), jv_V l RX3 cX3_thoseWith 4 (some .int) d (SC ++ X) jv_ri 4 [(0, .ref 22), (1, .int a1), (2, .int a2), (3, .int a3)] [] h (f3_thoseWith_22_l4 n a1 a2 a3 h) := by
  intro n
  induction n with
  | zero => intro a1 a2 a3 h; exact v_none
  | succ n ih => intro a1 a2 a3 h; exact b3_thoseWith_22_b4 hd (f3_thoseWith_22_l4 n) ih a1 a2 a3 h
def f3_thoseWith_22 (a1 : Int32) (h : jv_H) : Option (Int32 × jv_H) := jv_let (0 : Int32) fun x1 => jv_let (0 : Int32) fun x2 => f3_thoseWith_22_l4 jv_fuel a1 x1 x2 h
set_option maxRecDepth 20000 in
theorem e3_thoseWith_22 {l : Launch} {d : Nat} {X : List jv_S} (hd : 2 ≤ d) (a1 : Int32) (h : jv_H) : jv_E l yX3_thoseWith cX3_thoseWith 4 (some .int) d (SC ++ X) jv_ri [.ref 22, .int a1] h (f3_thoseWith_22 a1 h) := by
  refine e_of [(0, .ref 22), (1, .int a1)] rfl pn_X3 (fun _ => Nat.le_of_ble_eq_true rfl) (fun _ => rfl) ?_
  unfold f3_thoseWith_22
  refine v_iconst 1 rfl dX3_thoseWith_0 ic_0 ?_
  refine n_istore_n (fun x1 => [(0, .ref 22), (1, .int a1), (2, .int x1)]) 2 rfl dX3_thoseWith_1 rfl (Nat.le_of_ble_eq_true rfl) rfl (fun _ => rfl) (fun x1 => ?_)
  refine v_iconst 3 rfl dX3_thoseWith_2 ic_0 ?_
  refine n_istore_n (fun x2 => [(0, .ref 22), (1, .int a1), (2, .int x1), (3, .int x2)]) 4 rfl dX3_thoseWith_3 rfl (Nat.le_of_ble_eq_true rfl) rfl (fun _ => rfl) (fun x2 => ?_)
  exact w3_thoseWith_22_l4 hd jv_fuel a1 x1 x2 h
-- java/lang/Integer.bitCount(I)I
def fj6_bitCount_0f7a4 (a0 : Int32) (h : jv_H) : Option (Int32 × jv_H) := jv_let (a0 - (((a0).toUInt32 >>> (((1 : Int32)).toUInt32 &&& Int32.toUInt32 31)).toInt32 &&& (1431655765 : Int32))) fun x1 => jv_let ((x1 &&& (858993459 : Int32)) + (((x1).toUInt32 >>> (((2 : Int32)).toUInt32 &&& Int32.toUInt32 31)).toInt32 &&& (858993459 : Int32))) fun x2 => jv_let ((x2 + ((x2).toUInt32 >>> (((4 : Int32)).toUInt32 &&& Int32.toUInt32 31)).toInt32) &&& (252645135 : Int32)) fun x3 => jv_let (x3 + ((x3).toUInt32 >>> (((8 : Int32)).toUInt32 &&& Int32.toUInt32 31)).toInt32) fun x4 => jv_let (x4 + ((x4).toUInt32 >>> (((16 : Int32)).toUInt32 &&& Int32.toUInt32 31)).toInt32) fun x5 => some ((x5 &&& (63 : Int32)), h)
set_option maxRecDepth 20000 in
theorem ej6_bitCount_0f7a4 {l : Launch} {d : Nat} {X : List jv_S} (hd : 0 ≤ d) (a0 : Int32) (h : jv_H) : jv_E l yJ6_bitCount_0f7a4 cJ6_bitCount_0f7a4 1 (some .int) d (SC ++ X) jv_ri [.int a0] h (fj6_bitCount_0f7a4 a0 h) := by
  refine e_of [(0, .int a0)] rfl pn_J6 (fun _ => Nat.le_of_ble_eq_true rfl) (fun _ => rfl) ?_
  unfold fj6_bitCount_0f7a4
  refine v_iload_n 0 1 rfl dJ6_bitCount_0f7a4_0 rfl rfl ?_
  refine v_iload_n 0 2 rfl dJ6_bitCount_0f7a4_1 rfl rfl ?_
  refine v_iconst 3 rfl dJ6_bitCount_0f7a4_2 ic_1 ?_
  refine v_iushr 4 rfl dJ6_bitCount_0f7a4_3 ?_
  refine v_ldcw 7 rfl mw_540 dJ6_bitCount_0f7a4_4 ?_
  refine v_iand 8 rfl dJ6_bitCount_0f7a4_7 ?_
  refine v_isub 9 rfl dJ6_bitCount_0f7a4_8 ?_
  refine n_istore_n (fun x1 => [(0, .int x1)]) 10 rfl dJ6_bitCount_0f7a4_9 rfl (Nat.le_of_ble_eq_true rfl) rfl (fun _ => rfl) (fun x1 => ?_)
  refine v_iload_n 0 11 rfl dJ6_bitCount_0f7a4_10 rfl rfl ?_
  refine v_ldcw 14 rfl mw_541 dJ6_bitCount_0f7a4_11 ?_
  refine v_iand 15 rfl dJ6_bitCount_0f7a4_14 ?_
  refine v_iload_n 0 16 rfl dJ6_bitCount_0f7a4_15 rfl rfl ?_
  refine v_iconst 17 rfl dJ6_bitCount_0f7a4_16 ic_2 ?_
  refine v_iushr 18 rfl dJ6_bitCount_0f7a4_17 ?_
  refine v_ldcw 21 rfl mw_541 dJ6_bitCount_0f7a4_18 ?_
  refine v_iand 22 rfl dJ6_bitCount_0f7a4_21 ?_
  refine v_iadd 23 rfl dJ6_bitCount_0f7a4_22 ?_
  refine n_istore_n (fun x2 => [(0, .int x2)]) 24 rfl dJ6_bitCount_0f7a4_23 rfl (Nat.le_of_ble_eq_true rfl) rfl (fun _ => rfl) (fun x2 => ?_)
  refine v_iload_n 0 25 rfl dJ6_bitCount_0f7a4_24 rfl rfl ?_
  refine v_iload_n 0 26 rfl dJ6_bitCount_0f7a4_25 rfl rfl ?_
  refine v_iconst 27 rfl dJ6_bitCount_0f7a4_26 ic_4 ?_
  refine v_iushr 28 rfl dJ6_bitCount_0f7a4_27 ?_
  refine v_iadd 29 rfl dJ6_bitCount_0f7a4_28 ?_
  refine v_ldcw 32 rfl mw_542 dJ6_bitCount_0f7a4_29 ?_
  refine v_iand 33 rfl dJ6_bitCount_0f7a4_32 ?_
  refine n_istore_n (fun x3 => [(0, .int x3)]) 34 rfl dJ6_bitCount_0f7a4_33 rfl (Nat.le_of_ble_eq_true rfl) rfl (fun _ => rfl) (fun x3 => ?_)
  refine v_iload_n 0 35 rfl dJ6_bitCount_0f7a4_34 rfl rfl ?_
  refine v_iload_n 0 36 rfl dJ6_bitCount_0f7a4_35 rfl rfl ?_
  refine v_bipush 38 rfl dJ6_bitCount_0f7a4_36 bp_8 ?_
  refine v_iushr 39 rfl dJ6_bitCount_0f7a4_38 ?_
  refine v_iadd 40 rfl dJ6_bitCount_0f7a4_39 ?_
  refine n_istore_n (fun x4 => [(0, .int x4)]) 41 rfl dJ6_bitCount_0f7a4_40 rfl (Nat.le_of_ble_eq_true rfl) rfl (fun _ => rfl) (fun x4 => ?_)
  refine v_iload_n 0 42 rfl dJ6_bitCount_0f7a4_41 rfl rfl ?_
  refine v_iload_n 0 43 rfl dJ6_bitCount_0f7a4_42 rfl rfl ?_
  refine v_bipush 45 rfl dJ6_bitCount_0f7a4_43 bp_16 ?_
  refine v_iushr 46 rfl dJ6_bitCount_0f7a4_45 ?_
  refine v_iadd 47 rfl dJ6_bitCount_0f7a4_46 ?_
  refine n_istore_n (fun x5 => [(0, .int x5)]) 48 rfl dJ6_bitCount_0f7a4_47 rfl (Nat.le_of_ble_eq_true rfl) rfl (fun _ => rfl) (fun x5 => ?_)
  refine v_iload_n 0 49 rfl dJ6_bitCount_0f7a4_48 rfl rfl ?_
  refine v_bipush 51 rfl dJ6_bitCount_0f7a4_49 bp_63 ?_
  refine v_iand 52 rfl dJ6_bitCount_0f7a4_51 ?_
  exact v_iret rfl dJ6_bitCount_0f7a4_52
-- TemperNurses$House.mayJoin(III)Z at 22
def f3_mayjoin_22 (a1 : Int32) (a2 : Int32) (a3 : Int32) (h : jv_H) : Option (Int32 × jv_H) := (f2_hasTemper_1 a1 h).bind fun q1 => if q1.1 = 0 then some ((0 : Int32), q1.2) else (f2_hasNurse_1 a2 q1.2).bind fun q2 => if q2.1 = 0 then some ((0 : Int32), q2.2) else (f1_heat_20 a1 q2.2).bind fun q3 => if jv_ix a2 4 then if (q3.2.1 8 (Int32.toNatClampNeg a2)) < q3.1 then some ((0 : Int32), q3.2) else (fj6_bitCount_0f7a4 a3 q3.2).bind fun q4 => if jv_ix a2 4 then if (q4.2.1 7 (Int32.toNatClampNeg a2)) ≤ q4.1 then some ((0 : Int32), q4.2) else if jv_ix a1 6 then if (a3 &&& (q4.2.1 5 (Int32.toNatClampNeg a1))) = 0 then some ((1 : Int32), q4.2) else some ((0 : Int32), q4.2) else none else none else none
set_option maxRecDepth 20000 in
theorem e3_mayjoin_22 {l : Launch} {d : Nat} {X : List jv_S} (hd : 2 ≤ d) (a1 : Int32) (a2 : Int32) (a3 : Int32) (h : jv_H) : jv_E l yX3_mayJoin cX3_mayJoin 4 (some .boolean) d (SC ++ X) jv_ri [.ref 22, .int a1, .int a2, .int a3] h (f3_mayjoin_22 a1 a2 a3 h) := by
  refine e_of [(0, .ref 22), (1, .int a1), (2, .int a2), (3, .int a3)] rfl pn_X3 (fun _ => Nat.le_of_ble_eq_true rfl) (fun _ => rfl) ?_
  unfold f3_mayjoin_22
  refine v_aload_n 0 1 rfl dX3_mayJoin_0 rfl rfl ?_
  refine v_getr 4 rfl fl_X3_9 sc_22 rfl dX3_mayJoin_1 ?_
  refine v_iload_n 1 5 rfl dX3_mayJoin_4 rfl rfl ?_
  refine n_callv [.int a1] [] (fun r => .int r :: []) 8 rfl (by omega) (Nat.le_of_ble_eq_true rfl) cb_X2_hasTemper cv_X3_48 sc_1 cn_X2 rfl (Nat.le_of_ble_eq_true rfl) dX3_mayJoin_5 rfl (fun _ => rfl) (e2_hasTemper_1 (by omega) a1 h) (fun q1 => ?_)
  refine v_if_eq 22 11 rfl rfl dX3_mayJoin_8 (fun _ => ?_) (fun _ => ?_)
  · refine v_iconst 23 rfl dX3_mayJoin_22 ic_0 ?_
    exact v_zr0 dX3_mayJoin_23
  · refine v_aload_n 0 12 rfl dX3_mayJoin_11 rfl rfl ?_
    refine v_getr 15 rfl fl_X3_9 sc_22 rfl dX3_mayJoin_12 ?_
    refine v_iload_n 2 16 rfl dX3_mayJoin_15 rfl rfl ?_
    refine n_callv [.int a2] [] (fun r => .int r :: []) 19 rfl (by omega) (Nat.le_of_ble_eq_true rfl) cb_X2_hasNurse cv_X3_52 sc_1 cn_X2 rfl (Nat.le_of_ble_eq_true rfl) dX3_mayJoin_16 rfl (fun _ => rfl) (e2_hasNurse_1 (by omega) a2 q1.2) (fun q2 => ?_)
    refine v_if_ne 24 22 rfl rfl dX3_mayJoin_19 (fun _ => ?_) (fun _ => ?_)
    · refine v_aload_n 0 25 rfl dX3_mayJoin_24 rfl rfl ?_
      refine v_getr 28 rfl fl_X3_15 sc_22 rfl dX3_mayJoin_25 ?_
      refine v_iload_n 1 29 rfl dX3_mayJoin_28 rfl rfl ?_
      refine n_callv [.int a1] [] (fun r => .int r :: []) 32 rfl (by omega) (Nat.le_of_ble_eq_true rfl) cb_X1_heat cv_X3_25 sc_20 cn_X1 rfl (Nat.le_of_ble_eq_true rfl) dX3_mayJoin_29 rfl (fun _ => rfl) (e1_heat_20 (by omega) a1 q2.2) (fun q3 => ?_)
      refine v_aload_n 0 33 rfl dX3_mayJoin_32 rfl rfl ?_
      refine v_getr 36 rfl fl_X3_9 sc_22 rfl dX3_mayJoin_33 ?_
      refine v_getr 39 rfl fl_X3_55 sc_1 rfl dX3_mayJoin_36 ?_
      refine v_iload_n 2 40 rfl dX3_mayJoin_39 rfl rfl ?_
      refine v_iald 41 rfl sc_8 dX3_mayJoin_40 (fun _ => ?_)
      refine v_icmp_gt 78 44 rfl rfl dX3_mayJoin_41 (fun _ => ?_) (fun _ => ?_)
      · refine v_iconst 79 rfl dX3_mayJoin_78 ic_0 ?_
        exact v_zr0 dX3_mayJoin_79
      · refine v_iload_n 3 45 rfl dX3_mayJoin_44 rfl rfl ?_
        refine n_calls [.int a3] [] (fun r => .int r :: []) 48 rfl (by omega) (Nat.le_of_ble_eq_true rfl) cb_J6_bitCount_0f7a4 cs_X3_59 rfl (Nat.le_of_ble_eq_true rfl) dX3_mayJoin_45 rfl (fun _ => rfl) (ej6_bitCount_0f7a4 (by omega) a3 q3.2) (fun q4 => ?_)
        refine v_aload_n 0 49 rfl dX3_mayJoin_48 rfl rfl ?_
        refine v_getr 52 rfl fl_X3_9 sc_22 rfl dX3_mayJoin_49 ?_
        refine v_getr 55 rfl fl_X3_64 sc_1 rfl dX3_mayJoin_52 ?_
        refine v_iload_n 2 56 rfl dX3_mayJoin_55 rfl rfl ?_
        refine v_iald 57 rfl sc_7 dX3_mayJoin_56 (fun _ => ?_)
        refine v_icmp_ge 78 60 rfl rfl dX3_mayJoin_57 (fun _ => ?_) (fun _ => ?_)
        · refine v_iconst 79 rfl dX3_mayJoin_78 ic_0 ?_
          exact v_zr0 dX3_mayJoin_79
        · refine v_iload_n 3 61 rfl dX3_mayJoin_60 rfl rfl ?_
          refine v_aload_n 0 62 rfl dX3_mayJoin_61 rfl rfl ?_
          refine v_getr 65 rfl fl_X3_9 sc_22 rfl dX3_mayJoin_62 ?_
          refine v_getr 68 rfl fl_X3_67 sc_1 rfl dX3_mayJoin_65 ?_
          refine v_iload_n 1 69 rfl dX3_mayJoin_68 rfl rfl ?_
          refine v_iald 70 rfl sc_5 dX3_mayJoin_69 (fun _ => ?_)
          refine v_iand 71 rfl dX3_mayJoin_70 ?_
          refine v_if_ne 78 74 rfl rfl dX3_mayJoin_71 (fun _ => ?_) (fun _ => ?_)
          · refine v_iconst 79 rfl dX3_mayJoin_78 ic_0 ?_
            exact v_zr0 dX3_mayJoin_79
          · refine v_iconst 75 rfl dX3_mayJoin_74 ic_1 ?_
            refine v_goto 79 rfl dX3_mayJoin_75 ?_
            exact v_zr1 dX3_mayJoin_79
    · refine v_iconst 23 rfl dX3_mayJoin_22 ic_0 ?_
      exact v_zr0 dX3_mayJoin_23
-- TemperNurses$House.mayBeSent(II)Z at 22
def f3_mayBeSent_22 (a1 : Int32) (a2 : Int32) (h : jv_H) : Option (Int32 × jv_H) := (f1_place_20 a1 h).bind fun q1 => if q1.1 = a2 then some ((0 : Int32), q1.2) else (f3_thoseWith_22 a2 q1.2).bind fun q2 => (f3_mayjoin_22 a1 a2 q2.1 q2.2).bind fun q3 => if q3.1 = 0 then some ((0 : Int32), q3.2) else some ((1 : Int32), q3.2)
set_option maxRecDepth 20000 in
theorem e3_mayBeSent_22 {l : Launch} {d : Nat} {X : List jv_S} (hd : 3 ≤ d) (a1 : Int32) (a2 : Int32) (h : jv_H) : jv_E l yX3_mayBeSent cX3_mayBeSent 3 (some .boolean) d (SC ++ X) jv_ri [.ref 22, .int a1, .int a2] h (f3_mayBeSent_22 a1 a2 h) := by
  refine e_of [(0, .ref 22), (1, .int a1), (2, .int a2)] rfl pn_X3 (fun _ => Nat.le_of_ble_eq_true rfl) (fun _ => rfl) ?_
  unfold f3_mayBeSent_22
  refine v_aload_n 0 1 rfl dX3_mayBeSent_0 rfl rfl ?_
  refine v_getr 4 rfl fl_X3_15 sc_22 rfl dX3_mayBeSent_1 ?_
  refine v_iload_n 1 5 rfl dX3_mayBeSent_4 rfl rfl ?_
  refine n_callv [.int a1] [] (fun r => .int r :: []) 8 rfl (by omega) (Nat.le_of_ble_eq_true rfl) cb_X1_place cv_X3_34 sc_20 cn_X1 rfl (Nat.le_of_ble_eq_true rfl) dX3_mayBeSent_5 rfl (fun _ => rfl) (e1_place_20 (by omega) a1 h) (fun q1 => ?_)
  refine v_iload_n 2 9 rfl dX3_mayBeSent_8 rfl rfl ?_
  refine v_icmp_eq 30 12 rfl rfl dX3_mayBeSent_9 (fun _ => ?_) (fun _ => ?_)
  · refine v_iconst 31 rfl dX3_mayBeSent_30 ic_0 ?_
    exact v_zr0 dX3_mayBeSent_31
  · refine v_aload_n 0 13 rfl dX3_mayBeSent_12 rfl rfl ?_
    refine v_iload_n 1 14 rfl dX3_mayBeSent_13 rfl rfl ?_
    refine v_iload_n 2 15 rfl dX3_mayBeSent_14 rfl rfl ?_
    refine v_aload_n 0 16 rfl dX3_mayBeSent_15 rfl rfl ?_
    refine v_iload_n 2 17 rfl dX3_mayBeSent_16 rfl rfl ?_
    refine n_callv [.int a2] [.int a2, .int a1, .ref 22] (fun r => .int r :: [.int a2, .int a1, .ref 22]) 20 rfl (by omega) (Nat.le_of_ble_eq_true rfl) cb_X3_thoseWith cv_X3_41 sc_22 cn_X3 rfl (Nat.le_of_ble_eq_true rfl) dX3_mayBeSent_17 rfl (fun _ => rfl) (e3_thoseWith_22 (by omega) a2 q1.2) (fun q2 => ?_)
    refine n_callv [.int a1, .int a2, .int q2.1] [] (fun r => .int r :: []) 23 rfl (by omega) (Nat.le_of_ble_eq_true rfl) cb_X3_mayJoin cv_X3_44 sc_22 cn_X3 rfl (Nat.le_of_ble_eq_true rfl) dX3_mayBeSent_20 rfl (fun _ => rfl) (e3_mayjoin_22 (by omega) a1 a2 q2.1 q2.2) (fun q3 => ?_)
    refine v_if_eq 30 26 rfl rfl dX3_mayBeSent_23 (fun _ => ?_) (fun _ => ?_)
    · refine v_iconst 31 rfl dX3_mayBeSent_30 ic_0 ?_
      exact v_zr0 dX3_mayBeSent_31
    · refine v_iconst 27 rfl dX3_mayBeSent_26 ic_1 ?_
      refine v_goto 31 rfl dX3_mayBeSent_27 ?_
      exact v_zr1 dX3_mayBeSent_31
-- TemperNurses$House.thoseThatMayBeSentTo(I)I at 22
def g3_thoseThatMayBeSentTo_22_b31 (k4 : Int32 → Int32 → Int32 → jv_H → Option (Int32 × jv_H)) (a1 : Int32) (a2 : Int32) (a3 : Int32) (h : jv_H) : Option (Int32 × jv_H) := jv_let (a3 + (1 : Int32)) fun x1 => k4 a1 a2 x1 h
set_option maxRecDepth 20000 in
theorem b3_thoseThatMayBeSentTo_22_b31 {l : Launch} {d : Nat} {X : List jv_S} (hd : 4 ≤ d) (k4 : Int32 → Int32 → Int32 → jv_H → Option (Int32 × jv_H)) (hk4 : ∀ (a1 a2 a3 : Int32) (h : jv_H), jv_V l RX3 cX3_thoseThatMayBeSentTo 4 (some .int) d (SC ++ X) jv_ri 4 [(0, .ref 22), (1, .int a1), (2, .int a2), (3, .int a3)] [] h (k4 a1 a2 a3 h)) : ∀ (a1 : Int32) (a2 : Int32) (a3 : Int32) (h : jv_H), jv_V l RX3 cX3_thoseThatMayBeSentTo 4 (some .int) d (SC ++ X) jv_ri 31 [(0, .ref 22), (1, .int a1), (2, .int a2), (3, .int a3)] [] h (g3_thoseThatMayBeSentTo_22_b31 k4 a1 a2 a3 h) := by
  intro a1 a2 a3 h
  unfold g3_thoseThatMayBeSentTo_22_b31
  refine n_iinc (fun x1 => [(0, .ref 22), (1, .int a1), (2, .int a2), (3, .int x1)]) 3 34 rfl dX3_thoseThatMayBeSentTo_31 rfl ic_1 (Nat.le_of_ble_eq_true rfl) rfl (fun _ => rfl) (fun x1 => ?_)
  refine v_goto 4 rfl dX3_thoseThatMayBeSentTo_34 ?_
  exact hk4 a1 a2 x1 h
def g3_thoseThatMayBeSentTo_22_b4 (k4 : Int32 → Int32 → Int32 → jv_H → Option (Int32 × jv_H)) (a1 : Int32) (a2 : Int32) (a3 : Int32) (h : jv_H) : Option (Int32 × jv_H) := if (h.1 1 0) ≤ a3 then some (a2, h) else (f3_mayBeSent_22 a3 a1 h).bind fun q1 => if q1.1 = 0 then g3_thoseThatMayBeSentTo_22_b31 k4 a1 a2 a3 q1.2 else (f8_bit a3 q1.2).bind fun q2 => jv_let (a2 ||| q2.1) fun x3 => g3_thoseThatMayBeSentTo_22_b31 k4 a1 x3 a3 q2.2
set_option maxRecDepth 20000 in
theorem b3_thoseThatMayBeSentTo_22_b4 {l : Launch} {d : Nat} {X : List jv_S} (hd : 4 ≤ d) (k4 : Int32 → Int32 → Int32 → jv_H → Option (Int32 × jv_H)) (hk4 : ∀ (a1 a2 a3 : Int32) (h : jv_H), jv_V l RX3 cX3_thoseThatMayBeSentTo 4 (some .int) d (SC ++ X) jv_ri 4 [(0, .ref 22), (1, .int a1), (2, .int a2), (3, .int a3)] [] h (k4 a1 a2 a3 h)) : ∀ (a1 : Int32) (a2 : Int32) (a3 : Int32) (h : jv_H), jv_V l RX3 cX3_thoseThatMayBeSentTo 4 (some .int) d (SC ++ X) jv_ri 4 [(0, .ref 22), (1, .int a1), (2, .int a2), (3, .int a3)] [] h (g3_thoseThatMayBeSentTo_22_b4 k4 a1 a2 a3 h) := by
  intro a1 a2 a3 h
  unfold g3_thoseThatMayBeSentTo_22_b4
  refine v_iload_n 3 5 rfl dX3_thoseThatMayBeSentTo_4 rfl rfl ?_
  refine v_aload_n 0 6 rfl dX3_thoseThatMayBeSentTo_5 rfl rfl ?_
  refine v_getr 9 rfl fl_X3_9 sc_22 rfl dX3_thoseThatMayBeSentTo_6 ?_
  refine v_geti 12 rfl fl_X3_19 sc_1 rfl dX3_thoseThatMayBeSentTo_9 ?_
  refine v_icmp_ge 37 15 rfl rfl dX3_thoseThatMayBeSentTo_12 (fun _ => ?_) (fun _ => ?_)
  · refine v_iload_n 2 38 rfl dX3_thoseThatMayBeSentTo_37 rfl rfl ?_
    exact v_iret rfl dX3_thoseThatMayBeSentTo_38
  · refine v_aload_n 0 16 rfl dX3_thoseThatMayBeSentTo_15 rfl rfl ?_
    refine v_iload_n 3 17 rfl dX3_thoseThatMayBeSentTo_16 rfl rfl ?_
    refine v_iload_n 1 18 rfl dX3_thoseThatMayBeSentTo_17 rfl rfl ?_
    refine n_callv [.int a3, .int a1] [] (fun r => .int r :: []) 21 rfl (by omega) (Nat.le_of_ble_eq_true rfl) cb_X3_mayBeSent cv_X3_37 sc_22 cn_X3 rfl (Nat.le_of_ble_eq_true rfl) dX3_thoseThatMayBeSentTo_18 rfl (fun _ => rfl) (e3_mayBeSent_22 (by omega) a3 a1 h) (fun q1 => ?_)
    refine v_if_eq 31 24 rfl rfl dX3_thoseThatMayBeSentTo_21 (fun _ => ?_) (fun _ => ?_)
    · exact b3_thoseThatMayBeSentTo_22_b31 hd k4 hk4 a1 a2 a3 q1.2
    · refine v_iload_n 2 25 rfl dX3_thoseThatMayBeSentTo_24 rfl rfl ?_
      refine v_iload_n 3 26 rfl dX3_thoseThatMayBeSentTo_25 rfl rfl ?_
      refine n_calln [.int a3] [.int a2] (fun r => .int r :: [.int a2]) 29 rfl (by omega) (Nat.le_of_ble_eq_true rfl) cb_X8_bit cn_X3_31 rfl (Nat.le_of_ble_eq_true rfl) dX3_thoseThatMayBeSentTo_26 rfl (fun _ => rfl) (e8_bit (by omega) a3 q1.2) (fun q2 => ?_)
      refine v_ior 30 rfl dX3_thoseThatMayBeSentTo_29 ?_
      refine n_istore_n (fun x3 => [(0, .ref 22), (1, .int a1), (2, .int x3), (3, .int a3)]) 31 rfl dX3_thoseThatMayBeSentTo_30 rfl (Nat.le_of_ble_eq_true rfl) rfl (fun _ => rfl) (fun x3 => ?_)
      exact b3_thoseThatMayBeSentTo_22_b31 hd k4 hk4 a1 x3 a3 q2.2
def f3_thoseThatMayBeSentTo_22_l4 : Nat → Int32 → Int32 → Int32 → jv_H → Option (Int32 × jv_H)
  | 0 => fun _ _ _ _ => none
  | n + 1 => fun a1 a2 a3 h => g3_thoseThatMayBeSentTo_22_b4 (f3_thoseThatMayBeSentTo_22_l4 n) a1 a2 a3 h
theorem w3_thoseThatMayBeSentTo_22_l4 {l : Launch} {d : Nat} {X : List jv_S} (hd : 4 ≤ d) : ∀ (n : Nat) (a1 : Int32) (a2 : Int32) (a3 : Int32) (h : jv_H), jv_V l RX3 cX3_thoseThatMayBeSentTo 4 (some .int) d (SC ++ X) jv_ri 4 [(0, .ref 22), (1, .int a1), (2, .int a2), (3, .int a3)] [] h (f3_thoseThatMayBeSentTo_22_l4 n a1 a2 a3 h) := by
  intro n
  induction n with
  | zero => intro a1 a2 a3 h; exact v_none
  | succ n ih => intro a1 a2 a3 h; exact b3_thoseThatMayBeSentTo_22_b4 hd (f3_thoseThatMayBeSentTo_22_l4 n) ih a1 a2 a3 h
def f3_thoseThatMayBeSentTo_22 (a1 : Int32) (h : jv_H) : Option (Int32 × jv_H) := jv_let (0 : Int32) fun x1 => jv_let (0 : Int32) fun x2 => f3_thoseThatMayBeSentTo_22_l4 jv_fuel a1 x1 x2 h
set_option maxRecDepth 20000 in
theorem e3_thoseThatMayBeSentTo_22 {l : Launch} {d : Nat} {X : List jv_S} (hd : 4 ≤ d) (a1 : Int32) (h : jv_H) : jv_E l yX3_thoseThatMayBeSentTo cX3_thoseThatMayBeSentTo 4 (some .int) d (SC ++ X) jv_ri [.ref 22, .int a1] h (f3_thoseThatMayBeSentTo_22 a1 h) := by
  refine e_of [(0, .ref 22), (1, .int a1)] rfl pn_X3 (fun _ => Nat.le_of_ble_eq_true rfl) (fun _ => rfl) ?_
  unfold f3_thoseThatMayBeSentTo_22
  refine v_iconst 1 rfl dX3_thoseThatMayBeSentTo_0 ic_0 ?_
  refine n_istore_n (fun x1 => [(0, .ref 22), (1, .int a1), (2, .int x1)]) 2 rfl dX3_thoseThatMayBeSentTo_1 rfl (Nat.le_of_ble_eq_true rfl) rfl (fun _ => rfl) (fun x1 => ?_)
  refine v_iconst 3 rfl dX3_thoseThatMayBeSentTo_2 ic_0 ?_
  refine n_istore_n (fun x2 => [(0, .ref 22), (1, .int a1), (2, .int x1), (3, .int x2)]) 4 rfl dX3_thoseThatMayBeSentTo_3 rfl (Nat.le_of_ble_eq_true rfl) rfl (fun _ => rfl) (fun x2 => ?_)
  exact w3_thoseThatMayBeSentTo_22_l4 hd jv_fuel a1 x1 x2 h
-- TemperNurses.nurse(II)I at 0
def f8_nurse_0 (a1 : Int32) (a2 : Int32) (h : jv_H) : Option (Int32 × jv_H) := (f2_hasNurse_1 a1 h).bind fun q1 => if q1.1 = 0 then some ((-1 : Int32), q1.2) else if a2 = 0 then if jv_ix a1 4 then some ((q1.2.1 6 (Int32.toNatClampNeg a1)), q1.2) else none else if a2 = 1 then if jv_ix a1 4 then some ((q1.2.1 7 (Int32.toNatClampNeg a1)), q1.2) else none else if a2 = 2 then if jv_ix a1 4 then some ((q1.2.1 8 (Int32.toNatClampNeg a1)), q1.2) else none else if a2 = 3 then (f3_thoseWith_22 a1 q1.2).bind fun q5 => some (q5.1, q5.2) else if a2 = 4 then (f3_thoseThatMayBeSentTo_22 a1 q1.2).bind fun q7 => some (q7.1, q7.2) else some ((-1 : Int32), q1.2)
set_option maxRecDepth 20000 in
theorem e8_nurse_0 {l : Launch} {d : Nat} {X : List jv_S} (hd : 5 ≤ d) (a1 : Int32) (a2 : Int32) (h : jv_H) : jv_E l yX8_nurse cX8_nurse 3 (some .int) d (SC ++ X) jv_ri [.ref 0, .int a1, .int a2] h (f8_nurse_0 a1 a2 h) := by
  refine e_of [(0, .ref 0), (1, .int a1), (2, .int a2)] rfl pn_X8 (fun _ => Nat.le_of_ble_eq_true rfl) (fun _ => rfl) ?_
  unfold f8_nurse_0
  refine v_aload_n 0 1 rfl dX8_nurse_0 rfl rfl ?_
  refine v_getr 4 rfl fl_X8_10 sc_0 rfl dX8_nurse_1 ?_
  refine v_iload_n 1 5 rfl dX8_nurse_4 rfl rfl ?_
  refine n_callv [.int a1] [] (fun r => .int r :: []) 8 rfl (by omega) (Nat.le_of_ble_eq_true rfl) cb_X2_hasNurse cv_X8_137 sc_1 cn_X2 rfl (Nat.le_of_ble_eq_true rfl) dX8_nurse_5 rfl (fun _ => rfl) (e2_hasNurse_1 (by omega) a1 h) (fun q1 => ?_)
  refine v_if_ne 13 11 rfl rfl dX8_nurse_8 (fun _ => ?_) (fun _ => ?_)
  · refine v_iload_n 2 14 rfl dX8_nurse_13 rfl rfl ?_
    refine v_tabc (0 : Int32) (off := 34) 48 dX8_nurse_14 (by decide +kernel) rfl (fun _ => ?_) (fun c2 => ?_)
    · refine v_aload_n 0 49 rfl dX8_nurse_48 rfl rfl ?_
      refine v_getr 52 rfl fl_X8_10 sc_0 rfl dX8_nurse_49 ?_
      refine v_getr 55 rfl fl_X8_140 sc_1 rfl dX8_nurse_52 ?_
      refine v_iload_n 1 56 rfl dX8_nurse_55 rfl rfl ?_
      refine v_iald 57 rfl sc_6 dX8_nurse_56 (fun _ => ?_)
      exact v_iret rfl dX8_nurse_57
    refine v_tabc (1 : Int32) (off := 44) 58 dX8_nurse_14 (by decide +kernel) rfl (fun _ => ?_) (fun c3 => ?_)
    · refine v_aload_n 0 59 rfl dX8_nurse_58 rfl rfl ?_
      refine v_getr 62 rfl fl_X8_10 sc_0 rfl dX8_nurse_59 ?_
      refine v_getr 65 rfl fl_X8_143 sc_1 rfl dX8_nurse_62 ?_
      refine v_iload_n 1 66 rfl dX8_nurse_65 rfl rfl ?_
      refine v_iald 67 rfl sc_7 dX8_nurse_66 (fun _ => ?_)
      exact v_iret rfl dX8_nurse_67
    refine v_tabc (2 : Int32) (off := 54) 68 dX8_nurse_14 (by decide +kernel) rfl (fun _ => ?_) (fun c4 => ?_)
    · refine v_aload_n 0 69 rfl dX8_nurse_68 rfl rfl ?_
      refine v_getr 72 rfl fl_X8_10 sc_0 rfl dX8_nurse_69 ?_
      refine v_getr 75 rfl fl_X8_146 sc_1 rfl dX8_nurse_72 ?_
      refine v_iload_n 1 76 rfl dX8_nurse_75 rfl rfl ?_
      refine v_iald 77 rfl sc_8 dX8_nurse_76 (fun _ => ?_)
      exact v_iret rfl dX8_nurse_77
    refine v_tabc (3 : Int32) (off := 64) 78 dX8_nurse_14 (by decide +kernel) rfl (fun _ => ?_) (fun c6 => ?_)
    · refine v_aload_n 0 79 rfl dX8_nurse_78 rfl rfl ?_
      refine v_getr 82 rfl fl_X8_35 sc_0 rfl dX8_nurse_79 ?_
      refine v_iload_n 1 83 rfl dX8_nurse_82 rfl rfl ?_
      refine n_callv [.int a1] [] (fun r => .int r :: []) 86 rfl (by omega) (Nat.le_of_ble_eq_true rfl) cb_X3_thoseWith cv_X8_149 sc_22 cn_X3 rfl (Nat.le_of_ble_eq_true rfl) dX8_nurse_83 rfl (fun _ => rfl) (e3_thoseWith_22 (by omega) a1 q1.2) (fun q5 => ?_)
      exact v_iret rfl dX8_nurse_86
    refine v_tabc (4 : Int32) (off := 73) 87 dX8_nurse_14 (by decide +kernel) rfl (fun _ => ?_) (fun c8 => ?_)
    · refine v_aload_n 0 88 rfl dX8_nurse_87 rfl rfl ?_
      refine v_getr 91 rfl fl_X8_35 sc_0 rfl dX8_nurse_88 ?_
      refine v_iload_n 1 92 rfl dX8_nurse_91 rfl rfl ?_
      refine n_callv [.int a1] [] (fun r => .int r :: []) 95 rfl (by omega) (Nat.le_of_ble_eq_true rfl) cb_X3_thoseThatMayBeSentTo cv_X8_152 sc_22 cn_X3 rfl (Nat.le_of_ble_eq_true rfl) dX8_nurse_92 rfl (fun _ => rfl) (e3_thoseThatMayBeSentTo_22 (by omega) a1 q1.2) (fun q7 => ?_)
      exact v_iret rfl dX8_nurse_95
    refine v_tabd 96 dX8_nurse_14 (by have := lv_neT (a := 0) c2 rfl; have := lv_neT (a := 1) c3 rfl; have := lv_neT (a := 2) c4 rfl; have := lv_neT (a := 3) c6 rfl; have := lv_neT (a := 4) c8 rfl; omega) rfl ?_
    refine v_iconst 97 rfl dX8_nurse_96 ic_m1 ?_
    exact v_iret rfl dX8_nurse_97
  · refine v_iconst 12 rfl dX8_nurse_11 ic_m1 ?_
    exact v_iret rfl dX8_nurse_12
