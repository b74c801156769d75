-- TemperNurses.isWithin(III)Z
def f8_isWithin (a0 : Int32) (a1 : Int32) (a2 : Int32) (h : jv_H) : Option (Int32 × jv_H) := if a0 < a1 then some ((0 : Int32), h) else if a2 < a0 then some ((0 : Int32), h) else some ((1 : Int32), h)
set_option maxRecDepth 20000 in
theorem e8_isWithin {l : Launch} {d : Nat} {X : List jv_S} (hd : 0 ≤ d) (a0 : Int32) (a1 : Int32) (a2 : Int32) (h : jv_H) : jv_E l yX8_isWithin cX8_isWithin 3 (some .boolean) d (SC ++ X) jv_ri [.int a0, .int a1, .int a2] h (f8_isWithin a0 a1 a2 h) := by
  refine e_of [(0, .int a0), (1, .int a1), (2, .int a2)] rfl pn_X8 (fun _ => Nat.le_of_ble_eq_true rfl) (fun _ => rfl) ?_
  unfold f8_isWithin
  refine v_iload_n 0 1 rfl dX8_isWithin_0 rfl rfl ?_
  refine v_iload_n 1 2 rfl dX8_isWithin_1 rfl rfl ?_
  refine v_icmp_lt 14 5 rfl rfl dX8_isWithin_2 (fun _ => ?_) (fun _ => ?_)
  · refine v_iconst 15 rfl dX8_isWithin_14 ic_0 ?_
    exact v_zr0 dX8_isWithin_15
  · refine v_iload_n 0 6 rfl dX8_isWithin_5 rfl rfl ?_
    refine v_iload_n 2 7 rfl dX8_isWithin_6 rfl rfl ?_
    refine v_icmp_gt 14 10 rfl rfl dX8_isWithin_7 (fun _ => ?_) (fun _ => ?_)
    · refine v_iconst 15 rfl dX8_isWithin_14 ic_0 ?_
      exact v_zr0 dX8_isWithin_15
    · refine v_iconst 11 rfl dX8_isWithin_10 ic_1 ?_
      refine v_goto 15 rfl dX8_isWithin_11 ?_
      exact v_zr1 dX8_isWithin_15
-- TemperNurses$TextReader.append(I)Z at 9
def f7_append_9 (a1 : Int32) (h : jv_H) : Option (Int32 × jv_H) := if (h.1 9 1) < (120 : Int32) then if jv_ix (h.1 9 1) 120 then jv_let (jv_p h 18 (Int32.toNatClampNeg (h.1 9 1)) a1) fun h1 => jv_let (jv_p h1 9 1 ((h1.1 9 1) + (1 : Int32))) fun h2 => some ((1 : Int32), h2) else none else some ((0 : Int32), h)
set_option maxRecDepth 20000 in
theorem e7_append_9 {l : Launch} {d : Nat} {X : List jv_S} (hd : 0 ≤ d) (a1 : Int32) (h : jv_H) : jv_E l yX7_append cX7_append 2 (some .boolean) d (SC ++ X) jv_ri [.ref 9, .int a1] h (f7_append_9 a1 h) := by
  refine e_of [(0, .ref 9), (1, .int a1)] rfl pn_X7 (fun _ => Nat.le_of_ble_eq_true rfl) (fun _ => rfl) ?_
  unfold f7_append_9
  refine v_aload_n 0 1 rfl dX7_append_0 rfl rfl ?_
  refine v_geti 4 rfl fl_X7_25 sc_9 rfl dX7_append_1 ?_
  refine v_bipush 6 rfl dX7_append_4 bp_120 ?_
  refine v_icmp_lt 11 9 rfl rfl dX7_append_6 (fun _ => ?_) (fun _ => ?_)
  · refine v_aload_n 0 12 rfl dX7_append_11 rfl rfl ?_
    refine v_getr 15 rfl fl_X7_18 sc_9 rfl dX7_append_12 ?_
    refine v_aload_n 0 16 rfl dX7_append_15 rfl rfl ?_
    refine v_geti 19 rfl fl_X7_25 sc_9 rfl dX7_append_16 ?_
    refine v_iload_n 1 20 rfl dX7_append_19 rfl rfl ?_
    refine n_iast 21 rfl sc_18 dX7_append_20 (fun h1 => ?_)
    refine v_aload_n 0 22 rfl dX7_append_21 rfl rfl ?_
    refine v_dupr 23 rfl dX7_append_22 ?_
    refine v_geti 26 rfl fl_X7_25 sc_9 rfl dX7_append_23 ?_
    refine v_iconst 27 rfl dX7_append_26 ic_1 ?_
    refine v_iadd 28 rfl dX7_append_27 ?_
    refine n_puti 31 rfl fl_X7_25 sc_9 rfl dX7_append_28 (fun h2 => ?_)
    refine v_iconst 32 rfl dX7_append_31 ic_1 ?_
    exact v_zr1 dX7_append_32
  · refine v_iconst 10 rfl dX7_append_9 ic_0 ?_
    exact v_zr0 dX7_append_10
-- TemperNurses.type(I)I at 0
def f8_type_0 (a1 : Int32) (h : jv_H) : Option (Int32 × jv_H) := (f8_isWithin a1 (0 : Int32) (255 : Int32) h).bind fun q1 => if q1.1 = 0 then some ((-1 : Int32), q1.2) else (f7_append_9 a1 q1.2).bind fun q2 => if q2.1 = 0 then some ((-3 : Int32), q2.2) else some ((q2.2.1 9 1), q2.2)
set_option maxRecDepth 20000 in
theorem e8_type_0 {l : Launch} {d : Nat} {X : List jv_S} (hd : 1 ≤ d) (a1 : Int32) (h : jv_H) : jv_E l yX8_type cX8_type 2 (some .int) d (SC ++ X) jv_ri [.ref 0, .int a1] h (f8_type_0 a1 h) := by
  refine e_of [(0, .ref 0), (1, .int a1)] rfl pn_X8 (fun _ => Nat.le_of_ble_eq_true rfl) (fun _ => rfl) ?_
  unfold f8_type_0
  refine v_iload_n 1 1 rfl dX8_type_0 rfl rfl ?_
  refine v_iconst 2 rfl dX8_type_1 ic_0 ?_
  refine v_sipush 5 rfl dX8_type_2 sp_255 ?_
  refine n_calls [.int a1, .int (0 : Int32), .int (255 : Int32)] [] (fun r => .int r :: []) 8 rfl (by omega) (Nat.le_of_ble_eq_true rfl) cb_X8_isWithin cs_X8_83 rfl (Nat.le_of_ble_eq_true rfl) dX8_type_5 rfl (fun _ => rfl) (e8_isWithin (by omega) a1 (0 : Int32) (255 : Int32) h) (fun q1 => ?_)
  refine v_if_ne 13 11 rfl rfl dX8_type_8 (fun _ => ?_) (fun _ => ?_)
  · refine v_aload_n 0 14 rfl dX8_type_13 rfl rfl ?_
    refine v_getr 17 rfl fl_X8_19 sc_0 rfl dX8_type_14 ?_
    refine v_iload_n 1 18 rfl dX8_type_17 rfl rfl ?_
    refine n_callv [.int a1] [] (fun r => .int r :: []) 21 rfl (by omega) (Nat.le_of_ble_eq_true rfl) cb_X7_append cv_X8_87 sc_9 cn_X7 rfl (Nat.le_of_ble_eq_true rfl) dX8_type_18 rfl (fun _ => rfl) (e7_append_9 (by omega) a1 q1.2) (fun q2 => ?_)
    refine v_if_eq 34 24 rfl rfl dX8_type_21 (fun _ => ?_) (fun _ => ?_)
    · refine v_bipush 36 rfl dX8_type_34 bp_m3 ?_
      exact v_iret rfl dX8_type_36
    · refine v_aload_n 0 25 rfl dX8_type_24 rfl rfl ?_
      refine v_getr 28 rfl fl_X8_19 sc_0 rfl dX8_type_25 ?_
      refine v_geti 31 rfl fl_X8_91 sc_9 rfl dX8_type_28 ?_
      refine v_goto 36 rfl dX8_type_31 ?_
      exact v_iret rfl dX8_type_36
  · refine v_iconst 12 rfl dX8_type_11 ic_m1 ?_
    exact v_iret rfl dX8_type_12
-- TemperNurses$TextReader.empty()I at 9
def f7_empty_9 (h : jv_H) : Option (Int32 × jv_H) := jv_let (h.1 9 1) fun x1 => jv_let (jv_p h 9 1 (0 : Int32)) fun h2 => some (x1, h2)
set_option maxRecDepth 20000 in
theorem e7_empty_9 {l : Launch} {d : Nat} {X : List jv_S} (hd : 0 ≤ d) (h : jv_H) : jv_E l yX7_empty cX7_empty 2 (some .int) d (SC ++ X) jv_ri [.ref 9] h (f7_empty_9  h) := by
  refine e_of [(0, .ref 9)] rfl pn_X7 (fun _ => Nat.le_of_ble_eq_true rfl) (fun _ => rfl) ?_
  unfold f7_empty_9
  refine v_aload_n 0 1 rfl dX7_empty_0 rfl rfl ?_
  refine v_geti 4 rfl fl_X7_25 sc_9 rfl dX7_empty_1 ?_
  refine n_istore_n (fun x1 => [(0, .ref 9), (1, .int x1)]) 5 rfl dX7_empty_4 rfl (Nat.le_of_ble_eq_true rfl) rfl (fun _ => rfl) (fun x1 => ?_)
  refine v_aload_n 0 6 rfl dX7_empty_5 rfl rfl ?_
  refine v_iconst 7 rfl dX7_empty_6 ic_0 ?_
  refine n_puti 10 rfl fl_X7_25 sc_9 rfl dX7_empty_7 (fun h2 => ?_)
  refine v_iload_n 1 11 rfl dX7_empty_10 rfl rfl ?_
  exact v_iret rfl dX7_empty_11
-- TemperNurses.clear()I at 0
def f8_clear_0 (h : jv_H) : Option (Int32 × jv_H) := (f7_empty_9 h).bind fun q1 => some (q1.1, q1.2)
set_option maxRecDepth 20000 in
theorem e8_clear_0 {l : Launch} {d : Nat} {X : List jv_S} (hd : 1 ≤ d) (h : jv_H) : jv_E l yX8_clear cX8_clear 1 (some .int) d (SC ++ X) jv_ri [.ref 0] h (f8_clear_0  h) := by
  refine e_of [(0, .ref 0)] rfl pn_X8 (fun _ => Nat.le_of_ble_eq_true rfl) (fun _ => rfl) ?_
  unfold f8_clear_0
  refine v_aload_n 0 1 rfl dX8_clear_0 rfl rfl ?_
  refine v_getr 4 rfl fl_X8_19 sc_0 rfl dX8_clear_1 ?_
  refine n_callv [] [] (fun r => .int r :: []) 7 rfl (by omega) (Nat.le_of_ble_eq_true rfl) cb_X7_empty cv_X8_95 sc_9 cn_X7 rfl (Nat.le_of_ble_eq_true rfl) dX8_clear_4 rfl (fun _ => rfl) (e7_empty_9 (by omega)  h) (fun q1 => ?_)
  exact v_iret rfl dX8_clear_7
-- java/util/Arrays.fill([II)V at 14
def gj7_fill_53178_14_b5 (k5 : Int32 → Int32 → Int32 → jv_H → Option (Unit × jv_H)) (a1 : Int32) (a2 : Int32) (a3 : Int32) (h : jv_H) : Option (Unit × jv_H) := if a3 ≤ a2 then some ((), h) else if jv_ix a2 6 then jv_let (jv_p h 14 (Int32.toNatClampNeg a2) a1) fun h1 => jv_let (a2 + (1 : Int32)) fun x2 => k5 a1 x2 a3 h1 else none
set_option maxRecDepth 20000 in
theorem bj7_fill_53178_14_b5 {l : Launch} {d : Nat} {X : List jv_S} (hd : 0 ≤ d) (k5 : Int32 → Int32 → Int32 → jv_H → Option (Unit × jv_H)) (hk5 : ∀ (a1 a2 a3 : Int32) (h : jv_H), jv_V l RJ7 cJ7_fill_53178 4 none d (SC ++ X) jv_rv 5 [(0, .ref 14), (1, .int a1), (2, .int a2), (3, .int a3)] [] h (k5 a1 a2 a3 h)) : ∀ (a1 : Int32) (a2 : Int32) (a3 : Int32) (h : jv_H), jv_V l RJ7 cJ7_fill_53178 4 none d (SC ++ X) jv_rv 5 [(0, .ref 14), (1, .int a1), (2, .int a2), (3, .int a3)] [] h (gj7_fill_53178_14_b5 k5 a1 a2 a3 h) := by
  intro a1 a2 a3 h
  unfold gj7_fill_53178_14_b5
  refine v_iload_n 2 6 rfl dJ7_fill_53178_5 rfl rfl ?_
  refine v_iload_n 3 7 rfl dJ7_fill_53178_6 rfl rfl ?_
  refine v_icmp_ge 20 10 rfl rfl dJ7_fill_53178_7 (fun _ => ?_) (fun _ => ?_)
  · exact v_vret rfl dJ7_fill_53178_20
  · refine v_aload_n 0 11 rfl dJ7_fill_53178_10 rfl rfl ?_
    refine v_iload_n 2 12 rfl dJ7_fill_53178_11 rfl rfl ?_
    refine v_iload_n 1 13 rfl dJ7_fill_53178_12 rfl rfl ?_
    refine n_iast 14 rfl sc_14 dJ7_fill_53178_13 (fun h1 => ?_)
    refine n_iinc (fun x2 => [(0, .ref 14), (1, .int a1), (2, .int x2), (3, .int a3)]) 2 17 rfl dJ7_fill_53178_14 rfl ic_1 (Nat.le_of_ble_eq_true rfl) rfl (fun _ => rfl) (fun x2 => ?_)
    refine v_goto 5 rfl dJ7_fill_53178_17 ?_
    exact hk5 a1 x2 a3 h1
def fj7_fill_53178_14_l5 : Nat → Int32 → Int32 → Int32 → jv_H → Option (Unit × jv_H)
  | 0 => fun _ _ _ _ => none
  | n + 1 => fun a1 a2 a3 h => gj7_fill_53178_14_b5 (fj7_fill_53178_14_l5 n) a1 a2 a3 h
theorem wj7_fill_53178_14_l5 {l : Launch} {d : Nat} {X : List jv_S} (hd : 0 ≤ d) : ∀ (n : Nat) (a1 : Int32) (a2 : Int32) (a3 : Int32) (h : jv_H), jv_V l RJ7 cJ7_fill_53178 4 none d (SC ++ X) jv_rv 5 [(0, .ref 14), (1, .int a1), (2, .int a2), (3, .int a3)] [] h (fj7_fill_53178_14_l5 n a1 a2 a3 h) := by
  intro n
  induction n with
  | zero => intro a1 a2 a3 h; exact v_none
  | succ n ih => intro a1 a2 a3 h; exact bj7_fill_53178_14_b5 hd (fj7_fill_53178_14_l5 n) ih a1 a2 a3 h
def fj7_fill_53178_14 (a1 : Int32) (h : jv_H) : Option (Unit × jv_H) := jv_let (0 : Int32) fun x1 => jv_let (6 : Int32) fun x2 => fj7_fill_53178_14_l5 jv_fuel a1 x1 x2 h
set_option maxRecDepth 20000 in
theorem ej7_fill_53178_14 {l : Launch} {d : Nat} {X : List jv_S} (hd : 0 ≤ d) (a1 : Int32) (h : jv_H) : jv_E l yJ7_fill_53178 cJ7_fill_53178 4 none d (SC ++ X) jv_rv [.ref 14, .int a1] h (fj7_fill_53178_14 a1 h) := by
  refine e_of [(0, .ref 14), (1, .int a1)] rfl pn_J7 (fun _ => Nat.le_of_ble_eq_true rfl) (fun _ => rfl) ?_
  unfold fj7_fill_53178_14
  refine v_iconst 1 rfl dJ7_fill_53178_0 ic_0 ?_
  refine n_istore_n (fun x1 => [(0, .ref 14), (1, .int a1), (2, .int x1)]) 2 rfl dJ7_fill_53178_1 rfl (Nat.le_of_ble_eq_true rfl) rfl (fun _ => rfl) (fun x1 => ?_)
  refine v_aload_n 0 3 rfl dJ7_fill_53178_2 rfl rfl ?_
  refine v_alen (v := (6 : Int32)) 4 rfl sc_14 rfl dJ7_fill_53178_3 ?_
  refine n_istore_n (fun x2 => [(0, .ref 14), (1, .int a1), (2, .int x1), (3, .int x2)]) 5 rfl dJ7_fill_53178_4 rfl (Nat.le_of_ble_eq_true rfl) rfl (fun _ => rfl) (fun x2 => ?_)
  exact wj7_fill_53178_14_l5 hd jv_fuel a1 x1 x2 h
-- TemperNurses$Hill.wipe()V at 10
def f2_wipe_10 (h : jv_H) : Option (Unit × jv_H) := jv_let (jv_p h 10 0 (0 : Int32)) fun h1 => jv_let (jv_p h1 10 1 (0 : Int32)) fun h2 => (fj7_fill_53178_14 (0 : Int32) h2).bind fun q3 => some ((), q3.2)
set_option maxRecDepth 20000 in
theorem e2_wipe_10 {l : Launch} {d : Nat} {X : List jv_S} (hd : 1 ≤ d) (h : jv_H) : jv_E l yX2_wipe cX2_wipe 1 none d (SC ++ X) jv_rv [.ref 10] h (f2_wipe_10  h) := by
  refine e_of [(0, .ref 10)] rfl pn_X2 (fun _ => Nat.le_of_ble_eq_true rfl) (fun _ => rfl) ?_
  unfold f2_wipe_10
  refine v_aload_n 0 1 rfl dX2_wipe_0 rfl rfl ?_
  refine v_iconst 2 rfl dX2_wipe_1 ic_0 ?_
  refine n_puti 5 rfl fl_X2_33 sc_10 rfl dX2_wipe_2 (fun h1 => ?_)
  refine v_aload_n 0 6 rfl dX2_wipe_5 rfl rfl ?_
  refine v_iconst 7 rfl dX2_wipe_6 ic_0 ?_
  refine n_puti 10 rfl fl_X2_37 sc_10 rfl dX2_wipe_7 (fun h2 => ?_)
  refine v_aload_n 0 11 rfl dX2_wipe_10 rfl rfl ?_
  refine v_getr 14 rfl fl_X2_21 sc_10 rfl dX2_wipe_11 ?_
  refine v_iconst 15 rfl dX2_wipe_14 ic_0 ?_
  refine n_calls [.ref 14, .int (0 : Int32)] [] (fun _ => []) 18 rfl (by omega) (Nat.le_of_ble_eq_true rfl) cb_J7_fill_53178 cs_X2_40 rfl (Nat.le_of_ble_eq_true rfl) dX2_wipe_15 rfl (fun _ => rfl) (ej7_fill_53178_14 (by omega) (0 : Int32) h2) (fun q3 => ?_)
  exact v_vret rfl dX2_wipe_18
-- TemperNurses$TextReader.byteAt(I)I at 9
def f7_byteAt_9 (a1 : Int32) (h : jv_H) : Option (Int32 × jv_H) := (f8_isWithin a1 (0 : Int32) (119 : Int32) h).bind fun q1 => if q1.1 = 0 then some ((0 : Int32), q1.2) else if jv_ix a1 120 then some ((q1.2.1 18 (Int32.toNatClampNeg a1)), q1.2) else none
set_option maxRecDepth 20000 in
theorem e7_byteAt_9 {l : Launch} {d : Nat} {X : List jv_S} (hd : 1 ≤ d) (a1 : Int32) (h : jv_H) : jv_E l yX7_byteAt cX7_byteAt 2 (some .int) d (SC ++ X) jv_ri [.ref 9, .int a1] h (f7_byteAt_9 a1 h) := by
  refine e_of [(0, .ref 9), (1, .int a1)] rfl pn_X7 (fun _ => Nat.le_of_ble_eq_true rfl) (fun _ => rfl) ?_
  unfold f7_byteAt_9
  refine v_iload_n 1 1 rfl dX7_byteAt_0 rfl rfl ?_
  refine v_iconst 2 rfl dX7_byteAt_1 ic_0 ?_
  refine v_bipush 4 rfl dX7_byteAt_2 bp_119 ?_
  refine n_calln [.int a1, .int (0 : Int32), .int (119 : Int32)] [] (fun r => .int r :: []) 7 rfl (by omega) (Nat.le_of_ble_eq_true rfl) cb_X8_isWithin cn_X7_76 rfl (Nat.le_of_ble_eq_true rfl) dX7_byteAt_4 rfl (fun _ => rfl) (e8_isWithin (by omega) a1 (0 : Int32) (119 : Int32) h) (fun q1 => ?_)
  refine v_if_eq 19 10 rfl rfl dX7_byteAt_7 (fun _ => ?_) (fun _ => ?_)
  · refine v_iconst 20 rfl dX7_byteAt_19 ic_0 ?_
    exact v_iret rfl dX7_byteAt_20
  · refine v_aload_n 0 11 rfl dX7_byteAt_10 rfl rfl ?_
    refine v_getr 14 rfl fl_X7_18 sc_9 rfl dX7_byteAt_11 ?_
    refine v_iload_n 1 15 rfl dX7_byteAt_14 rfl rfl ?_
    refine v_iald 16 rfl sc_18 dX7_byteAt_15 (fun _ => ?_)
    refine v_goto 20 rfl dX7_byteAt_16 ?_
    exact v_iret rfl dX7_byteAt_20
-- TemperNurses$TextReader.isLetter(I)Z at 9
def f7_isLetter_9 (a1 : Int32) (h : jv_H) : Option (Int32 × jv_H) := (f7_byteAt_9 a1 h).bind fun q1 => (f8_isWithin q1.1 (97 : Int32) (122 : Int32) q1.2).bind fun q2 => if q2.1 = 0 ∨ q2.1 = 1 then some (q2.1, q2.2) else none
set_option maxRecDepth 20000 in
theorem e7_isLetter_9 {l : Launch} {d : Nat} {X : List jv_S} (hd : 2 ≤ d) (a1 : Int32) (h : jv_H) : jv_E l yX7_isLetter cX7_isLetter 2 (some .boolean) d (SC ++ X) jv_ri [.ref 9, .int a1] h (f7_isLetter_9 a1 h) := by
  refine e_of [(0, .ref 9), (1, .int a1)] rfl pn_X7 (fun _ => Nat.le_of_ble_eq_true rfl) (fun _ => rfl) ?_
  unfold f7_isLetter_9
  refine v_aload_n 0 1 rfl dX7_isLetter_0 rfl rfl ?_
  refine v_iload_n 1 2 rfl dX7_isLetter_1 rfl rfl ?_
  refine n_callv [.int a1] [] (fun r => .int r :: []) 5 rfl (by omega) (Nat.le_of_ble_eq_true rfl) cb_X7_byteAt cv_X7_110 sc_9 cn_X7 rfl (Nat.le_of_ble_eq_true rfl) dX7_isLetter_2 rfl (fun _ => rfl) (e7_byteAt_9 (by omega) a1 h) (fun q1 => ?_)
  refine v_bipush 7 rfl dX7_isLetter_5 bp_97 ?_
  refine v_bipush 9 rfl dX7_isLetter_7 bp_122 ?_
  refine n_calln [.int q1.1, .int (97 : Int32), .int (122 : Int32)] [] (fun r => .int r :: []) 12 rfl (by omega) (Nat.le_of_ble_eq_true rfl) cb_X8_isWithin cn_X7_76 rfl (Nat.le_of_ble_eq_true rfl) dX7_isLetter_9 rfl (fun _ => rfl) (e8_isWithin (by omega) q1.1 (97 : Int32) (122 : Int32) q1.2) (fun q2 => ?_)
  exact v_zret rfl dX7_isLetter_12
-- TemperNurses$TextReader.isDigit(I)Z at 9
def f7_isDigit_9 (a1 : Int32) (h : jv_H) : Option (Int32 × jv_H) := (f7_byteAt_9 a1 h).bind fun q1 => (f8_isWithin q1.1 (48 : Int32) (57 : Int32) q1.2).bind fun q2 => if q2.1 = 0 ∨ q2.1 = 1 then some (q2.1, q2.2) else none
set_option maxRecDepth 20000 in
theorem e7_isDigit_9 {l : Launch} {d : Nat} {X : List jv_S} (hd : 2 ≤ d) (a1 : Int32) (h : jv_H) : jv_E l yX7_isDigit cX7_isDigit 2 (some .boolean) d (SC ++ X) jv_ri [.ref 9, .int a1] h (f7_isDigit_9 a1 h) := by
  refine e_of [(0, .ref 9), (1, .int a1)] rfl pn_X7 (fun _ => Nat.le_of_ble_eq_true rfl) (fun _ => rfl) ?_
  unfold f7_isDigit_9
  refine v_aload_n 0 1 rfl dX7_isDigit_0 rfl rfl ?_
  refine v_iload_n 1 2 rfl dX7_isDigit_1 rfl rfl ?_
  refine n_callv [.int a1] [] (fun r => .int r :: []) 5 rfl (by omega) (Nat.le_of_ble_eq_true rfl) cb_X7_byteAt cv_X7_110 sc_9 cn_X7 rfl (Nat.le_of_ble_eq_true rfl) dX7_isDigit_2 rfl (fun _ => rfl) (e7_byteAt_9 (by omega) a1 h) (fun q1 => ?_)
  refine v_bipush 7 rfl dX7_isDigit_5 bp_48 ?_
  refine v_bipush 9 rfl dX7_isDigit_7 bp_57 ?_
  refine n_calln [.int q1.1, .int (48 : Int32), .int (57 : Int32)] [] (fun r => .int r :: []) 12 rfl (by omega) (Nat.le_of_ble_eq_true rfl) cb_X8_isWithin cn_X7_76 rfl (Nat.le_of_ble_eq_true rfl) dX7_isDigit_9 rfl (fun _ => rfl) (e8_isWithin (by omega) q1.1 (48 : Int32) (57 : Int32) q1.2) (fun q2 => ?_)
  exact v_zret rfl dX7_isDigit_12
-- TemperNurses$TextReader.readDigits()V at 9
def g7_readDigits_9_b54 (k0 : jv_H → Option (Unit × jv_H)) (h : jv_H) : Option (Unit × jv_H) := jv_let (jv_p h 9 5 ((h.1 9 5) + (1 : Int32))) fun h1 => k0 h1
set_option maxRecDepth 20000 in
theorem b7_readDigits_9_b54 {l : Launch} {d : Nat} {X : List jv_S} (hd : 3 ≤ d) (k0 : jv_H → Option (Unit × jv_H)) (hk0 : ∀ (h : jv_H), jv_V l RX7 cX7_readDigits 2 none d (SC ++ X) jv_rv 0 [(0, .ref 9)] [] h (k0 h)) : ∀ (h : jv_H), jv_V l RX7 cX7_readDigits 2 none d (SC ++ X) jv_rv 54 [(0, .ref 9)] [] h (g7_readDigits_9_b54 k0 h) := by
  intro  h
  unfold g7_readDigits_9_b54
  refine v_aload_n 0 55 rfl dX7_readDigits_54 rfl rfl ?_
  refine v_dupr 56 rfl dX7_readDigits_55 ?_
  refine v_geti 59 rfl fl_X7_32 sc_9 rfl dX7_readDigits_56 ?_
  refine v_iconst 60 rfl dX7_readDigits_59 ic_1 ?_
  refine v_iadd 61 rfl dX7_readDigits_60 ?_
  refine n_puti 64 rfl fl_X7_32 sc_9 rfl dX7_readDigits_61 (fun h1 => ?_)
  refine v_goto 0 rfl dX7_readDigits_64 ?_
  exact hk0 h1
def g7_readDigits_9_b113 (h : jv_H) : Option (Unit × jv_H) := jv_let (jv_p h 9 3 (4 : Int32)) fun h1 => some ((), h1)
set_option maxRecDepth 20000 in
theorem b7_readDigits_9_b113 {l : Launch} {d : Nat} {X : List jv_S} (hd : 3 ≤ d) : ∀ (h : jv_H), jv_V l RX7 cX7_readDigits 2 none d (SC ++ X) jv_rv 113 [] [.ref 9] h (g7_readDigits_9_b113 h) := by
  intro  h
  unfold g7_readDigits_9_b113
  refine v_iconst 114 rfl dX7_readDigits_113 ic_4 ?_
  refine v_goto 118 rfl dX7_readDigits_114 ?_
  refine n_puti 121 rfl fl_X7_41 sc_9 rfl dX7_readDigits_118 (fun h1 => ?_)
  exact v_vret rfl dX7_readDigits_121
def g7_readDigits_9_b98 (s0 : Int32) (h : jv_H) : Option (Unit × jv_H) := jv_let s0 fun x1 => if x1 = 0 then if (h.1 9 6) ≤ (99 : Int32) then jv_let (jv_p h 9 3 (2 : Int32)) fun h2 => some ((), h2) else g7_readDigits_9_b113 h else g7_readDigits_9_b113 h
set_option maxRecDepth 20000 in
theorem b7_readDigits_9_b98 {l : Launch} {d : Nat} {X : List jv_S} (hd : 3 ≤ d) : ∀ (s0 : Int32) (h : jv_H), jv_V l RX7 cX7_readDigits 2 none d (SC ++ X) jv_rv 98 [(0, .ref 9)] [.int s0] h (g7_readDigits_9_b98 s0 h) := by
  intro s0 h
  unfold g7_readDigits_9_b98
  refine n_istore_n (fun x1 => [(0, .ref 9), (1, .int x1)]) 99 rfl dX7_readDigits_98 rfl (Nat.le_of_ble_eq_true rfl) rfl (fun _ => rfl) (fun x1 => ?_)
  refine v_aload_n 0 100 rfl dX7_readDigits_99 rfl rfl ?_
  refine v_iload_n 1 101 rfl dX7_readDigits_100 rfl rfl ?_
  refine v_if_ne 113 104 rfl rfl dX7_readDigits_101 (fun _ => ?_) (fun _ => ?_)
  · refine v_sub [] rfl ?_
    exact b7_readDigits_9_b113 hd h
  · refine v_aload_n 0 105 rfl dX7_readDigits_104 rfl rfl ?_
    refine v_geti 108 rfl fl_X7_67 sc_9 rfl dX7_readDigits_105 ?_
    refine v_bipush 110 rfl dX7_readDigits_108 bp_99 ?_
    refine v_icmp_le 117 113 rfl rfl dX7_readDigits_110 (fun _ => ?_) (fun _ => ?_)
    · refine v_iconst 118 rfl dX7_readDigits_117 ic_2 ?_
      refine n_puti 121 rfl fl_X7_41 sc_9 rfl dX7_readDigits_118 (fun h2 => ?_)
      exact v_vret rfl dX7_readDigits_121
    · refine v_sub [] rfl ?_
      exact b7_readDigits_9_b113 hd h
def g7_readDigits_9_b97 (h : jv_H) : Option (Unit × jv_H) := g7_readDigits_9_b98 (0 : Int32) h
set_option maxRecDepth 20000 in
theorem b7_readDigits_9_b97 {l : Launch} {d : Nat} {X : List jv_S} (hd : 3 ≤ d) : ∀ (h : jv_H), jv_V l RX7 cX7_readDigits 2 none d (SC ++ X) jv_rv 97 [(0, .ref 9)] [] h (g7_readDigits_9_b97 h) := by
  intro  h
  unfold g7_readDigits_9_b97
  refine v_iconst 98 rfl dX7_readDigits_97 ic_0 ?_
  exact b7_readDigits_9_b98 hd (0 : Int32) h
def g7_readDigits_9_b67 (h : jv_H) : Option (Unit × jv_H) := if ((h.1 9 5) - (h.1 9 4)) ≤ (1 : Int32) then g7_readDigits_9_b97 h else (f7_byteAt_9 (h.1 9 4) h).bind fun q1 => if q1.1 = (48 : Int32) then g7_readDigits_9_b98 (1 : Int32) q1.2 else g7_readDigits_9_b97 q1.2
set_option maxRecDepth 20000 in
theorem b7_readDigits_9_b67 {l : Launch} {d : Nat} {X : List jv_S} (hd : 3 ≤ d) : ∀ (h : jv_H), jv_V l RX7 cX7_readDigits 2 none d (SC ++ X) jv_rv 67 [(0, .ref 9)] [] h (g7_readDigits_9_b67 h) := by
  intro  h
  unfold g7_readDigits_9_b67
  refine v_aload_n 0 68 rfl dX7_readDigits_67 rfl rfl ?_
  refine v_geti 71 rfl fl_X7_32 sc_9 rfl dX7_readDigits_68 ?_
  refine v_aload_n 0 72 rfl dX7_readDigits_71 rfl rfl ?_
  refine v_geti 75 rfl fl_X7_48 sc_9 rfl dX7_readDigits_72 ?_
  refine v_isub 76 rfl dX7_readDigits_75 ?_
  refine v_iconst 77 rfl dX7_readDigits_76 ic_1 ?_
  refine v_icmp_le 97 80 rfl rfl dX7_readDigits_77 (fun _ => ?_) (fun _ => ?_)
  · exact b7_readDigits_9_b97 hd h
  · refine v_aload_n 0 81 rfl dX7_readDigits_80 rfl rfl ?_
    refine v_aload_n 0 82 rfl dX7_readDigits_81 rfl rfl ?_
    refine v_geti 85 rfl fl_X7_48 sc_9 rfl dX7_readDigits_82 ?_
    refine n_callv [.int (h.1 9 4)] [] (fun r => .int r :: []) 88 rfl (by omega) (Nat.le_of_ble_eq_true rfl) cb_X7_byteAt cv_X7_110 sc_9 cn_X7 rfl (Nat.le_of_ble_eq_true rfl) dX7_readDigits_85 rfl (fun _ => rfl) (e7_byteAt_9 (by omega) (h.1 9 4) h) (fun q1 => ?_)
    refine v_bipush 90 rfl dX7_readDigits_88 bp_48 ?_
    refine v_icmp_ne 97 93 rfl rfl dX7_readDigits_90 (fun _ => ?_) (fun _ => ?_)
    · exact b7_readDigits_9_b97 hd q1.2
    · refine v_iconst 94 rfl dX7_readDigits_93 ic_1 ?_
      refine v_goto 98 rfl dX7_readDigits_94 ?_
      exact b7_readDigits_9_b98 hd (1 : Int32) q1.2
def g7_readDigits_9_b0 (k0 : jv_H → Option (Unit × jv_H)) (h : jv_H) : Option (Unit × jv_H) := if (h.1 9 1) ≤ (h.1 9 5) then g7_readDigits_9_b67 h else (f7_isDigit_9 (h.1 9 5) h).bind fun q1 => if q1.1 = 0 then g7_readDigits_9_b67 q1.2 else if (99 : Int32) < (q1.2.1 9 6) then g7_readDigits_9_b54 k0 q1.2 else (f7_byteAt_9 (q1.2.1 9 5) q1.2).bind fun q2 => jv_let (jv_p q2.2 9 6 ((((q1.2.1 9 6) * (10 : Int32)) + q2.1) - (48 : Int32))) fun h3 => g7_readDigits_9_b54 k0 h3
set_option maxRecDepth 20000 in
theorem b7_readDigits_9_b0 {l : Launch} {d : Nat} {X : List jv_S} (hd : 3 ≤ d) (k0 : jv_H → Option (Unit × jv_H)) (hk0 : ∀ (h : jv_H), jv_V l RX7 cX7_readDigits 2 none d (SC ++ X) jv_rv 0 [(0, .ref 9)] [] h (k0 h)) : ∀ (h : jv_H), jv_V l RX7 cX7_readDigits 2 none d (SC ++ X) jv_rv 0 [(0, .ref 9)] [] h (g7_readDigits_9_b0 k0 h) := by
  intro  h
  unfold g7_readDigits_9_b0
  refine v_aload_n 0 1 rfl dX7_readDigits_0 rfl rfl ?_
  refine v_geti 4 rfl fl_X7_32 sc_9 rfl dX7_readDigits_1 ?_
  refine v_aload_n 0 5 rfl dX7_readDigits_4 rfl rfl ?_
  refine v_geti 8 rfl fl_X7_25 sc_9 rfl dX7_readDigits_5 ?_
  refine v_icmp_ge 67 11 rfl rfl dX7_readDigits_8 (fun _ => ?_) (fun _ => ?_)
  · exact b7_readDigits_9_b67 hd h
  · refine v_aload_n 0 12 rfl dX7_readDigits_11 rfl rfl ?_
    refine v_aload_n 0 13 rfl dX7_readDigits_12 rfl rfl ?_
    refine v_geti 16 rfl fl_X7_32 sc_9 rfl dX7_readDigits_13 ?_
    refine n_callv [.int (h.1 9 5)] [] (fun r => .int r :: []) 19 rfl (by omega) (Nat.le_of_ble_eq_true rfl) cb_X7_isDigit cv_X7_120 sc_9 cn_X7 rfl (Nat.le_of_ble_eq_true rfl) dX7_readDigits_16 rfl (fun _ => rfl) (e7_isDigit_9 (by omega) (h.1 9 5) h) (fun q1 => ?_)
    refine v_if_eq 67 22 rfl rfl dX7_readDigits_19 (fun _ => ?_) (fun _ => ?_)
    · exact b7_readDigits_9_b67 hd q1.2
    · refine v_aload_n 0 23 rfl dX7_readDigits_22 rfl rfl ?_
      refine v_geti 26 rfl fl_X7_67 sc_9 rfl dX7_readDigits_23 ?_
      refine v_bipush 28 rfl dX7_readDigits_26 bp_99 ?_
      refine v_icmp_gt 54 31 rfl rfl dX7_readDigits_28 (fun _ => ?_) (fun _ => ?_)
      · exact b7_readDigits_9_b54 hd k0 hk0 q1.2
      · refine v_aload_n 0 32 rfl dX7_readDigits_31 rfl rfl ?_
        refine v_aload_n 0 33 rfl dX7_readDigits_32 rfl rfl ?_
        refine v_geti 36 rfl fl_X7_67 sc_9 rfl dX7_readDigits_33 ?_
        refine v_bipush 38 rfl dX7_readDigits_36 bp_10 ?_
        refine v_imul 39 rfl dX7_readDigits_38 ?_
        refine v_aload_n 0 40 rfl dX7_readDigits_39 rfl rfl ?_
        refine v_aload_n 0 41 rfl dX7_readDigits_40 rfl rfl ?_
        refine v_geti 44 rfl fl_X7_32 sc_9 rfl dX7_readDigits_41 ?_
        refine n_callv [.int (q1.2.1 9 5)] [.int ((q1.2.1 9 6) * (10 : Int32)), .ref 9] (fun r => .int r :: [.int ((q1.2.1 9 6) * (10 : Int32)), .ref 9]) 47 rfl (by omega) (Nat.le_of_ble_eq_true rfl) cb_X7_byteAt cv_X7_110 sc_9 cn_X7 rfl (Nat.le_of_ble_eq_true rfl) dX7_readDigits_44 rfl (fun _ => rfl) (e7_byteAt_9 (by omega) (q1.2.1 9 5) q1.2) (fun q2 => ?_)
        refine v_iadd 48 rfl dX7_readDigits_47 ?_
        refine v_bipush 50 rfl dX7_readDigits_48 bp_48 ?_
        refine v_isub 51 rfl dX7_readDigits_50 ?_
        refine n_puti 54 rfl fl_X7_67 sc_9 rfl dX7_readDigits_51 (fun h3 => ?_)
        exact b7_readDigits_9_b54 hd k0 hk0 h3
def f7_readDigits_9_l0 : Nat → jv_H → Option (Unit × jv_H)
  | 0 => fun _ => none
  | n + 1 => fun h => g7_readDigits_9_b0 (f7_readDigits_9_l0 n) h
theorem w7_readDigits_9_l0 {l : Launch} {d : Nat} {X : List jv_S} (hd : 3 ≤ d) : ∀ (n : Nat) (h : jv_H), jv_V l RX7 cX7_readDigits 2 none d (SC ++ X) jv_rv 0 [(0, .ref 9)] [] h (f7_readDigits_9_l0 n h) := by
  intro n
  induction n with
  | zero => intro  h; exact v_none
  | succ n ih => intro h; exact b7_readDigits_9_b0 hd (f7_readDigits_9_l0 n) ih h
def f7_readDigits_9 (h : jv_H) : Option (Unit × jv_H) := f7_readDigits_9_l0 jv_fuel h
set_option maxRecDepth 20000 in
theorem e7_readDigits_9 {l : Launch} {d : Nat} {X : List jv_S} (hd : 3 ≤ d) (h : jv_H) : jv_E l yX7_readDigits cX7_readDigits 2 none d (SC ++ X) jv_rv [.ref 9] h (f7_readDigits_9  h) := by
  refine e_of [(0, .ref 9)] rfl pn_X7 (fun _ => Nat.le_of_ble_eq_true rfl) (fun _ => rfl) ?_
  unfold f7_readDigits_9
  exact w7_readDigits_9_l0 hd jv_fuel h
-- TemperNurses$TextReader.readLetters()V at 9
def g7_readLetters_9_b40 (h : jv_H) : Option (Unit × jv_H) := if ((h.1 9 5) - (h.1 9 4)) = (1 : Int32) then (f7_byteAt_9 (h.1 9 4) h).bind fun q1 => jv_let (jv_p q1.2 9 6 q1.1) fun h2 => some ((), h2) else some ((), h)
set_option maxRecDepth 20000 in
theorem b7_readLetters_9_b40 {l : Launch} {d : Nat} {X : List jv_S} (hd : 3 ≤ d) : ∀ (h : jv_H), jv_V l RX7 cX7_readLetters 1 none d (SC ++ X) jv_rv 40 [(0, .ref 9)] [] h (g7_readLetters_9_b40 h) := by
  intro  h
  unfold g7_readLetters_9_b40
  refine v_aload_n 0 41 rfl dX7_readLetters_40 rfl rfl ?_
  refine v_geti 44 rfl fl_X7_32 sc_9 rfl dX7_readLetters_41 ?_
  refine v_aload_n 0 45 rfl dX7_readLetters_44 rfl rfl ?_
  refine v_geti 48 rfl fl_X7_48 sc_9 rfl dX7_readLetters_45 ?_
  refine v_isub 49 rfl dX7_readLetters_48 ?_
  refine v_iconst 50 rfl dX7_readLetters_49 ic_1 ?_
  refine v_icmp_ne 65 53 rfl rfl dX7_readLetters_50 (fun _ => ?_) (fun _ => ?_)
  · exact v_vret rfl dX7_readLetters_65
  · refine v_aload_n 0 54 rfl dX7_readLetters_53 rfl rfl ?_
    refine v_aload_n 0 55 rfl dX7_readLetters_54 rfl rfl ?_
    refine v_aload_n 0 56 rfl dX7_readLetters_55 rfl rfl ?_
    refine v_geti 59 rfl fl_X7_48 sc_9 rfl dX7_readLetters_56 ?_
    refine n_callv [.int (h.1 9 4)] [.ref 9] (fun r => .int r :: [.ref 9]) 62 rfl (by omega) (Nat.le_of_ble_eq_true rfl) cb_X7_byteAt cv_X7_110 sc_9 cn_X7 rfl (Nat.le_of_ble_eq_true rfl) dX7_readLetters_59 rfl (fun _ => rfl) (e7_byteAt_9 (by omega) (h.1 9 4) h) (fun q1 => ?_)
    refine n_puti 65 rfl fl_X7_67 sc_9 rfl dX7_readLetters_62 (fun h2 => ?_)
    exact v_vret rfl dX7_readLetters_65
def g7_readLetters_9_b5 (k5 : jv_H → Option (Unit × jv_H)) (h : jv_H) : Option (Unit × jv_H) := if (h.1 9 1) ≤ (h.1 9 5) then g7_readLetters_9_b40 h else (f7_isLetter_9 (h.1 9 5) h).bind fun q1 => if q1.1 = 0 then g7_readLetters_9_b40 q1.2 else jv_let (jv_p q1.2 9 5 ((q1.2.1 9 5) + (1 : Int32))) fun h2 => k5 h2
set_option maxRecDepth 20000 in
theorem b7_readLetters_9_b5 {l : Launch} {d : Nat} {X : List jv_S} (hd : 3 ≤ d) (k5 : jv_H → Option (Unit × jv_H)) (hk5 : ∀ (h : jv_H), jv_V l RX7 cX7_readLetters 1 none d (SC ++ X) jv_rv 5 [(0, .ref 9)] [] h (k5 h)) : ∀ (h : jv_H), jv_V l RX7 cX7_readLetters 1 none d (SC ++ X) jv_rv 5 [(0, .ref 9)] [] h (g7_readLetters_9_b5 k5 h) := by
  intro  h
  unfold g7_readLetters_9_b5
  refine v_aload_n 0 6 rfl dX7_readLetters_5 rfl rfl ?_
  refine v_geti 9 rfl fl_X7_32 sc_9 rfl dX7_readLetters_6 ?_
  refine v_aload_n 0 10 rfl dX7_readLetters_9 rfl rfl ?_
  refine v_geti 13 rfl fl_X7_25 sc_9 rfl dX7_readLetters_10 ?_
  refine v_icmp_ge 40 16 rfl rfl dX7_readLetters_13 (fun _ => ?_) (fun _ => ?_)
  · exact b7_readLetters_9_b40 hd h
  · refine v_aload_n 0 17 rfl dX7_readLetters_16 rfl rfl ?_
    refine v_aload_n 0 18 rfl dX7_readLetters_17 rfl rfl ?_
    refine v_geti 21 rfl fl_X7_32 sc_9 rfl dX7_readLetters_18 ?_
    refine n_callv [.int (h.1 9 5)] [] (fun r => .int r :: []) 24 rfl (by omega) (Nat.le_of_ble_eq_true rfl) cb_X7_isLetter cv_X7_114 sc_9 cn_X7 rfl (Nat.le_of_ble_eq_true rfl) dX7_readLetters_21 rfl (fun _ => rfl) (e7_isLetter_9 (by omega) (h.1 9 5) h) (fun q1 => ?_)
    refine v_if_eq 40 27 rfl rfl dX7_readLetters_24 (fun _ => ?_) (fun _ => ?_)
    · exact b7_readLetters_9_b40 hd q1.2
    · refine v_aload_n 0 28 rfl dX7_readLetters_27 rfl rfl ?_
      refine v_dupr 29 rfl dX7_readLetters_28 ?_
      refine v_geti 32 rfl fl_X7_32 sc_9 rfl dX7_readLetters_29 ?_
      refine v_iconst 33 rfl dX7_readLetters_32 ic_1 ?_
      refine v_iadd 34 rfl dX7_readLetters_33 ?_
      refine n_puti 37 rfl fl_X7_32 sc_9 rfl dX7_readLetters_34 (fun h2 => ?_)
      refine v_goto 5 rfl dX7_readLetters_37 ?_
      exact hk5 h2
def f7_readLetters_9_l5 : Nat → jv_H → Option (Unit × jv_H)
  | 0 => fun _ => none
  | n + 1 => fun h => g7_readLetters_9_b5 (f7_readLetters_9_l5 n) h
theorem w7_readLetters_9_l5 {l : Launch} {d : Nat} {X : List jv_S} (hd : 3 ≤ d) : ∀ (n : Nat) (h : jv_H), jv_V l RX7 cX7_readLetters 1 none d (SC ++ X) jv_rv 5 [(0, .ref 9)] [] h (f7_readLetters_9_l5 n h) := by
  intro n
  induction n with
  | zero => intro  h; exact v_none
  | succ n ih => intro h; exact b7_readLetters_9_b5 hd (f7_readLetters_9_l5 n) ih h
def f7_readLetters_9 (h : jv_H) : Option (Unit × jv_H) := jv_let (jv_p h 9 3 (1 : Int32)) fun h1 => f7_readLetters_9_l5 jv_fuel h1
set_option maxRecDepth 20000 in
theorem e7_readLetters_9 {l : Launch} {d : Nat} {X : List jv_S} (hd : 3 ≤ d) (h : jv_H) : jv_E l yX7_readLetters cX7_readLetters 1 none d (SC ++ X) jv_rv [.ref 9] h (f7_readLetters_9  h) := by
  refine e_of [(0, .ref 9)] rfl pn_X7 (fun _ => Nat.le_of_ble_eq_true rfl) (fun _ => rfl) ?_
  unfold f7_readLetters_9
  refine v_aload_n 0 1 rfl dX7_readLetters_0 rfl rfl ?_
  refine v_iconst 2 rfl dX7_readLetters_1 ic_1 ?_
  refine n_puti 5 rfl fl_X7_41 sc_9 rfl dX7_readLetters_2 (fun h1 => ?_)
  exact w7_readLetters_9_l5 hd jv_fuel h1
-- TemperNurses$TextReader.readToken()V at 9
def g7_readToken_9_b132 (s1 : Int32) (h : jv_H) : Option (Unit × jv_H) := jv_let (jv_p h 9 3 s1) fun h1 => jv_let (jv_p h1 9 5 ((h1.1 9 4) + (1 : Int32))) fun h2 => some ((), h2)
set_option maxRecDepth 20000 in
theorem b7_readToken_9_b132 {l : Launch} {d : Nat} {X : List jv_S} (hd : 4 ≤ d) : ∀ (s1 : Int32) (h : jv_H), jv_V l RX7 cX7_readToken 1 none d (SC ++ X) jv_rv 132 [(0, .ref 9)] [.int s1, .ref 9] h (g7_readToken_9_b132 s1 h) := by
  intro s1 h
  unfold g7_readToken_9_b132
  refine n_puti 135 rfl fl_X7_41 sc_9 rfl dX7_readToken_132 (fun h1 => ?_)
  refine v_aload_n 0 136 rfl dX7_readToken_135 rfl rfl ?_
  refine v_aload_n 0 137 rfl dX7_readToken_136 rfl rfl ?_
  refine v_geti 140 rfl fl_X7_48 sc_9 rfl dX7_readToken_137 ?_
  refine v_iconst 141 rfl dX7_readToken_140 ic_1 ?_
  refine v_iadd 142 rfl dX7_readToken_141 ?_
  refine n_puti 145 rfl fl_X7_32 sc_9 rfl dX7_readToken_142 (fun h2 => ?_)
  exact v_vret rfl dX7_readToken_145
def g7_readToken_9_b45 (h : jv_H) : Option (Unit × jv_H) := jv_let (jv_p h 9 5 (h.1 9 4)) fun h1 => jv_let (jv_p h1 9 6 (0 : Int32)) fun h2 => if (h2.1 9 4) < (h2.1 9 1) then (f7_isLetter_9 (h2.1 9 4) h2).bind fun q3 => if q3.1 = 0 then (f7_isDigit_9 (q3.2.1 9 4) q3.2).bind fun q4 => if q4.1 = 0 then (f7_byteAt_9 (q4.2.1 9 4) q4.2).bind fun q5 => if q5.1 = (59 : Int32) then g7_readToken_9_b132 (3 : Int32) q5.2 else g7_readToken_9_b132 (4 : Int32) q5.2 else (f7_readDigits_9 q4.2).bind fun q6 => some ((), q6.2) else (f7_readLetters_9 q3.2).bind fun q7 => some ((), q7.2) else jv_let (jv_p h2 9 3 (0 : Int32)) fun h8 => some ((), h8)
set_option maxRecDepth 20000 in
theorem b7_readToken_9_b45 {l : Launch} {d : Nat} {X : List jv_S} (hd : 4 ≤ d) : ∀ (h : jv_H), jv_V l RX7 cX7_readToken 1 none d (SC ++ X) jv_rv 45 [(0, .ref 9)] [] h (g7_readToken_9_b45 h) := by
  intro  h
  unfold g7_readToken_9_b45
  refine v_aload_n 0 46 rfl dX7_readToken_45 rfl rfl ?_
  refine v_aload_n 0 47 rfl dX7_readToken_46 rfl rfl ?_
  refine v_geti 50 rfl fl_X7_48 sc_9 rfl dX7_readToken_47 ?_
  refine n_puti 53 rfl fl_X7_32 sc_9 rfl dX7_readToken_50 (fun h1 => ?_)
  refine v_aload_n 0 54 rfl dX7_readToken_53 rfl rfl ?_
  refine v_iconst 55 rfl dX7_readToken_54 ic_0 ?_
  refine n_puti 58 rfl fl_X7_67 sc_9 rfl dX7_readToken_55 (fun h2 => ?_)
  refine v_aload_n 0 59 rfl dX7_readToken_58 rfl rfl ?_
  refine v_geti 62 rfl fl_X7_48 sc_9 rfl dX7_readToken_59 ?_
  refine v_aload_n 0 63 rfl dX7_readToken_62 rfl rfl ?_
  refine v_geti 66 rfl fl_X7_25 sc_9 rfl dX7_readToken_63 ?_
  refine v_icmp_lt 77 69 rfl rfl dX7_readToken_66 (fun _ => ?_) (fun _ => ?_)
  · refine v_aload_n 0 78 rfl dX7_readToken_77 rfl rfl ?_
    refine v_aload_n 0 79 rfl dX7_readToken_78 rfl rfl ?_
    refine v_geti 82 rfl fl_X7_48 sc_9 rfl dX7_readToken_79 ?_
    refine n_callv [.int (h2.1 9 4)] [] (fun r => .int r :: []) 85 rfl (by omega) (Nat.le_of_ble_eq_true rfl) cb_X7_isLetter cv_X7_114 sc_9 cn_X7 rfl (Nat.le_of_ble_eq_true rfl) dX7_readToken_82 rfl (fun _ => rfl) (e7_isLetter_9 (by omega) (h2.1 9 4) h2) (fun q3 => ?_)
    refine v_if_eq 95 88 rfl rfl dX7_readToken_85 (fun _ => ?_) (fun _ => ?_)
    · refine v_aload_n 0 96 rfl dX7_readToken_95 rfl rfl ?_
      refine v_aload_n 0 97 rfl dX7_readToken_96 rfl rfl ?_
      refine v_geti 100 rfl fl_X7_48 sc_9 rfl dX7_readToken_97 ?_
      refine n_callv [.int (q3.2.1 9 4)] [] (fun r => .int r :: []) 103 rfl (by omega) (Nat.le_of_ble_eq_true rfl) cb_X7_isDigit cv_X7_120 sc_9 cn_X7 rfl (Nat.le_of_ble_eq_true rfl) dX7_readToken_100 rfl (fun _ => rfl) (e7_isDigit_9 (by omega) (q3.2.1 9 4) q3.2) (fun q4 => ?_)
      refine v_if_eq 113 106 rfl rfl dX7_readToken_103 (fun _ => ?_) (fun _ => ?_)
      · refine v_aload_n 0 114 rfl dX7_readToken_113 rfl rfl ?_
        refine v_aload_n 0 115 rfl dX7_readToken_114 rfl rfl ?_
        refine v_aload_n 0 116 rfl dX7_readToken_115 rfl rfl ?_
        refine v_geti 119 rfl fl_X7_48 sc_9 rfl dX7_readToken_116 ?_
        refine n_callv [.int (q4.2.1 9 4)] [.ref 9] (fun r => .int r :: [.ref 9]) 122 rfl (by omega) (Nat.le_of_ble_eq_true rfl) cb_X7_byteAt cv_X7_110 sc_9 cn_X7 rfl (Nat.le_of_ble_eq_true rfl) dX7_readToken_119 rfl (fun _ => rfl) (e7_byteAt_9 (by omega) (q4.2.1 9 4) q4.2) (fun q5 => ?_)
        refine v_bipush 124 rfl dX7_readToken_122 bp_59 ?_
        refine v_icmp_ne 131 127 rfl rfl dX7_readToken_124 (fun _ => ?_) (fun _ => ?_)
        · refine v_iconst 132 rfl dX7_readToken_131 ic_4 ?_
          exact b7_readToken_9_b132 hd (4 : Int32) q5.2
        · refine v_iconst 128 rfl dX7_readToken_127 ic_3 ?_
          refine v_goto 132 rfl dX7_readToken_128 ?_
          exact b7_readToken_9_b132 hd (3 : Int32) q5.2
      · refine v_aload_n 0 107 rfl dX7_readToken_106 rfl rfl ?_
        refine n_callv [] [] (fun _ => []) 110 rfl (by omega) (Nat.le_of_ble_eq_true rfl) cb_X7_readDigits cv_X7_123 sc_9 cn_X7 rfl (Nat.le_of_ble_eq_true rfl) dX7_readToken_107 rfl (fun _ => rfl) (e7_readDigits_9 (by omega)  q4.2) (fun q6 => ?_)
        refine v_goto 145 rfl dX7_readToken_110 ?_
        exact v_vret rfl dX7_readToken_145
    · refine v_aload_n 0 89 rfl dX7_readToken_88 rfl rfl ?_
      refine n_callv [] [] (fun _ => []) 92 rfl (by omega) (Nat.le_of_ble_eq_true rfl) cb_X7_readLetters cv_X7_117 sc_9 cn_X7 rfl (Nat.le_of_ble_eq_true rfl) dX7_readToken_89 rfl (fun _ => rfl) (e7_readLetters_9 (by omega)  q3.2) (fun q7 => ?_)
      refine v_goto 145 rfl dX7_readToken_92 ?_
      exact v_vret rfl dX7_readToken_145
  · refine v_aload_n 0 70 rfl dX7_readToken_69 rfl rfl ?_
    refine v_iconst 71 rfl dX7_readToken_70 ic_0 ?_
    refine n_puti 74 rfl fl_X7_41 sc_9 rfl dX7_readToken_71 (fun h8 => ?_)
    refine v_goto 145 rfl dX7_readToken_74 ?_
    exact v_vret rfl dX7_readToken_145
def g7_readToken_9_b8 (k8 : jv_H → Option (Unit × jv_H)) (h : jv_H) : Option (Unit × jv_H) := if (h.1 9 1) ≤ (h.1 9 4) then g7_readToken_9_b45 h else (f7_byteAt_9 (h.1 9 4) h).bind fun q1 => if q1.1 = (32 : Int32) then jv_let (jv_p q1.2 9 4 ((q1.2.1 9 4) + (1 : Int32))) fun h2 => k8 h2 else g7_readToken_9_b45 q1.2
set_option maxRecDepth 20000 in
theorem b7_readToken_9_b8 {l : Launch} {d : Nat} {X : List jv_S} (hd : 4 ≤ d) (k8 : jv_H → Option (Unit × jv_H)) (hk8 : ∀ (h : jv_H), jv_V l RX7 cX7_readToken 1 none d (SC ++ X) jv_rv 8 [(0, .ref 9)] [] h (k8 h)) : ∀ (h : jv_H), jv_V l RX7 cX7_readToken 1 none d (SC ++ X) jv_rv 8 [(0, .ref 9)] [] h (g7_readToken_9_b8 k8 h) := by
  intro  h
  unfold g7_readToken_9_b8
  refine v_aload_n 0 9 rfl dX7_readToken_8 rfl rfl ?_
  refine v_geti 12 rfl fl_X7_48 sc_9 rfl dX7_readToken_9 ?_
  refine v_aload_n 0 13 rfl dX7_readToken_12 rfl rfl ?_
  refine v_geti 16 rfl fl_X7_25 sc_9 rfl dX7_readToken_13 ?_
  refine v_icmp_ge 45 19 rfl rfl dX7_readToken_16 (fun _ => ?_) (fun _ => ?_)
  · exact b7_readToken_9_b45 hd h
  · refine v_aload_n 0 20 rfl dX7_readToken_19 rfl rfl ?_
    refine v_aload_n 0 21 rfl dX7_readToken_20 rfl rfl ?_
    refine v_geti 24 rfl fl_X7_48 sc_9 rfl dX7_readToken_21 ?_
    refine n_callv [.int (h.1 9 4)] [] (fun r => .int r :: []) 27 rfl (by omega) (Nat.le_of_ble_eq_true rfl) cb_X7_byteAt cv_X7_110 sc_9 cn_X7 rfl (Nat.le_of_ble_eq_true rfl) dX7_readToken_24 rfl (fun _ => rfl) (e7_byteAt_9 (by omega) (h.1 9 4) h) (fun q1 => ?_)
    refine v_bipush 29 rfl dX7_readToken_27 bp_32 ?_
    refine v_icmp_ne 45 32 rfl rfl dX7_readToken_29 (fun _ => ?_) (fun _ => ?_)
    · exact b7_readToken_9_b45 hd q1.2
    · refine v_aload_n 0 33 rfl dX7_readToken_32 rfl rfl ?_
      refine v_dupr 34 rfl dX7_readToken_33 ?_
      refine v_geti 37 rfl fl_X7_48 sc_9 rfl dX7_readToken_34 ?_
      refine v_iconst 38 rfl dX7_readToken_37 ic_1 ?_
      refine v_iadd 39 rfl dX7_readToken_38 ?_
      refine n_puti 42 rfl fl_X7_48 sc_9 rfl dX7_readToken_39 (fun h2 => ?_)
      refine v_goto 8 rfl dX7_readToken_42 ?_
      exact hk8 h2
def f7_readToken_9_l8 : Nat → jv_H → Option (Unit × jv_H)
  | 0 => fun _ => none
  | n + 1 => fun h => g7_readToken_9_b8 (f7_readToken_9_l8 n) h
theorem w7_readToken_9_l8 {l : Launch} {d : Nat} {X : List jv_S} (hd : 4 ≤ d) : ∀ (n : Nat) (h : jv_H), jv_V l RX7 cX7_readToken 1 none d (SC ++ X) jv_rv 8 [(0, .ref 9)] [] h (f7_readToken_9_l8 n h) := by
  intro n
  induction n with
  | zero => intro  h; exact v_none
  | succ n ih => intro h; exact b7_readToken_9_b8 hd (f7_readToken_9_l8 n) ih h
def f7_readToken_9 (h : jv_H) : Option (Unit × jv_H) := jv_let (jv_p h 9 4 (h.1 9 5)) fun h1 => f7_readToken_9_l8 jv_fuel h1
set_option maxRecDepth 20000 in
theorem e7_readToken_9 {l : Launch} {d : Nat} {X : List jv_S} (hd : 4 ≤ d) (h : jv_H) : jv_E l yX7_readToken cX7_readToken 1 none d (SC ++ X) jv_rv [.ref 9] h (f7_readToken_9  h) := by
  refine e_of [(0, .ref 9)] rfl pn_X7 (fun _ => Nat.le_of_ble_eq_true rfl) (fun _ => rfl) ?_
  unfold f7_readToken_9
  refine v_aload_n 0 1 rfl dX7_readToken_0 rfl rfl ?_
  refine v_aload_n 0 2 rfl dX7_readToken_1 rfl rfl ?_
  refine v_geti 5 rfl fl_X7_32 sc_9 rfl dX7_readToken_2 ?_
  refine n_puti 8 rfl fl_X7_48 sc_9 rfl dX7_readToken_5 (fun h1 => ?_)
  exact w7_readToken_9_l8 hd jv_fuel h1
-- TemperNurses$TextReader.numbersOfItem()I at 9
def f7_numbersOfItem_9 (h : jv_H) : Option (Int32 × jv_H) := if (h.1 9 7) = (120 : Int32) then some ((2 : Int32), h) else some ((3 : Int32), h)
set_option maxRecDepth 20000 in
theorem e7_numbersOfItem_9 {l : Launch} {d : Nat} {X : List jv_S} (hd : 0 ≤ d) (h : jv_H) : jv_E l yX7_numbersOfItem cX7_numbersOfItem 1 (some .int) d (SC ++ X) jv_ri [.ref 9] h (f7_numbersOfItem_9  h) := by
  refine e_of [(0, .ref 9)] rfl pn_X7 (fun _ => Nat.le_of_ble_eq_true rfl) (fun _ => rfl) ?_
  unfold f7_numbersOfItem_9
  refine v_aload_n 0 1 rfl dX7_numbersOfItem_0 rfl rfl ?_
  refine v_geti 4 rfl fl_X7_35 sc_9 rfl dX7_numbersOfItem_1 ?_
  refine v_bipush 6 rfl dX7_numbersOfItem_4 bp_120 ?_
  refine v_icmp_ne 13 9 rfl rfl dX7_numbersOfItem_6 (fun _ => ?_) (fun _ => ?_)
  · refine v_iconst 14 rfl dX7_numbersOfItem_13 ic_3 ?_
    exact v_iret rfl dX7_numbersOfItem_14
  · refine v_iconst 10 rfl dX7_numbersOfItem_9 ic_2 ?_
    refine v_goto 14 rfl dX7_numbersOfItem_10 ?_
    exact v_iret rfl dX7_numbersOfItem_14
-- TemperNurses$Hill.hasTemper(I)Z at 10
def f2_hasTemper_10 (a1 : Int32) (h : jv_H) : Option (Int32 × jv_H) := if a1 < 0 then some ((0 : Int32), h) else if (h.1 10 0) ≤ a1 then some ((0 : Int32), h) else some ((1 : Int32), h)
set_option maxRecDepth 20000 in
theorem e2_hasTemper_10 {l : Launch} {d : Nat} {X : List jv_S} (hd : 0 ≤ d) (a1 : Int32) (h : jv_H) : jv_E l yX2_hasTemper cX2_hasTemper 2 (some .boolean) d (SC ++ X) jv_ri [.ref 10, .int a1] h (f2_hasTemper_10 a1 h) := by
  refine e_of [(0, .ref 10), (1, .int a1)] rfl pn_X2 (fun _ => Nat.le_of_ble_eq_true rfl) (fun _ => rfl) ?_
  unfold f2_hasTemper_10
  refine v_iload_n 1 1 rfl dX2_hasTemper_0 rfl rfl ?_
  refine v_if_lt 16 4 rfl rfl dX2_hasTemper_1 (fun _ => ?_) (fun _ => ?_)
  · refine v_iconst 17 rfl dX2_hasTemper_16 ic_0 ?_
    exact v_zr0 dX2_hasTemper_17
  · refine v_iload_n 1 5 rfl dX2_hasTemper_4 rfl rfl ?_
    refine v_aload_n 0 6 rfl dX2_hasTemper_5 rfl rfl ?_
    refine v_geti 9 rfl fl_X2_33 sc_10 rfl dX2_hasTemper_6 ?_
    refine v_icmp_ge 16 12 rfl rfl dX2_hasTemper_9 (fun _ => ?_) (fun _ => ?_)
    · refine v_iconst 17 rfl dX2_hasTemper_16 ic_0 ?_
      exact v_zr0 dX2_hasTemper_17
    · refine v_iconst 13 rfl dX2_hasTemper_12 ic_1 ?_
      refine v_goto 17 rfl dX2_hasTemper_13 ?_
      exact v_zr1 dX2_hasTemper_17
-- TemperNurses$TextReader.canBeTold()Z at 9
def g7_canBeTold_9_b115 (h : jv_H) : Option (Int32 × jv_H) := some ((1 : Int32), h)
set_option maxRecDepth 20000 in
theorem b7_canBeTold_9_b115 {l : Launch} {d : Nat} {X : List jv_S} (hd : 1 ≤ d) : ∀ (h : jv_H), jv_V l RX7 cX7_canBeTold 2 (some .boolean) d (SC ++ X) jv_ri 115 [] [] h (g7_canBeTold_9_b115 h) := by
  intro  h
  unfold g7_canBeTold_9_b115
  refine v_iconst 116 rfl dX7_canBeTold_115 ic_1 ?_
  refine v_goto 120 rfl dX7_canBeTold_116 ?_
  exact v_zr1 dX7_canBeTold_120
def f7_canBeTold_9 (h : jv_H) : Option (Int32 × jv_H) := jv_let (h.1 9 8) fun x1 => (f8_isWithin x1 (0 : Int32) (2 : Int32) h).bind fun q2 => if q2.1 = 0 then some ((0 : Int32), q2.2) else if (q2.2.1 9 7) = 110 then if jv_ix x1 3 then if jv_ix x1 3 then (f8_isWithin (q2.2.1 9 6) (jv_sc 2 (Int32.toNatClampNeg x1)) (jv_sc 3 (Int32.toNatClampNeg x1)) q2.2).bind fun q3 => if q3.1 = 0 ∨ q3.1 = 1 then some (q3.1, q3.2) else none else none else none else if (q2.2.1 9 7) = 116 then if jv_ix x1 3 then if jv_ix x1 3 then (f8_isWithin (q2.2.1 9 6) (jv_sc 0 (Int32.toNatClampNeg x1)) (jv_sc 1 (Int32.toNatClampNeg x1)) q2.2).bind fun q5 => if q5.1 = 0 ∨ q5.1 = 1 then some (q5.1, q5.2) else none else none else none else (f2_hasTemper_10 (q2.2.1 9 6) q2.2).bind fun q7 => if q7.1 = 0 then some ((0 : Int32), q7.2) else if x1 = 0 then g7_canBeTold_9_b115 q7.2 else if jv_ix (0 : Int32) 3 then if (q7.2.1 9 6) = (q7.2.1 19 (Int32.toNatClampNeg (0 : Int32))) then some ((0 : Int32), q7.2) else g7_canBeTold_9_b115 q7.2 else none
set_option maxRecDepth 20000 in
theorem e7_canBeTold_9 {l : Launch} {d : Nat} {X : List jv_S} (hd : 1 ≤ d) (h : jv_H) : jv_E l yX7_canBeTold cX7_canBeTold 2 (some .boolean) d (SC ++ X) jv_ri [.ref 9] h (f7_canBeTold_9  h) := by
  refine e_of [(0, .ref 9)] rfl pn_X7 (fun _ => Nat.le_of_ble_eq_true rfl) (fun _ => rfl) ?_
  unfold f7_canBeTold_9
  refine v_aload_n 0 1 rfl dX7_canBeTold_0 rfl rfl ?_
  refine v_geti 4 rfl fl_X7_57 sc_9 rfl dX7_canBeTold_1 ?_
  refine n_istore_n (fun x1 => [(0, .ref 9), (1, .int x1)]) 5 rfl dX7_canBeTold_4 rfl (Nat.le_of_ble_eq_true rfl) rfl (fun _ => rfl) (fun x1 => ?_)
  refine v_iload_n 1 6 rfl dX7_canBeTold_5 rfl rfl ?_
  refine v_iconst 7 rfl dX7_canBeTold_6 ic_0 ?_
  refine v_iconst 8 rfl dX7_canBeTold_7 ic_2 ?_
  refine n_calln [.int x1, .int (0 : Int32), .int (2 : Int32)] [] (fun r => .int r :: []) 11 rfl (by omega) (Nat.le_of_ble_eq_true rfl) cb_X8_isWithin cn_X7_76 rfl (Nat.le_of_ble_eq_true rfl) dX7_canBeTold_8 rfl (fun _ => rfl) (e8_isWithin (by omega) x1 (0 : Int32) (2 : Int32) h) (fun q2 => ?_)
  refine v_if_ne 16 14 rfl rfl dX7_canBeTold_11 (fun _ => ?_) (fun _ => ?_)
  · refine v_aload_n 0 17 rfl dX7_canBeTold_16 rfl rfl ?_
    refine v_geti 20 rfl fl_X7_35 sc_9 rfl dX7_canBeTold_17 ?_
    refine v_lokc (110 : Int32) (off := 46) 66 dX7_canBeTold_20 (by decide +kernel) (by decide +kernel) rfl (fun _ => ?_) (fun c4 => ?_)
    · refine v_aload_n 0 67 rfl dX7_canBeTold_66 rfl rfl ?_
      refine v_geti 70 rfl fl_X7_67 sc_9 rfl dX7_canBeTold_67 ?_
      refine v_gets 2 73 rfl (by decide) mw_438 dX7_canBeTold_70 ?_
      refine v_iload_n 1 74 rfl dX7_canBeTold_73 rfl rfl ?_
      refine v_tald 2 75 rfl (by decide) dX7_canBeTold_74 (fun _ => ?_)
      refine v_gets 3 78 rfl (by decide) mw_440 dX7_canBeTold_75 ?_
      refine v_iload_n 1 79 rfl dX7_canBeTold_78 rfl rfl ?_
      refine v_tald 3 80 rfl (by decide) dX7_canBeTold_79 (fun _ => ?_)
      refine n_calln [.int (q2.2.1 9 6), .int (jv_sc 2 (Int32.toNatClampNeg x1)), .int (jv_sc 3 (Int32.toNatClampNeg x1))] [] (fun r => .int r :: []) 83 rfl (by omega) (Nat.le_of_ble_eq_true rfl) cb_X8_isWithin cn_X7_76 rfl (Nat.le_of_ble_eq_true rfl) dX7_canBeTold_80 rfl (fun _ => rfl) (e8_isWithin (by omega) (q2.2.1 9 6) (jv_sc 2 (Int32.toNatClampNeg x1)) (jv_sc 3 (Int32.toNatClampNeg x1)) q2.2) (fun q3 => ?_)
      exact v_zret rfl dX7_canBeTold_83
    refine v_lokc (116 : Int32) (off := 28) 48 dX7_canBeTold_20 (by decide +kernel) (by decide +kernel) rfl (fun _ => ?_) (fun c6 => ?_)
    · refine v_aload_n 0 49 rfl dX7_canBeTold_48 rfl rfl ?_
      refine v_geti 52 rfl fl_X7_67 sc_9 rfl dX7_canBeTold_49 ?_
      refine v_gets 0 55 rfl (by decide) mw_434 dX7_canBeTold_52 ?_
      refine v_iload_n 1 56 rfl dX7_canBeTold_55 rfl rfl ?_
      refine v_tald 0 57 rfl (by decide) dX7_canBeTold_56 (fun _ => ?_)
      refine v_gets 1 60 rfl (by decide) mw_436 dX7_canBeTold_57 ?_
      refine v_iload_n 1 61 rfl dX7_canBeTold_60 rfl rfl ?_
      refine v_tald 1 62 rfl (by decide) dX7_canBeTold_61 (fun _ => ?_)
      refine n_calln [.int (q2.2.1 9 6), .int (jv_sc 0 (Int32.toNatClampNeg x1)), .int (jv_sc 1 (Int32.toNatClampNeg x1))] [] (fun r => .int r :: []) 65 rfl (by omega) (Nat.le_of_ble_eq_true rfl) cb_X8_isWithin cn_X7_76 rfl (Nat.le_of_ble_eq_true rfl) dX7_canBeTold_62 rfl (fun _ => rfl) (e8_isWithin (by omega) (q2.2.1 9 6) (jv_sc 0 (Int32.toNatClampNeg x1)) (jv_sc 1 (Int32.toNatClampNeg x1)) q2.2) (fun q5 => ?_)
      exact v_zret rfl dX7_canBeTold_65
    refine v_lokd 84 dX7_canBeTold_20 (by decide +kernel) ((lv_osw c4 rfl).trans ((lv_osw c6 rfl).trans rfl)) rfl ?_
    refine v_aload_n 0 85 rfl dX7_canBeTold_84 rfl rfl ?_
    refine v_getr 88 rfl fl_X7_12 sc_9 rfl dX7_canBeTold_85 ?_
    refine v_aload_n 0 89 rfl dX7_canBeTold_88 rfl rfl ?_
    refine v_geti 92 rfl fl_X7_67 sc_9 rfl dX7_canBeTold_89 ?_
    refine n_callv [.int (q2.2.1 9 6)] [] (fun r => .int r :: []) 95 rfl (by omega) (Nat.le_of_ble_eq_true rfl) cb_X2_hasTemper cv_X7_92 sc_10 cn_X2 rfl (Nat.le_of_ble_eq_true rfl) dX7_canBeTold_92 rfl (fun _ => rfl) (e2_hasTemper_10 (by omega) (q2.2.1 9 6) q2.2) (fun q7 => ?_)
    refine v_if_eq 119 98 rfl rfl dX7_canBeTold_95 (fun _ => ?_) (fun _ => ?_)
    · refine v_iconst 120 rfl dX7_canBeTold_119 ic_0 ?_
      exact v_zr0 dX7_canBeTold_120
    · refine v_iload_n 1 99 rfl dX7_canBeTold_98 rfl rfl ?_
      refine v_if_eq 115 102 rfl rfl dX7_canBeTold_99 (fun _ => ?_) (fun _ => ?_)
      · refine v_sub [] rfl ?_
        exact b7_canBeTold_9_b115 hd q7.2
      · refine v_aload_n 0 103 rfl dX7_canBeTold_102 rfl rfl ?_
        refine v_geti 106 rfl fl_X7_67 sc_9 rfl dX7_canBeTold_103 ?_
        refine v_aload_n 0 107 rfl dX7_canBeTold_106 rfl rfl ?_
        refine v_getr 110 rfl fl_X7_22 sc_9 rfl dX7_canBeTold_107 ?_
        refine v_iconst 111 rfl dX7_canBeTold_110 ic_0 ?_
        refine v_iald 112 rfl sc_19 dX7_canBeTold_111 (fun _ => ?_)
        refine v_icmp_eq 119 115 rfl rfl dX7_canBeTold_112 (fun _ => ?_) (fun _ => ?_)
        · refine v_iconst 120 rfl dX7_canBeTold_119 ic_0 ?_
          exact v_zr0 dX7_canBeTold_120
        · refine v_sub [] rfl ?_
          exact b7_canBeTold_9_b115 hd q7.2
  · refine v_iconst 15 rfl dX7_canBeTold_14 ic_0 ?_
    exact v_zr0 dX7_canBeTold_15
-- TemperNurses$TextReader.canBeginItem()Z at 9
def f7_canBeginItem_9 (h : jv_H) : Option (Int32 × jv_H) := if (h.1 9 6) = 110 then if (4 : Int32) ≤ (h.1 10 1) then some ((0 : Int32), h) else some ((1 : Int32), h) else if (h.1 9 6) = 116 then if (6 : Int32) ≤ (h.1 10 0) then some ((0 : Int32), h) else some ((1 : Int32), h) else if (h.1 9 6) = 120 then some ((1 : Int32), h) else some ((0 : Int32), h)
set_option maxRecDepth 20000 in
theorem e7_canBeginItem_9 {l : Launch} {d : Nat} {X : List jv_S} (hd : 0 ≤ d) (h : jv_H) : jv_E l yX7_canBeginItem cX7_canBeginItem 1 (some .boolean) d (SC ++ X) jv_ri [.ref 9] h (f7_canBeginItem_9  h) := by
  refine e_of [(0, .ref 9)] rfl pn_X7 (fun _ => Nat.le_of_ble_eq_true rfl) (fun _ => rfl) ?_
  unfold f7_canBeginItem_9
  refine v_aload_n 0 1 rfl dX7_canBeginItem_0 rfl rfl ?_
  refine v_geti 4 rfl fl_X7_67 sc_9 rfl dX7_canBeginItem_1 ?_
  refine v_lokc (110 : Int32) (off := 54) 58 dX7_canBeginItem_4 (by decide +kernel) (by decide +kernel) rfl (fun _ => ?_) (fun c1 => ?_)
  · refine v_aload_n 0 59 rfl dX7_canBeginItem_58 rfl rfl ?_
    refine v_getr 62 rfl fl_X7_12 sc_9 rfl dX7_canBeginItem_59 ?_
    refine v_geti 65 rfl fl_X7_73 sc_10 rfl dX7_canBeginItem_62 ?_
    refine v_iconst 66 rfl dX7_canBeginItem_65 ic_4 ?_
    refine v_icmp_ge 73 69 rfl rfl dX7_canBeginItem_66 (fun _ => ?_) (fun _ => ?_)
    · refine v_iconst 74 rfl dX7_canBeginItem_73 ic_0 ?_
      exact v_zr0 dX7_canBeginItem_74
    · refine v_iconst 70 rfl dX7_canBeginItem_69 ic_1 ?_
      refine v_goto 74 rfl dX7_canBeginItem_70 ?_
      exact v_zr1 dX7_canBeginItem_74
  refine v_lokc (116 : Int32) (off := 36) 40 dX7_canBeginItem_4 (by decide +kernel) (by decide +kernel) rfl (fun _ => ?_) (fun c2 => ?_)
  · refine v_aload_n 0 41 rfl dX7_canBeginItem_40 rfl rfl ?_
    refine v_getr 44 rfl fl_X7_12 sc_9 rfl dX7_canBeginItem_41 ?_
    refine v_geti 47 rfl fl_X7_70 sc_10 rfl dX7_canBeginItem_44 ?_
    refine v_bipush 49 rfl dX7_canBeginItem_47 bp_6 ?_
    refine v_icmp_ge 56 52 rfl rfl dX7_canBeginItem_49 (fun _ => ?_) (fun _ => ?_)
    · refine v_iconst 57 rfl dX7_canBeginItem_56 ic_0 ?_
      exact v_zr0 dX7_canBeginItem_57
    · refine v_iconst 53 rfl dX7_canBeginItem_52 ic_1 ?_
      refine v_goto 57 rfl dX7_canBeginItem_53 ?_
      exact v_zr1 dX7_canBeginItem_57
  refine v_lokc (120 : Int32) (off := 71) 75 dX7_canBeginItem_4 (by decide +kernel) (by decide +kernel) rfl (fun _ => ?_) (fun c3 => ?_)
  · refine v_iconst 76 rfl dX7_canBeginItem_75 ic_1 ?_
    exact v_zr1 dX7_canBeginItem_76
  refine v_lokd 77 dX7_canBeginItem_4 (by decide +kernel) ((lv_osw c1 rfl).trans ((lv_osw c2 rfl).trans ((lv_osw c3 rfl).trans rfl))) rfl ?_
  refine v_iconst 78 rfl dX7_canBeginItem_77 ic_0 ?_
  exact v_zr0 dX7_canBeginItem_78
-- TemperNurses$TextReader.canStand()Z at 9
def f7_canStand_9 (h : jv_H) : Option (Int32 × jv_H) := if (h.1 9 7) = 0 then if (h.1 9 3) = (1 : Int32) then (f7_canBeginItem_9 h).bind fun q3 => if q3.1 = 0 then some ((0 : Int32), q3.2) else some ((1 : Int32), q3.2) else some ((0 : Int32), h) else (f7_numbersOfItem_9 h).bind fun q1 => if q1.1 ≤ (h.1 9 8) then if (q1.2.1 9 3) = (3 : Int32) then some ((1 : Int32), q1.2) else some ((0 : Int32), q1.2) else if (q1.2.1 9 3) = (2 : Int32) then (f7_canBeTold_9 q1.2).bind fun q2 => if q2.1 = 0 then some ((0 : Int32), q2.2) else some ((1 : Int32), q2.2) else some ((0 : Int32), q1.2)
set_option maxRecDepth 20000 in
theorem e7_canStand_9 {l : Launch} {d : Nat} {X : List jv_S} (hd : 2 ≤ d) (h : jv_H) : jv_E l yX7_canStand cX7_canStand 1 (some .boolean) d (SC ++ X) jv_ri [.ref 9] h (f7_canStand_9  h) := by
  refine e_of [(0, .ref 9)] rfl pn_X7 (fun _ => Nat.le_of_ble_eq_true rfl) (fun _ => rfl) ?_
  unfold f7_canStand_9
  refine v_aload_n 0 1 rfl dX7_canStand_0 rfl rfl ?_
  refine v_geti 4 rfl fl_X7_35 sc_9 rfl dX7_canStand_1 ?_
  refine v_if_ne 28 7 rfl rfl dX7_canStand_4 (fun _ => ?_) (fun _ => ?_)
  · refine v_aload_n 0 29 rfl dX7_canStand_28 rfl rfl ?_
    refine v_geti 32 rfl fl_X7_57 sc_9 rfl dX7_canStand_29 ?_
    refine v_aload_n 0 33 rfl dX7_canStand_32 rfl rfl ?_
    refine n_callv [] [.int (h.1 9 8)] (fun r => .int r :: [.int (h.1 9 8)]) 36 rfl (by omega) (Nat.le_of_ble_eq_true rfl) cb_X7_numbersOfItem cv_X7_60 sc_9 cn_X7 rfl (Nat.le_of_ble_eq_true rfl) dX7_canStand_33 rfl (fun _ => rfl) (e7_numbersOfItem_9 (by omega)  h) (fun q1 => ?_)
    refine v_icmp_ge 60 39 rfl rfl dX7_canStand_36 (fun _ => ?_) (fun _ => ?_)
    · refine v_aload_n 0 61 rfl dX7_canStand_60 rfl rfl ?_
      refine v_geti 64 rfl fl_X7_41 sc_9 rfl dX7_canStand_61 ?_
      refine v_iconst 65 rfl dX7_canStand_64 ic_3 ?_
      refine v_icmp_ne 72 68 rfl rfl dX7_canStand_65 (fun _ => ?_) (fun _ => ?_)
      · refine v_iconst 73 rfl dX7_canStand_72 ic_0 ?_
        exact v_zr0 dX7_canStand_73
      · refine v_iconst 69 rfl dX7_canStand_68 ic_1 ?_
        refine v_goto 73 rfl dX7_canStand_69 ?_
        exact v_zr1 dX7_canStand_73
    · refine v_aload_n 0 40 rfl dX7_canStand_39 rfl rfl ?_
      refine v_geti 43 rfl fl_X7_41 sc_9 rfl dX7_canStand_40 ?_
      refine v_iconst 44 rfl dX7_canStand_43 ic_2 ?_
      refine v_icmp_ne 58 47 rfl rfl dX7_canStand_44 (fun _ => ?_) (fun _ => ?_)
      · refine v_iconst 59 rfl dX7_canStand_58 ic_0 ?_
        exact v_zr0 dX7_canStand_59
      · refine v_aload_n 0 48 rfl dX7_canStand_47 rfl rfl ?_
        refine n_callv [] [] (fun r => .int r :: []) 51 rfl (by omega) (Nat.le_of_ble_eq_true rfl) cb_X7_canBeTold cv_X7_64 sc_9 cn_X7 rfl (Nat.le_of_ble_eq_true rfl) dX7_canStand_48 rfl (fun _ => rfl) (e7_canBeTold_9 (by omega)  q1.2) (fun q2 => ?_)
        refine v_if_eq 58 54 rfl rfl dX7_canStand_51 (fun _ => ?_) (fun _ => ?_)
        · refine v_iconst 59 rfl dX7_canStand_58 ic_0 ?_
          exact v_zr0 dX7_canStand_59
        · refine v_iconst 55 rfl dX7_canStand_54 ic_1 ?_
          refine v_goto 59 rfl dX7_canStand_55 ?_
          exact v_zr1 dX7_canStand_59
  · refine v_aload_n 0 8 rfl dX7_canStand_7 rfl rfl ?_
    refine v_geti 11 rfl fl_X7_41 sc_9 rfl dX7_canStand_8 ?_
    refine v_iconst 12 rfl dX7_canStand_11 ic_1 ?_
    refine v_icmp_ne 26 15 rfl rfl dX7_canStand_12 (fun _ => ?_) (fun _ => ?_)
    · refine v_iconst 27 rfl dX7_canStand_26 ic_0 ?_
      exact v_zr0 dX7_canStand_27
    · refine v_aload_n 0 16 rfl dX7_canStand_15 rfl rfl ?_
      refine n_callv [] [] (fun r => .int r :: []) 19 rfl (by omega) (Nat.le_of_ble_eq_true rfl) cb_X7_canBeginItem cv_X7_54 sc_9 cn_X7 rfl (Nat.le_of_ble_eq_true rfl) dX7_canStand_16 rfl (fun _ => rfl) (e7_canBeginItem_9 (by omega)  h) (fun q3 => ?_)
      refine v_if_eq 26 22 rfl rfl dX7_canStand_19 (fun _ => ?_) (fun _ => ?_)
      · refine v_iconst 27 rfl dX7_canStand_26 ic_0 ?_
        exact v_zr0 dX7_canStand_27
      · refine v_iconst 23 rfl dX7_canStand_22 ic_1 ?_
        refine v_goto 27 rfl dX7_canStand_23 ?_
        exact v_zr1 dX7_canStand_27
-- TemperNurses$Hill.addNurse(III)V at 10
def f2_addNurse_10 (a1 : Int32) (a2 : Int32) (a3 : Int32) (h : jv_H) : Option (Unit × jv_H) := if (h.1 10 1) < (4 : Int32) then if jv_ix (h.1 10 1) 4 then jv_let (jv_p h 15 (Int32.toNatClampNeg (h.1 10 1)) a1) fun h1 => if jv_ix (h1.1 10 1) 4 then jv_let (jv_p h1 16 (Int32.toNatClampNeg (h1.1 10 1)) a2) fun h2 => if jv_ix (h2.1 10 1) 4 then jv_let (jv_p h2 17 (Int32.toNatClampNeg (h2.1 10 1)) a3) fun h3 => jv_let (jv_p h3 10 1 ((h3.1 10 1) + (1 : Int32))) fun h4 => some ((), h4) else none else none else none else some ((), h)
set_option maxRecDepth 20000 in
theorem e2_addNurse_10 {l : Launch} {d : Nat} {X : List jv_S} (hd : 0 ≤ d) (a1 : Int32) (a2 : Int32) (a3 : Int32) (h : jv_H) : jv_E l yX2_addNurse cX2_addNurse 4 none d (SC ++ X) jv_rv [.ref 10, .int a1, .int a2, .int a3] h (f2_addNurse_10 a1 a2 a3 h) := by
  refine e_of [(0, .ref 10), (1, .int a1), (2, .int a2), (3, .int a3)] rfl pn_X2 (fun _ => Nat.le_of_ble_eq_true rfl) (fun _ => rfl) ?_
  unfold f2_addNurse_10
  refine v_aload_n 0 1 rfl dX2_addNurse_0 rfl rfl ?_
  refine v_geti 4 rfl fl_X2_37 sc_10 rfl dX2_addNurse_1 ?_
  refine v_iconst 5 rfl dX2_addNurse_4 ic_4 ?_
  refine v_icmp_lt 9 8 rfl rfl dX2_addNurse_5 (fun _ => ?_) (fun _ => ?_)
  · refine v_aload_n 0 10 rfl dX2_addNurse_9 rfl rfl ?_
    refine v_getr 13 rfl fl_X2_24 sc_10 rfl dX2_addNurse_10 ?_
    refine v_aload_n 0 14 rfl dX2_addNurse_13 rfl rfl ?_
    refine v_geti 17 rfl fl_X2_37 sc_10 rfl dX2_addNurse_14 ?_
    refine v_iload_n 1 18 rfl dX2_addNurse_17 rfl rfl ?_
    refine n_iast 19 rfl sc_15 dX2_addNurse_18 (fun h1 => ?_)
    refine v_aload_n 0 20 rfl dX2_addNurse_19 rfl rfl ?_
    refine v_getr 23 rfl fl_X2_27 sc_10 rfl dX2_addNurse_20 ?_
    refine v_aload_n 0 24 rfl dX2_addNurse_23 rfl rfl ?_
    refine v_geti 27 rfl fl_X2_37 sc_10 rfl dX2_addNurse_24 ?_
    refine v_iload_n 2 28 rfl dX2_addNurse_27 rfl rfl ?_
    refine n_iast 29 rfl sc_16 dX2_addNurse_28 (fun h2 => ?_)
    refine v_aload_n 0 30 rfl dX2_addNurse_29 rfl rfl ?_
    refine v_getr 33 rfl fl_X2_30 sc_10 rfl dX2_addNurse_30 ?_
    refine v_aload_n 0 34 rfl dX2_addNurse_33 rfl rfl ?_
    refine v_geti 37 rfl fl_X2_37 sc_10 rfl dX2_addNurse_34 ?_
    refine v_iload_n 3 38 rfl dX2_addNurse_37 rfl rfl ?_
    refine n_iast 39 rfl sc_17 dX2_addNurse_38 (fun h3 => ?_)
    refine v_aload_n 0 40 rfl dX2_addNurse_39 rfl rfl ?_
    refine v_dupr 41 rfl dX2_addNurse_40 ?_
    refine v_geti 44 rfl fl_X2_37 sc_10 rfl dX2_addNurse_41 ?_
    refine v_iconst 45 rfl dX2_addNurse_44 ic_1 ?_
    refine v_iadd 46 rfl dX2_addNurse_45 ?_
    refine n_puti 49 rfl fl_X2_37 sc_10 rfl dX2_addNurse_46 (fun h4 => ?_)
    exact v_vret rfl dX2_addNurse_49
  · exact v_vret rfl dX2_addNurse_8
-- TemperNurses$Hill.addTemper(III)V at 10
def f2_addTemper_10 (a1 : Int32) (a2 : Int32) (a3 : Int32) (h : jv_H) : Option (Unit × jv_H) := if (h.1 10 0) < (6 : Int32) then if jv_ix (h.1 10 0) 6 then jv_let (jv_p h 11 (Int32.toNatClampNeg (h.1 10 0)) a1) fun h1 => if jv_ix (h1.1 10 0) 6 then jv_let (jv_p h1 12 (Int32.toNatClampNeg (h1.1 10 0)) a2) fun h2 => if jv_ix (h2.1 10 0) 6 then jv_let (jv_p h2 13 (Int32.toNatClampNeg (h2.1 10 0)) a3) fun h3 => jv_let (jv_p h3 10 0 ((h3.1 10 0) + (1 : Int32))) fun h4 => some ((), h4) else none else none else none else some ((), h)
set_option maxRecDepth 20000 in
theorem e2_addTemper_10 {l : Launch} {d : Nat} {X : List jv_S} (hd : 0 ≤ d) (a1 : Int32) (a2 : Int32) (a3 : Int32) (h : jv_H) : jv_E l yX2_addTemper cX2_addTemper 4 none d (SC ++ X) jv_rv [.ref 10, .int a1, .int a2, .int a3] h (f2_addTemper_10 a1 a2 a3 h) := by
  refine e_of [(0, .ref 10), (1, .int a1), (2, .int a2), (3, .int a3)] rfl pn_X2 (fun _ => Nat.le_of_ble_eq_true rfl) (fun _ => rfl) ?_
  unfold f2_addTemper_10
  refine v_aload_n 0 1 rfl dX2_addTemper_0 rfl rfl ?_
  refine v_geti 4 rfl fl_X2_33 sc_10 rfl dX2_addTemper_1 ?_
  refine v_bipush 6 rfl dX2_addTemper_4 bp_6 ?_
  refine v_icmp_lt 10 9 rfl rfl dX2_addTemper_6 (fun _ => ?_) (fun _ => ?_)
  · refine v_aload_n 0 11 rfl dX2_addTemper_10 rfl rfl ?_
    refine v_getr 14 rfl fl_X2_9 sc_10 rfl dX2_addTemper_11 ?_
    refine v_aload_n 0 15 rfl dX2_addTemper_14 rfl rfl ?_
    refine v_geti 18 rfl fl_X2_33 sc_10 rfl dX2_addTemper_15 ?_
    refine v_iload_n 1 19 rfl dX2_addTemper_18 rfl rfl ?_
    refine n_iast 20 rfl sc_11 dX2_addTemper_19 (fun h1 => ?_)
    refine v_aload_n 0 21 rfl dX2_addTemper_20 rfl rfl ?_
    refine v_getr 24 rfl fl_X2_15 sc_10 rfl dX2_addTemper_21 ?_
    refine v_aload_n 0 25 rfl dX2_addTemper_24 rfl rfl ?_
    refine v_geti 28 rfl fl_X2_33 sc_10 rfl dX2_addTemper_25 ?_
    refine v_iload_n 2 29 rfl dX2_addTemper_28 rfl rfl ?_
    refine n_iast 30 rfl sc_12 dX2_addTemper_29 (fun h2 => ?_)
    refine v_aload_n 0 31 rfl dX2_addTemper_30 rfl rfl ?_
    refine v_getr 34 rfl fl_X2_18 sc_10 rfl dX2_addTemper_31 ?_
    refine v_aload_n 0 35 rfl dX2_addTemper_34 rfl rfl ?_
    refine v_geti 38 rfl fl_X2_33 sc_10 rfl dX2_addTemper_35 ?_
    refine v_iload_n 3 39 rfl dX2_addTemper_38 rfl rfl ?_
    refine n_iast 40 rfl sc_13 dX2_addTemper_39 (fun h3 => ?_)
    refine v_aload_n 0 41 rfl dX2_addTemper_40 rfl rfl ?_
    refine v_dupr 42 rfl dX2_addTemper_41 ?_
    refine v_geti 45 rfl fl_X2_33 sc_10 rfl dX2_addTemper_42 ?_
    refine v_iconst 46 rfl dX2_addTemper_45 ic_1 ?_
    refine v_iadd 47 rfl dX2_addTemper_46 ?_
    refine n_puti 50 rfl fl_X2_33 sc_10 rfl dX2_addTemper_47 (fun h4 => ?_)
    exact v_vret rfl dX2_addTemper_50
  · exact v_vret rfl dX2_addTemper_9
-- TemperNurses.bit(I)I
def f8_bit (a0 : Int32) (h : jv_H) : Option (Int32 × jv_H) := some (((1 : Int32) <<< (a0 &&& 31)), h)
set_option maxRecDepth 20000 in
theorem e8_bit {l : Launch} {d : Nat} {X : List jv_S} (hd : 0 ≤ d) (a0 : Int32) (h : jv_H) : jv_E l yX8_bit cX8_bit 1 (some .int) d (SC ++ X) jv_ri [.int a0] h (f8_bit a0 h) := by
  refine e_of [(0, .int a0)] rfl pn_X8 (fun _ => Nat.le_of_ble_eq_true rfl) (fun _ => rfl) ?_
  unfold f8_bit
  refine v_iconst 1 rfl dX8_bit_0 ic_1 ?_
  refine v_iload_n 0 2 rfl dX8_bit_1 rfl rfl ?_
  refine v_ishl 3 rfl dX8_bit_2 ?_
  exact v_iret rfl dX8_bit_3
-- TemperNurses$Hill.addClash(II)V at 10
def f2_addClash_10 (a1 : Int32) (a2 : Int32) (h : jv_H) : Option (Unit × jv_H) := (f2_hasTemper_10 a1 h).bind fun q1 => if q1.1 = 0 then some ((), q1.2) else (f2_hasTemper_10 a2 q1.2).bind fun q2 => if q2.1 = 0 then some ((), q2.2) else if jv_ix a1 6 then (f8_bit a2 q2.2).bind fun q3 => if jv_ix a1 6 then jv_let (jv_p q3.2 14 (Int32.toNatClampNeg a1) ((q2.2.1 14 (Int32.toNatClampNeg a1)) ||| q3.1)) fun h4 => if jv_ix a2 6 then (f8_bit a1 h4).bind fun q5 => if jv_ix a2 6 then jv_let (jv_p q5.2 14 (Int32.toNatClampNeg a2) ((h4.1 14 (Int32.toNatClampNeg a2)) ||| q5.1)) fun h6 => some ((), h6) else none else none else none else none
set_option maxRecDepth 20000 in
theorem e2_addClash_10 {l : Launch} {d : Nat} {X : List jv_S} (hd : 1 ≤ d) (a1 : Int32) (a2 : Int32) (h : jv_H) : jv_E l yX2_addClash cX2_addClash 3 none d (SC ++ X) jv_rv [.ref 10, .int a1, .int a2] h (f2_addClash_10 a1 a2 h) := by
  refine e_of [(0, .ref 10), (1, .int a1), (2, .int a2)] rfl pn_X2 (fun _ => Nat.le_of_ble_eq_true rfl) (fun _ => rfl) ?_
  unfold f2_addClash_10
  refine v_aload_n 0 1 rfl dX2_addClash_0 rfl rfl ?_
  refine v_iload_n 1 2 rfl dX2_addClash_1 rfl rfl ?_
  refine n_callv [.int a1] [] (fun r => .int r :: []) 5 rfl (by omega) (Nat.le_of_ble_eq_true rfl) cb_X2_hasTemper cv_X2_46 sc_10 cn_X2 rfl (Nat.le_of_ble_eq_true rfl) dX2_addClash_2 rfl (fun _ => rfl) (e2_hasTemper_10 (by omega) a1 h) (fun q1 => ?_)
  refine v_if_eq 16 8 rfl rfl dX2_addClash_5 (fun _ => ?_) (fun _ => ?_)
  · exact v_vret rfl dX2_addClash_16
  · refine v_aload_n 0 9 rfl dX2_addClash_8 rfl rfl ?_
    refine v_iload_n 2 10 rfl dX2_addClash_9 rfl rfl ?_
    refine n_callv [.int a2] [] (fun r => .int r :: []) 13 rfl (by omega) (Nat.le_of_ble_eq_true rfl) cb_X2_hasTemper cv_X2_46 sc_10 cn_X2 rfl (Nat.le_of_ble_eq_true rfl) dX2_addClash_10 rfl (fun _ => rfl) (e2_hasTemper_10 (by omega) a2 q1.2) (fun q2 => ?_)
    refine v_if_ne 17 16 rfl rfl dX2_addClash_13 (fun _ => ?_) (fun _ => ?_)
    · refine v_aload_n 0 18 rfl dX2_addClash_17 rfl rfl ?_
      refine v_getr 21 rfl fl_X2_21 sc_10 rfl dX2_addClash_18 ?_
      refine v_iload_n 1 22 rfl dX2_addClash_21 rfl rfl ?_
      refine v_dup2 23 rfl dX2_addClash_22 ?_
      refine v_iald 24 rfl sc_14 dX2_addClash_23 (fun _ => ?_)
      refine v_iload_n 2 25 rfl dX2_addClash_24 rfl rfl ?_
      refine n_calln [.int a2] [.int (q2.2.1 14 (Int32.toNatClampNeg a1)), .int a1, .ref 14] (fun r => .int r :: [.int (q2.2.1 14 (Int32.toNatClampNeg a1)), .int a1, .ref 14]) 28 rfl (by omega) (Nat.le_of_ble_eq_true rfl) cb_X8_bit cn_X2_50 rfl (Nat.le_of_ble_eq_true rfl) dX2_addClash_25 rfl (fun _ => rfl) (e8_bit (by omega) a2 q2.2) (fun q3 => ?_)
      refine v_ior 29 rfl dX2_addClash_28 ?_
      refine n_iast 30 rfl sc_14 dX2_addClash_29 (fun h4 => ?_)
      refine v_aload_n 0 31 rfl dX2_addClash_30 rfl rfl ?_
      refine v_getr 34 rfl fl_X2_21 sc_10 rfl dX2_addClash_31 ?_
      refine v_iload_n 2 35 rfl dX2_addClash_34 rfl rfl ?_
      refine v_dup2 36 rfl dX2_addClash_35 ?_
      refine v_iald 37 rfl sc_14 dX2_addClash_36 (fun _ => ?_)
      refine v_iload_n 1 38 rfl dX2_addClash_37 rfl rfl ?_
      refine n_calln [.int a1] [.int (h4.1 14 (Int32.toNatClampNeg a2)), .int a2, .ref 14] (fun r => .int r :: [.int (h4.1 14 (Int32.toNatClampNeg a2)), .int a2, .ref 14]) 41 rfl (by omega) (Nat.le_of_ble_eq_true rfl) cb_X8_bit cn_X2_50 rfl (Nat.le_of_ble_eq_true rfl) dX2_addClash_38 rfl (fun _ => rfl) (e8_bit (by omega) a1 h4) (fun q5 => ?_)
      refine v_ior 42 rfl dX2_addClash_41 ?_
      refine n_iast 43 rfl sc_14 dX2_addClash_42 (fun h6 => ?_)
      exact v_vret rfl dX2_addClash_43
    · exact v_vret rfl dX2_addClash_16
-- TemperNurses$TextReader.takeItem()V at 9
def f7_takeItem_9 (h : jv_H) : Option (Unit × jv_H) := if (h.1 9 7) = 110 then if jv_ix (0 : Int32) 3 then if jv_ix (1 : Int32) 3 then if jv_ix (2 : Int32) 3 then (f2_addNurse_10 (h.1 19 (Int32.toNatClampNeg (0 : Int32))) (h.1 19 (Int32.toNatClampNeg (1 : Int32))) (h.1 19 (Int32.toNatClampNeg (2 : Int32))) h).bind fun q1 => some ((), q1.2) else none else none else none else if (h.1 9 7) = 116 then if jv_ix (0 : Int32) 3 then if jv_ix (1 : Int32) 3 then if jv_ix (2 : Int32) 3 then (f2_addTemper_10 (h.1 19 (Int32.toNatClampNeg (0 : Int32))) (h.1 19 (Int32.toNatClampNeg (1 : Int32))) (h.1 19 (Int32.toNatClampNeg (2 : Int32))) h).bind fun q3 => some ((), q3.2) else none else none else none else if jv_ix (0 : Int32) 3 then if jv_ix (1 : Int32) 3 then (f2_addClash_10 (h.1 19 (Int32.toNatClampNeg (0 : Int32))) (h.1 19 (Int32.toNatClampNeg (1 : Int32))) h).bind fun q5 => some ((), q5.2) else none else none
set_option maxRecDepth 20000 in
theorem e7_takeItem_9 {l : Launch} {d : Nat} {X : List jv_S} (hd : 2 ≤ d) (h : jv_H) : jv_E l yX7_takeItem cX7_takeItem 1 none d (SC ++ X) jv_rv [.ref 9] h (f7_takeItem_9  h) := by
  refine e_of [(0, .ref 9)] rfl pn_X7 (fun _ => Nat.le_of_ble_eq_true rfl) (fun _ => rfl) ?_
  unfold f7_takeItem_9
  refine v_aload_n 0 1 rfl dX7_takeItem_0 rfl rfl ?_
  refine v_geti 4 rfl fl_X7_35 sc_9 rfl dX7_takeItem_1 ?_
  refine v_lokc (110 : Int32) (off := 56) 60 dX7_takeItem_4 (by decide +kernel) (by decide +kernel) rfl (fun _ => ?_) (fun c2 => ?_)
  · refine v_aload_n 0 61 rfl dX7_takeItem_60 rfl rfl ?_
    refine v_getr 64 rfl fl_X7_12 sc_9 rfl dX7_takeItem_61 ?_
    refine v_aload_n 0 65 rfl dX7_takeItem_64 rfl rfl ?_
    refine v_getr 68 rfl fl_X7_22 sc_9 rfl dX7_takeItem_65 ?_
    refine v_iconst 69 rfl dX7_takeItem_68 ic_0 ?_
    refine v_iald 70 rfl sc_19 dX7_takeItem_69 (fun _ => ?_)
    refine v_aload_n 0 71 rfl dX7_takeItem_70 rfl rfl ?_
    refine v_getr 74 rfl fl_X7_22 sc_9 rfl dX7_takeItem_71 ?_
    refine v_iconst 75 rfl dX7_takeItem_74 ic_1 ?_
    refine v_iald 76 rfl sc_19 dX7_takeItem_75 (fun _ => ?_)
    refine v_aload_n 0 77 rfl dX7_takeItem_76 rfl rfl ?_
    refine v_getr 80 rfl fl_X7_22 sc_9 rfl dX7_takeItem_77 ?_
    refine v_iconst 81 rfl dX7_takeItem_80 ic_2 ?_
    refine v_iald 82 rfl sc_19 dX7_takeItem_81 (fun _ => ?_)
    refine n_callv [.int (h.1 19 (Int32.toNatClampNeg (0 : Int32))), .int (h.1 19 (Int32.toNatClampNeg (1 : Int32))), .int (h.1 19 (Int32.toNatClampNeg (2 : Int32)))] [] (fun _ => []) 85 rfl (by omega) (Nat.le_of_ble_eq_true rfl) cb_X2_addNurse cv_X7_103 sc_10 cn_X2 rfl (Nat.le_of_ble_eq_true rfl) dX7_takeItem_82 rfl (fun _ => rfl) (e2_addNurse_10 (by omega) (h.1 19 (Int32.toNatClampNeg (0 : Int32))) (h.1 19 (Int32.toNatClampNeg (1 : Int32))) (h.1 19 (Int32.toNatClampNeg (2 : Int32))) h) (fun q1 => ?_)
    refine v_goto 107 rfl dX7_takeItem_85 ?_
    exact v_vret rfl dX7_takeItem_107
  refine v_lokc (116 : Int32) (off := 28) 32 dX7_takeItem_4 (by decide +kernel) (by decide +kernel) rfl (fun _ => ?_) (fun c4 => ?_)
  · refine v_aload_n 0 33 rfl dX7_takeItem_32 rfl rfl ?_
    refine v_getr 36 rfl fl_X7_12 sc_9 rfl dX7_takeItem_33 ?_
    refine v_aload_n 0 37 rfl dX7_takeItem_36 rfl rfl ?_
    refine v_getr 40 rfl fl_X7_22 sc_9 rfl dX7_takeItem_37 ?_
    refine v_iconst 41 rfl dX7_takeItem_40 ic_0 ?_
    refine v_iald 42 rfl sc_19 dX7_takeItem_41 (fun _ => ?_)
    refine v_aload_n 0 43 rfl dX7_takeItem_42 rfl rfl ?_
    refine v_getr 46 rfl fl_X7_22 sc_9 rfl dX7_takeItem_43 ?_
    refine v_iconst 47 rfl dX7_takeItem_46 ic_1 ?_
    refine v_iald 48 rfl sc_19 dX7_takeItem_47 (fun _ => ?_)
    refine v_aload_n 0 49 rfl dX7_takeItem_48 rfl rfl ?_
    refine v_getr 52 rfl fl_X7_22 sc_9 rfl dX7_takeItem_49 ?_
    refine v_iconst 53 rfl dX7_takeItem_52 ic_2 ?_
    refine v_iald 54 rfl sc_19 dX7_takeItem_53 (fun _ => ?_)
    refine n_callv [.int (h.1 19 (Int32.toNatClampNeg (0 : Int32))), .int (h.1 19 (Int32.toNatClampNeg (1 : Int32))), .int (h.1 19 (Int32.toNatClampNeg (2 : Int32)))] [] (fun _ => []) 57 rfl (by omega) (Nat.le_of_ble_eq_true rfl) cb_X2_addTemper cv_X7_99 sc_10 cn_X2 rfl (Nat.le_of_ble_eq_true rfl) dX7_takeItem_54 rfl (fun _ => rfl) (e2_addTemper_10 (by omega) (h.1 19 (Int32.toNatClampNeg (0 : Int32))) (h.1 19 (Int32.toNatClampNeg (1 : Int32))) (h.1 19 (Int32.toNatClampNeg (2 : Int32))) h) (fun q3 => ?_)
    refine v_goto 107 rfl dX7_takeItem_57 ?_
    exact v_vret rfl dX7_takeItem_107
  refine v_lokd 88 dX7_takeItem_4 (by decide +kernel) ((lv_osw c2 rfl).trans ((lv_osw c4 rfl).trans rfl)) rfl ?_
  refine v_aload_n 0 89 rfl dX7_takeItem_88 rfl rfl ?_
  refine v_getr 92 rfl fl_X7_12 sc_9 rfl dX7_takeItem_89 ?_
  refine v_aload_n 0 93 rfl dX7_takeItem_92 rfl rfl ?_
  refine v_getr 96 rfl fl_X7_22 sc_9 rfl dX7_takeItem_93 ?_
  refine v_iconst 97 rfl dX7_takeItem_96 ic_0 ?_
  refine v_iald 98 rfl sc_19 dX7_takeItem_97 (fun _ => ?_)
  refine v_aload_n 0 99 rfl dX7_takeItem_98 rfl rfl ?_
  refine v_getr 102 rfl fl_X7_22 sc_9 rfl dX7_takeItem_99 ?_
  refine v_iconst 103 rfl dX7_takeItem_102 ic_1 ?_
  refine v_iald 104 rfl sc_19 dX7_takeItem_103 (fun _ => ?_)
  refine n_callv [.int (h.1 19 (Int32.toNatClampNeg (0 : Int32))), .int (h.1 19 (Int32.toNatClampNeg (1 : Int32)))] [] (fun _ => []) 107 rfl (by omega) (Nat.le_of_ble_eq_true rfl) cb_X2_addClash cv_X7_106 sc_10 cn_X2 rfl (Nat.le_of_ble_eq_true rfl) dX7_takeItem_104 rfl (fun _ => rfl) (e2_addClash_10 (by omega) (h.1 19 (Int32.toNatClampNeg (0 : Int32))) (h.1 19 (Int32.toNatClampNeg (1 : Int32))) h) (fun q5 => ?_)
  exact v_vret rfl dX7_takeItem_107
