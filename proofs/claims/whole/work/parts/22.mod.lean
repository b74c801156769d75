-- TemperNursesModel.takesItem()Z at 40
def f9_takesItem_40 (h : jv_H) : Option (Int32 × jv_H) := (f9_isLetter_40 (116 : Int32) h).bind fun q1 => if q1.1 = 0 then (f9_isLetter_40 (110 : Int32) q1.2).bind fun q2 => if q2.1 = 0 then (f9_isLetter_40 (120 : Int32) q2.2).bind fun q3 => if q3.1 = 0 then some ((0 : Int32), q3.2) else (f9_takesClash_40 q3.2).bind fun q4 => if q4.1 = 0 then some ((0 : Int32), q4.2) else some ((1 : Int32), q4.2) else (f9_takesNurse_40 q2.2).bind fun q5 => if q5.1 = 0 ∨ q5.1 = 1 then some (q5.1, q5.2) else none else (f9_takesTemper_40 q1.2).bind fun q6 => if q6.1 = 0 ∨ q6.1 = 1 then some (q6.1, q6.2) else none
set_option maxRecDepth 20000 in
theorem e9_takesItem_40 {l : Launch} {d : Nat} (hd : 4 ≤ d) (h : jv_H) : jv_E l yX9_takesItem cX9_takesItem 1 (some .boolean) d (SC ++ SM) jv_ri [.ref 40] h (f9_takesItem_40  h) := by
  refine e_of [(0, .ref 40)] rfl pn_X9 (fun _ => Nat.le_of_ble_eq_true rfl) (fun _ => rfl) ?_
  unfold f9_takesItem_40
  refine v_aload_n 0 1 rfl dX9_takesItem_0 rfl rfl ?_
  refine v_bipush 3 rfl dX9_takesItem_1 bp_116 ?_
  refine n_callv [.int (116 : Int32)] [] (fun r => .int r :: []) 6 rfl (by omega) (Nat.le_of_ble_eq_true rfl) cb_X9_isLetter cv_X9_116 sc_40 cn_X9 rfl (Nat.le_of_ble_eq_true rfl) dX9_takesItem_3 rfl (fun _ => rfl) (e9_isLetter_40 (by omega) (116 : Int32) h) (fun q1 => ?_)
  refine v_if_eq 16 9 rfl rfl dX9_takesItem_6 (fun _ => ?_) (fun _ => ?_)
  · refine v_aload_n 0 17 rfl dX9_takesItem_16 rfl rfl ?_
    refine v_bipush 19 rfl dX9_takesItem_17 bp_110 ?_
    refine n_callv [.int (110 : Int32)] [] (fun r => .int r :: []) 22 rfl (by omega) (Nat.le_of_ble_eq_true rfl) cb_X9_isLetter cv_X9_116 sc_40 cn_X9 rfl (Nat.le_of_ble_eq_true rfl) dX9_takesItem_19 rfl (fun _ => rfl) (e9_isLetter_40 (by omega) (110 : Int32) q1.2) (fun q2 => ?_)
    refine v_if_eq 32 25 rfl rfl dX9_takesItem_22 (fun _ => ?_) (fun _ => ?_)
    · refine v_aload_n 0 33 rfl dX9_takesItem_32 rfl rfl ?_
      refine v_bipush 35 rfl dX9_takesItem_33 bp_120 ?_
      refine n_callv [.int (120 : Int32)] [] (fun r => .int r :: []) 38 rfl (by omega) (Nat.le_of_ble_eq_true rfl) cb_X9_isLetter cv_X9_116 sc_40 cn_X9 rfl (Nat.le_of_ble_eq_true rfl) dX9_takesItem_35 rfl (fun _ => rfl) (e9_isLetter_40 (by omega) (120 : Int32) q2.2) (fun q3 => ?_)
      refine v_if_eq 52 41 rfl rfl dX9_takesItem_38 (fun _ => ?_) (fun _ => ?_)
      · refine v_iconst 53 rfl dX9_takesItem_52 ic_0 ?_
        exact v_zr0 dX9_takesItem_53
      · refine v_aload_n 0 42 rfl dX9_takesItem_41 rfl rfl ?_
        refine n_callv [] [] (fun r => .int r :: []) 45 rfl (by omega) (Nat.le_of_ble_eq_true rfl) cb_X9_takesClash cv_X9_127 sc_40 cn_X9 rfl (Nat.le_of_ble_eq_true rfl) dX9_takesItem_42 rfl (fun _ => rfl) (e9_takesClash_40 (by omega)  q3.2) (fun q4 => ?_)
        refine v_if_eq 52 48 rfl rfl dX9_takesItem_45 (fun _ => ?_) (fun _ => ?_)
        · refine v_iconst 53 rfl dX9_takesItem_52 ic_0 ?_
          exact v_zr0 dX9_takesItem_53
        · refine v_iconst 49 rfl dX9_takesItem_48 ic_1 ?_
          refine v_goto 53 rfl dX9_takesItem_49 ?_
          exact v_zr1 dX9_takesItem_53
    · refine v_aload_n 0 26 rfl dX9_takesItem_25 rfl rfl ?_
      refine n_callv [] [] (fun r => .int r :: []) 29 rfl (by omega) (Nat.le_of_ble_eq_true rfl) cb_X9_takesNurse cv_X9_124 sc_40 cn_X9 rfl (Nat.le_of_ble_eq_true rfl) dX9_takesItem_26 rfl (fun _ => rfl) (e9_takesNurse_40 (by omega)  q2.2) (fun q5 => ?_)
      refine v_goto 53 rfl dX9_takesItem_29 ?_
      exact v_zret rfl dX9_takesItem_53
  · refine v_aload_n 0 10 rfl dX9_takesItem_9 rfl rfl ?_
    refine n_callv [] [] (fun r => .int r :: []) 13 rfl (by omega) (Nat.le_of_ble_eq_true rfl) cb_X9_takesTemper cv_X9_120 sc_40 cn_X9 rfl (Nat.le_of_ble_eq_true rfl) dX9_takesItem_10 rfl (fun _ => rfl) (e9_takesTemper_40 (by omega)  q1.2) (fun q6 => ?_)
    refine v_goto 53 rfl dX9_takesItem_13 ?_
    exact v_zret rfl dX9_takesItem_53
-- TemperNursesModel.hill()I at 40
def g9_hill_40_b39 (h : jv_H) : Option (Int32 × jv_H) := some (((-10 : Int32) - (h.1 40 18)), h)
set_option maxRecDepth 20000 in
theorem b9_hill_40_b39 {l : Launch} {d : Nat} (hd : 5 ≤ d) : ∀ (h : jv_H), jv_V l RX9 cX9_hill 2 (some .int) d (SC ++ SM) jv_ri 39 [(0, .ref 40)] [] h (g9_hill_40_b39 h) := by
  intro  h
  unfold g9_hill_40_b39
  refine v_bipush 41 rfl dX9_hill_39 bp_m10 ?_
  refine v_aload_n 0 42 rfl dX9_hill_41 rfl rfl ?_
  refine v_geti 45 rfl fl_X9_87 sc_40 rfl dX9_hill_42 ?_
  refine v_isub 46 rfl dX9_hill_45 ?_
  exact v_iret rfl dX9_hill_46
def g9_hill_40_b17 (k17 : Int32 → jv_H → Option (Int32 × jv_H)) (a1 : Int32) (h : jv_H) : Option (Int32 × jv_H) := if (h.1 40 17) = 0 then (f9_takeAll_40 h).bind fun q1 => some (a1, q1.2) else (f9_takesItem_40 h).bind fun q2 => if q2.1 = 0 then g9_hill_40_b39 q2.2 else if (q2.2.1 40 17) = (3 : Int32) then (f9_lookAt_40 (q2.2.1 40 19) q2.2).bind fun q3 => jv_let (a1 + (1 : Int32)) fun x4 => k17 x4 q3.2 else g9_hill_40_b39 q2.2
set_option maxRecDepth 20000 in
theorem b9_hill_40_b17 {l : Launch} {d : Nat} (hd : 5 ≤ d) (k17 : Int32 → jv_H → Option (Int32 × jv_H)) (hk17 : ∀ (a1 : Int32) (h : jv_H), jv_V l RX9 cX9_hill 2 (some .int) d (SC ++ SM) jv_ri 17 [(0, .ref 40), (1, .int a1)] [] h (k17 a1 h)) : ∀ (a1 : Int32) (h : jv_H), jv_V l RX9 cX9_hill 2 (some .int) d (SC ++ SM) jv_ri 17 [(0, .ref 40), (1, .int a1)] [] h (g9_hill_40_b17 k17 a1 h) := by
  intro a1 h
  unfold g9_hill_40_b17
  refine v_aload_n 0 18 rfl dX9_hill_17 rfl rfl ?_
  refine v_geti 21 rfl fl_X9_97 sc_40 rfl dX9_hill_18 ?_
  refine v_if_eq 61 24 rfl rfl dX9_hill_21 (fun _ => ?_) (fun _ => ?_)
  · refine v_aload_n 0 62 rfl dX9_hill_61 rfl rfl ?_
    refine n_callv [] [] (fun _ => []) 65 rfl (by omega) (Nat.le_of_ble_eq_true rfl) cb_X9_takeAll cv_X9_136 sc_40 cn_X9 rfl (Nat.le_of_ble_eq_true rfl) dX9_hill_62 rfl (fun _ => rfl) (e9_takeAll_40 (by omega)  h) (fun q1 => ?_)
    refine v_iload_n 1 66 rfl dX9_hill_65 rfl rfl ?_
    exact v_iret rfl dX9_hill_66
  · refine v_aload_n 0 25 rfl dX9_hill_24 rfl rfl ?_
    refine n_callv [] [] (fun r => .int r :: []) 28 rfl (by omega) (Nat.le_of_ble_eq_true rfl) cb_X9_takesItem cv_X9_133 sc_40 cn_X9 rfl (Nat.le_of_ble_eq_true rfl) dX9_hill_25 rfl (fun _ => rfl) (e9_takesItem_40 (by omega)  h) (fun q2 => ?_)
    refine v_if_eq 39 31 rfl rfl dX9_hill_28 (fun _ => ?_) (fun _ => ?_)
    · refine v_sub [0] rfl ?_
      exact b9_hill_40_b39 hd q2.2
    · refine v_aload_n 0 32 rfl dX9_hill_31 rfl rfl ?_
      refine v_geti 35 rfl fl_X9_97 sc_40 rfl dX9_hill_32 ?_
      refine v_iconst 36 rfl dX9_hill_35 ic_3 ?_
      refine v_icmp_eq 47 39 rfl rfl dX9_hill_36 (fun _ => ?_) (fun _ => ?_)
      · refine v_aload_n 0 48 rfl dX9_hill_47 rfl rfl ?_
        refine v_aload_n 0 49 rfl dX9_hill_48 rfl rfl ?_
        refine v_geti 52 rfl fl_X9_100 sc_40 rfl dX9_hill_49 ?_
        refine n_callv [.int (q2.2.1 40 19)] [] (fun _ => []) 55 rfl (by omega) (Nat.le_of_ble_eq_true rfl) cb_X9_lookAt cv_X9_103 sc_40 cn_X9 rfl (Nat.le_of_ble_eq_true rfl) dX9_hill_52 rfl (fun _ => rfl) (e9_lookAt_40 (by omega) (q2.2.1 40 19) q2.2) (fun q3 => ?_)
        refine n_iinc (fun x4 => [(0, .ref 40), (1, .int x4)]) 1 58 rfl dX9_hill_55 rfl ic_1 (Nat.le_of_ble_eq_true rfl) rfl (fun _ => rfl) (fun x4 => ?_)
        refine v_goto 17 rfl dX9_hill_58 ?_
        exact hk17 x4 q3.2
      · refine v_sub [0] rfl ?_
        exact b9_hill_40_b39 hd q2.2
def f9_hill_40_l17 : Nat → Int32 → jv_H → Option (Int32 × jv_H)
  | 0 => fun _ _ => none
  | n + 1 => fun a1 h => g9_hill_40_b17 (f9_hill_40_l17 n) a1 h
theorem w9_hill_40_l17 {l : Launch} {d : Nat} (hd : 5 ≤ d) : ∀ (n : Nat) (a1 : Int32) (h : jv_H), jv_V l RX9 cX9_hill 2 (some .int) d (SC ++ SM) jv_ri 17 [(0, .ref 40), (1, .int a1)] [] h (f9_hill_40_l17 n a1 h) := by
  intro n
  induction n with
  | zero => intro a1 h; exact v_none
  | succ n ih => intro a1 h; exact b9_hill_40_b17 hd (f9_hill_40_l17 n) ih a1 h
def f9_hill_40 (h : jv_H) : Option (Int32 × jv_H) := jv_let (0 : Int32) fun x1 => jv_let (jv_p h 40 21 (0 : Int32)) fun h2 => jv_let (jv_p h2 40 22 (0 : Int32)) fun h3 => (f9_lookAt_40 (0 : Int32) h3).bind fun q4 => f9_hill_40_l17 jv_fuel x1 q4.2
set_option maxRecDepth 20000 in
theorem e9_hill_40 {l : Launch} {d : Nat} (hd : 5 ≤ d) (h : jv_H) : jv_E l yX9_hill cX9_hill 2 (some .int) d (SC ++ SM) jv_ri [.ref 40] h (f9_hill_40  h) := by
  refine e_of [(0, .ref 40)] rfl pn_X9 (fun _ => Nat.le_of_ble_eq_true rfl) (fun _ => rfl) ?_
  unfold f9_hill_40
  refine v_iconst 1 rfl dX9_hill_0 ic_0 ?_
  refine n_istore_n (fun x1 => [(0, .ref 40), (1, .int x1)]) 2 rfl dX9_hill_1 rfl (Nat.le_of_ble_eq_true rfl) rfl (fun _ => rfl) (fun x1 => ?_)
  refine v_aload_n 0 3 rfl dX9_hill_2 rfl rfl ?_
  refine v_iconst 4 rfl dX9_hill_3 ic_0 ?_
  refine n_puti 7 rfl fl_X9_107 sc_40 rfl dX9_hill_4 (fun h2 => ?_)
  refine v_aload_n 0 8 rfl dX9_hill_7 rfl rfl ?_
  refine v_iconst 9 rfl dX9_hill_8 ic_0 ?_
  refine n_puti 12 rfl fl_X9_113 sc_40 rfl dX9_hill_9 (fun h3 => ?_)
  refine v_aload_n 0 13 rfl dX9_hill_12 rfl rfl ?_
  refine v_iconst 14 rfl dX9_hill_13 ic_0 ?_
  refine n_callv [.int (0 : Int32)] [] (fun _ => []) 17 rfl (by omega) (Nat.le_of_ble_eq_true rfl) cb_X9_lookAt cv_X9_103 sc_40 cn_X9 rfl (Nat.le_of_ble_eq_true rfl) dX9_hill_14 rfl (fun _ => rfl) (e9_lookAt_40 (by omega) (0 : Int32) h3) (fun q4 => ?_)
  exact w9_hill_40_l17 hd jv_fuel x1 q4.2
-- TemperNursesModel.isTemper(I)Z at 40
def f9_isTemper_40 (a1 : Int32) (h : jv_H) : Option (Int32 × jv_H) := (f9_in (Int32.toInt64 a1) (0 : Int64) (Int32.toInt64 ((h.1 40 0) - (1 : Int32))) h).bind fun q1 => if q1.1 = 0 ∨ q1.1 = 1 then some (q1.1, q1.2) else none
set_option maxRecDepth 20000 in
theorem e9_isTemper_40 {l : Launch} {d : Nat} (hd : 1 ≤ d) (a1 : Int32) (h : jv_H) : jv_E l yX9_isTemper cX9_isTemper 2 (some .boolean) d (SC ++ SM) jv_ri [.ref 40, .int a1] h (f9_isTemper_40 a1 h) := by
  refine e_of [(0, .ref 40), (1, .int a1)] rfl pn_X9 (fun _ => Nat.le_of_ble_eq_true rfl) (fun _ => rfl) ?_
  unfold f9_isTemper_40
  refine v_iload_n 1 1 rfl dX9_isTemper_0 rfl rfl ?_
  refine v_i2l 2 rfl dX9_isTemper_1 ?_
  refine v_lconst (v := (0 : Int64)) 3 rfl dX9_isTemper_2 rfl ?_
  refine v_aload_n 0 4 rfl dX9_isTemper_3 rfl rfl ?_
  refine v_geti 7 rfl fl_X9_71 sc_40 rfl dX9_isTemper_4 ?_
  refine v_iconst 8 rfl dX9_isTemper_7 ic_1 ?_
  refine v_isub 9 rfl dX9_isTemper_8 ?_
  refine v_i2l 10 rfl dX9_isTemper_9 ?_
  refine n_calls [.long (Int32.toInt64 a1), .long (0 : Int64), .long (Int32.toInt64 ((h.1 40 0) - (1 : Int32)))] [] (fun r => .int r :: []) 13 rfl (by omega) (Nat.le_of_ble_eq_true rfl) cb_X9_in cs_X9_75 rfl (Nat.le_of_ble_eq_true rfl) dX9_isTemper_10 rfl (fun _ => rfl) (e9_in (by omega) (Int32.toInt64 a1) (0 : Int64) (Int32.toInt64 ((h.1 40 0) - (1 : Int32))) h) (fun q1 => ?_)
  exact v_zret rfl dX9_isTemper_13
-- TemperNursesModel.heat(I)I at 40
def f9_heat_40 (a1 : Int32) (h : jv_H) : Option (Int32 × jv_H) := if jv_ix ((1 : Int32) + a1) 210 then some ((h.1 47 (Int32.toNatClampNeg ((1 : Int32) + a1))), h) else none
set_option maxRecDepth 20000 in
theorem e9_heat_40 {l : Launch} {d : Nat} (hd : 0 ≤ d) (a1 : Int32) (h : jv_H) : jv_E l yX9_heat cX9_heat 2 (some .int) d (SC ++ SM) jv_ri [.ref 40, .int a1] h (f9_heat_40 a1 h) := by
  refine e_of [(0, .ref 40), (1, .int a1)] rfl pn_X9 (fun _ => Nat.le_of_ble_eq_true rfl) (fun _ => rfl) ?_
  unfold f9_heat_40
  refine v_aload_n 0 1 rfl dX9_heat_0 rfl rfl ?_
  refine v_getr 4 rfl fl_X9_28 sc_40 rfl dX9_heat_1 ?_
  refine v_iconst 5 rfl dX9_heat_4 ic_1 ?_
  refine v_iload_n 1 6 rfl dX9_heat_5 rfl rfl ?_
  refine v_iadd 7 rfl dX9_heat_6 ?_
  refine v_iald 8 rfl sc_47 dX9_heat_7 (fun _ => ?_)
  exact v_iret rfl dX9_heat_8
-- TemperNursesModel.ring(I)I at 40
def g9_ring_40_b12 (k12 : Int32 → Int32 → Int32 → jv_H → Option (Int32 × jv_H)) (a1 : Int32) (a2 : Int32) (a3 : Int32) (h : jv_H) : Option (Int32 × jv_H) := if a3 = a1 then some (a2, h) else if jv_ix ((13 : Int32) + a3) 210 then jv_let (h.1 47 (Int32.toNatClampNeg ((13 : Int32) + a3))) fun x1 => jv_let (a2 + (1 : Int32)) fun x2 => k12 a1 x2 x1 h else none
set_option maxRecDepth 20000 in
theorem b9_ring_40_b12 {l : Launch} {d : Nat} (hd : 0 ≤ d) (k12 : Int32 → Int32 → Int32 → jv_H → Option (Int32 × jv_H)) (hk12 : ∀ (a1 a2 a3 : Int32) (h : jv_H), jv_V l RX9 cX9_ring 4 (some .int) d (SC ++ SM) jv_ri 12 [(0, .ref 40), (1, .int a1), (2, .int a2), (3, .int a3)] [] h (k12 a1 a2 a3 h)) : ∀ (a1 : Int32) (a2 : Int32) (a3 : Int32) (h : jv_H), jv_V l RX9 cX9_ring 4 (some .int) d (SC ++ SM) jv_ri 12 [(0, .ref 40), (1, .int a1), (2, .int a2), (3, .int a3)] [] h (g9_ring_40_b12 k12 a1 a2 a3 h) := by
  intro a1 a2 a3 h
  unfold g9_ring_40_b12
  refine v_iload_n 3 13 rfl dX9_ring_12 rfl rfl ?_
  refine v_iload_n 1 14 rfl dX9_ring_13 rfl rfl ?_
  refine v_icmp_eq 33 17 rfl rfl dX9_ring_14 (fun _ => ?_) (fun _ => ?_)
  · refine v_iload_n 2 34 rfl dX9_ring_33 rfl rfl ?_
    exact v_iret rfl dX9_ring_34
  · refine v_aload_n 0 18 rfl dX9_ring_17 rfl rfl ?_
    refine v_getr 21 rfl fl_X9_28 sc_40 rfl dX9_ring_18 ?_
    refine v_bipush 23 rfl dX9_ring_21 bp_13 ?_
    refine v_iload_n 3 24 rfl dX9_ring_23 rfl rfl ?_
    refine v_iadd 25 rfl dX9_ring_24 ?_
    refine v_iald 26 rfl sc_47 dX9_ring_25 (fun _ => ?_)
    refine n_istore_n (fun x1 => [(0, .ref 40), (1, .int a1), (2, .int a2), (3, .int x1)]) 27 rfl dX9_ring_26 rfl (Nat.le_of_ble_eq_true rfl) rfl (fun _ => rfl) (fun x1 => ?_)
    refine n_iinc (fun x2 => [(0, .ref 40), (1, .int a1), (2, .int x2), (3, .int x1)]) 2 30 rfl dX9_ring_27 rfl ic_1 (Nat.le_of_ble_eq_true rfl) rfl (fun _ => rfl) (fun x2 => ?_)
    refine v_goto 12 rfl dX9_ring_30 ?_
    exact hk12 a1 x2 x1 h
def f9_ring_40_l12 : Nat → Int32 → Int32 → Int32 → jv_H → Option (Int32 × jv_H)
  | 0 => fun _ _ _ _ => none
  | n + 1 => fun a1 a2 a3 h => g9_ring_40_b12 (f9_ring_40_l12 n) a1 a2 a3 h
theorem w9_ring_40_l12 {l : Launch} {d : Nat} (hd : 0 ≤ d) : ∀ (n : Nat) (a1 : Int32) (a2 : Int32) (a3 : Int32) (h : jv_H), jv_V l RX9 cX9_ring 4 (some .int) d (SC ++ SM) jv_ri 12 [(0, .ref 40), (1, .int a1), (2, .int a2), (3, .int a3)] [] h (f9_ring_40_l12 n a1 a2 a3 h) := by
  intro n
  induction n with
  | zero => intro a1 a2 a3 h; exact v_none
  | succ n ih => intro a1 a2 a3 h; exact b9_ring_40_b12 hd (f9_ring_40_l12 n) ih a1 a2 a3 h
def f9_ring_40 (a1 : Int32) (h : jv_H) : Option (Int32 × jv_H) := jv_let (1 : Int32) fun x1 => if jv_ix ((13 : Int32) + a1) 210 then jv_let (h.1 47 (Int32.toNatClampNeg ((13 : Int32) + a1))) fun x2 => f9_ring_40_l12 jv_fuel a1 x1 x2 h else none
set_option maxRecDepth 20000 in
theorem e9_ring_40 {l : Launch} {d : Nat} (hd : 0 ≤ d) (a1 : Int32) (h : jv_H) : jv_E l yX9_ring cX9_ring 4 (some .int) d (SC ++ SM) jv_ri [.ref 40, .int a1] h (f9_ring_40 a1 h) := by
  refine e_of [(0, .ref 40), (1, .int a1)] rfl pn_X9 (fun _ => Nat.le_of_ble_eq_true rfl) (fun _ => rfl) ?_
  unfold f9_ring_40
  refine v_iconst 1 rfl dX9_ring_0 ic_1 ?_
  refine n_istore_n (fun x1 => [(0, .ref 40), (1, .int a1), (2, .int x1)]) 2 rfl dX9_ring_1 rfl (Nat.le_of_ble_eq_true rfl) rfl (fun _ => rfl) (fun x1 => ?_)
  refine v_aload_n 0 3 rfl dX9_ring_2 rfl rfl ?_
  refine v_getr 6 rfl fl_X9_28 sc_40 rfl dX9_ring_3 ?_
  refine v_bipush 8 rfl dX9_ring_6 bp_13 ?_
  refine v_iload_n 1 9 rfl dX9_ring_8 rfl rfl ?_
  refine v_iadd 10 rfl dX9_ring_9 ?_
  refine v_iald 11 rfl sc_47 dX9_ring_10 (fun _ => ?_)
  refine n_istore_n (fun x2 => [(0, .ref 40), (1, .int a1), (2, .int x1), (3, .int x2)]) 12 rfl dX9_ring_11 rfl (Nat.le_of_ble_eq_true rfl) rfl (fun _ => rfl) (fun x2 => ?_)
  exact w9_ring_40_l12 hd jv_fuel a1 x1 x2 h
-- TemperNursesModel.temper(II)I at 40
def f9_temper_40 (a1 : Int32) (a2 : Int32) (h : jv_H) : Option (Int32 × jv_H) := (f9_isTemper_40 a1 h).bind fun q1 => if q1.1 = 0 then some ((-1 : Int32), q1.2) else (f9_in (Int32.toInt64 a2) (0 : Int64) (6 : Int64) q1.2).bind fun q2 => if q2.1 = 0 then some ((-1 : Int32), q2.2) else if a2 = 0 then (f9_heat_40 a1 q2.2).bind fun q3 => some (q3.1, q3.2) else if a2 = 1 then if jv_ix a1 6 then some ((q2.2.1 41 (Int32.toNatClampNeg a1)), q2.2) else none else if a2 = 2 then if jv_ix a1 6 then some ((q2.2.1 42 (Int32.toNatClampNeg a1)), q2.2) else none else if a2 = 3 then if jv_ix ((7 : Int32) + a1) 210 then some ((q2.2.1 47 (Int32.toNatClampNeg ((7 : Int32) + a1))), q2.2) else none else if a2 = 4 then if jv_ix ((13 : Int32) + a1) 210 then some ((q2.2.1 47 (Int32.toNatClampNeg ((13 : Int32) + a1))), q2.2) else none else if a2 = 5 then if jv_ix a1 6 then some ((q2.2.1 43 (Int32.toNatClampNeg a1)), q2.2) else none else (f9_ring_40 a1 q2.2).bind fun q10 => some (q10.1, q10.2)
set_option maxRecDepth 20000 in
theorem e9_temper_40 {l : Launch} {d : Nat} (hd : 2 ≤ d) (a1 : Int32) (a2 : Int32) (h : jv_H) : jv_E l yX9_temper cX9_temper 3 (some .int) d (SC ++ SM) jv_ri [.ref 40, .int a1, .int a2] h (f9_temper_40 a1 a2 h) := by
  refine e_of [(0, .ref 40), (1, .int a1), (2, .int a2)] rfl pn_X9 (fun _ => Nat.le_of_ble_eq_true rfl) (fun _ => rfl) ?_
  unfold f9_temper_40
  refine v_aload_n 0 1 rfl dX9_temper_0 rfl rfl ?_
  refine v_iload_n 1 2 rfl dX9_temper_1 rfl rfl ?_
  refine n_callv [.int a1] [] (fun r => .int r :: []) 5 rfl (by omega) (Nat.le_of_ble_eq_true rfl) cb_X9_isTemper cv_X9_149 sc_40 cn_X9 rfl (Nat.le_of_ble_eq_true rfl) dX9_temper_2 rfl (fun _ => rfl) (e9_isTemper_40 (by omega) a1 h) (fun q1 => ?_)
  refine v_if_eq 20 8 rfl rfl dX9_temper_5 (fun _ => ?_) (fun _ => ?_)
  · refine v_iconst 21 rfl dX9_temper_20 ic_m1 ?_
    exact v_iret rfl dX9_temper_21
  · refine v_iload_n 2 9 rfl dX9_temper_8 rfl rfl ?_
    refine v_i2l 10 rfl dX9_temper_9 ?_
    refine v_lconst (v := (0 : Int64)) 11 rfl dX9_temper_10 rfl ?_
    refine v_ldc2 14 rfl mw_969 dX9_temper_11 ?_
    refine n_calls [.long (Int32.toInt64 a2), .long (0 : Int64), .long (6 : Int64)] [] (fun r => .int r :: []) 17 rfl (by omega) (Nat.le_of_ble_eq_true rfl) cb_X9_in cs_X9_75 rfl (Nat.le_of_ble_eq_true rfl) dX9_temper_14 rfl (fun _ => rfl) (e9_in (by omega) (Int32.toInt64 a2) (0 : Int64) (6 : Int64) q1.2) (fun q2 => ?_)
    refine v_if_ne 22 20 rfl rfl dX9_temper_17 (fun _ => ?_) (fun _ => ?_)
    · refine v_iload_n 2 23 rfl dX9_temper_22 rfl rfl ?_
      refine v_tabc (0 : Int32) (off := 37) 60 dX9_temper_23 (by decide +kernel) rfl (fun _ => ?_) (fun c4 => ?_)
      · refine v_aload_n 0 61 rfl dX9_temper_60 rfl rfl ?_
        refine v_iload_n 1 62 rfl dX9_temper_61 rfl rfl ?_
        refine n_callv [.int a1] [] (fun r => .int r :: []) 65 rfl (by omega) (Nat.le_of_ble_eq_true rfl) cb_X9_heat cv_X9_143 sc_40 cn_X9 rfl (Nat.le_of_ble_eq_true rfl) dX9_temper_62 rfl (fun _ => rfl) (e9_heat_40 (by omega) a1 q2.2) (fun q3 => ?_)
        exact v_iret rfl dX9_temper_65
      refine v_tabc (1 : Int32) (off := 43) 66 dX9_temper_23 (by decide +kernel) rfl (fun _ => ?_) (fun c5 => ?_)
      · refine v_aload_n 0 67 rfl dX9_temper_66 rfl rfl ?_
        refine v_getr 70 rfl fl_X9_7 sc_40 rfl dX9_temper_67 ?_
        refine v_iload_n 1 71 rfl dX9_temper_70 rfl rfl ?_
        refine v_iald 72 rfl sc_41 dX9_temper_71 (fun _ => ?_)
        exact v_iret rfl dX9_temper_72
      refine v_tabc (2 : Int32) (off := 50) 73 dX9_temper_23 (by decide +kernel) rfl (fun _ => ?_) (fun c6 => ?_)
      · refine v_aload_n 0 74 rfl dX9_temper_73 rfl rfl ?_
        refine v_getr 77 rfl fl_X9_13 sc_40 rfl dX9_temper_74 ?_
        refine v_iload_n 1 78 rfl dX9_temper_77 rfl rfl ?_
        refine v_iald 79 rfl sc_42 dX9_temper_78 (fun _ => ?_)
        exact v_iret rfl dX9_temper_79
      refine v_tabc (3 : Int32) (off := 57) 80 dX9_temper_23 (by decide +kernel) rfl (fun _ => ?_) (fun c7 => ?_)
      · refine v_aload_n 0 81 rfl dX9_temper_80 rfl rfl ?_
        refine v_getr 84 rfl fl_X9_28 sc_40 rfl dX9_temper_81 ?_
        refine v_bipush 86 rfl dX9_temper_84 bp_7 ?_
        refine v_iload_n 1 87 rfl dX9_temper_86 rfl rfl ?_
        refine v_iadd 88 rfl dX9_temper_87 ?_
        refine v_iald 89 rfl sc_47 dX9_temper_88 (fun _ => ?_)
        exact v_iret rfl dX9_temper_89
      refine v_tabc (4 : Int32) (off := 67) 90 dX9_temper_23 (by decide +kernel) rfl (fun _ => ?_) (fun c8 => ?_)
      · refine v_aload_n 0 91 rfl dX9_temper_90 rfl rfl ?_
        refine v_getr 94 rfl fl_X9_28 sc_40 rfl dX9_temper_91 ?_
        refine v_bipush 96 rfl dX9_temper_94 bp_13 ?_
        refine v_iload_n 1 97 rfl dX9_temper_96 rfl rfl ?_
        refine v_iadd 98 rfl dX9_temper_97 ?_
        refine v_iald 99 rfl sc_47 dX9_temper_98 (fun _ => ?_)
        exact v_iret rfl dX9_temper_99
      refine v_tabc (5 : Int32) (off := 77) 100 dX9_temper_23 (by decide +kernel) rfl (fun _ => ?_) (fun c9 => ?_)
      · refine v_aload_n 0 101 rfl dX9_temper_100 rfl rfl ?_
        refine v_getr 104 rfl fl_X9_16 sc_40 rfl dX9_temper_101 ?_
        refine v_iload_n 1 105 rfl dX9_temper_104 rfl rfl ?_
        refine v_iald 106 rfl sc_43 dX9_temper_105 (fun _ => ?_)
        exact v_iret rfl dX9_temper_106
      refine v_tabd 107 dX9_temper_23 (by have := lv_neT (a := 0) c4 rfl; have := lv_neT (a := 1) c5 rfl; have := lv_neT (a := 2) c6 rfl; have := lv_neT (a := 3) c7 rfl; have := lv_neT (a := 4) c8 rfl; have := lv_neT (a := 5) c9 rfl; omega) rfl ?_
      refine v_aload_n 0 108 rfl dX9_temper_107 rfl rfl ?_
      refine v_iload_n 1 109 rfl dX9_temper_108 rfl rfl ?_
      refine n_callv [.int a1] [] (fun r => .int r :: []) 112 rfl (by omega) (Nat.le_of_ble_eq_true rfl) cb_X9_ring cv_X9_154 sc_40 cn_X9 rfl (Nat.le_of_ble_eq_true rfl) dX9_temper_109 rfl (fun _ => rfl) (e9_ring_40 (by omega) a1 q2.2) (fun q10 => ?_)
      exact v_iret rfl dX9_temper_112
    · refine v_iconst 21 rfl dX9_temper_20 ic_m1 ?_
      exact v_iret rfl dX9_temper_21
-- TemperNursesModel.isNurse(I)Z at 40
def f9_isNurse_40 (a1 : Int32) (h : jv_H) : Option (Int32 × jv_H) := (f9_in (Int32.toInt64 a1) (0 : Int64) (Int32.toInt64 ((h.1 40 1) - (1 : Int32))) h).bind fun q1 => if q1.1 = 0 ∨ q1.1 = 1 then some (q1.1, q1.2) else none
set_option maxRecDepth 20000 in
theorem e9_isNurse_40 {l : Launch} {d : Nat} (hd : 1 ≤ d) (a1 : Int32) (h : jv_H) : jv_E l yX9_isNurse cX9_isNurse 2 (some .boolean) d (SC ++ SM) jv_ri [.ref 40, .int a1] h (f9_isNurse_40 a1 h) := by
  refine e_of [(0, .ref 40), (1, .int a1)] rfl pn_X9 (fun _ => Nat.le_of_ble_eq_true rfl) (fun _ => rfl) ?_
  unfold f9_isNurse_40
  refine v_iload_n 1 1 rfl dX9_isNurse_0 rfl rfl ?_
  refine v_i2l 2 rfl dX9_isNurse_1 ?_
  refine v_lconst (v := (0 : Int64)) 3 rfl dX9_isNurse_2 rfl ?_
  refine v_aload_n 0 4 rfl dX9_isNurse_3 rfl rfl ?_
  refine v_geti 7 rfl fl_X9_79 sc_40 rfl dX9_isNurse_4 ?_
  refine v_iconst 8 rfl dX9_isNurse_7 ic_1 ?_
  refine v_isub 9 rfl dX9_isNurse_8 ?_
  refine v_i2l 10 rfl dX9_isNurse_9 ?_
  refine n_calls [.long (Int32.toInt64 a1), .long (0 : Int64), .long (Int32.toInt64 ((h.1 40 1) - (1 : Int32)))] [] (fun r => .int r :: []) 13 rfl (by omega) (Nat.le_of_ble_eq_true rfl) cb_X9_in cs_X9_75 rfl (Nat.le_of_ble_eq_true rfl) dX9_isNurse_10 rfl (fun _ => rfl) (e9_in (by omega) (Int32.toInt64 a1) (0 : Int64) (Int32.toInt64 ((h.1 40 1) - (1 : Int32))) h) (fun q1 => ?_)
  exact v_zret rfl dX9_isNurse_13
-- TemperNursesModel.whom(I)I at 40
def g9_whom_40_b33 (k4 : Int32 → Int32 → Int32 → jv_H → Option (Int32 × jv_H)) (a1 : Int32) (a3 : Int32) (s0 : Int32) (s1 : Int32) (h : jv_H) : Option (Int32 × jv_H) := jv_let (s0 ||| s1) fun x1 => jv_let (a3 + (1 : Int32)) fun x2 => k4 a1 x1 x2 h
set_option maxRecDepth 20000 in
theorem b9_whom_40_b33 {l : Launch} {d : Nat} (hd : 0 ≤ d) (k4 : Int32 → Int32 → Int32 → jv_H → Option (Int32 × jv_H)) (hk4 : ∀ (a1 a2 a3 : Int32) (h : jv_H), jv_V l RX9 cX9_whom 4 (some .int) d (SC ++ SM) jv_ri 4 [(0, .ref 40), (1, .int a1), (2, .int a2), (3, .int a3)] [] h (k4 a1 a2 a3 h)) : ∀ (a1 : Int32) (a3 : Int32) (s0 : Int32) (s1 : Int32) (h : jv_H), jv_V l RX9 cX9_whom 4 (some .int) d (SC ++ SM) jv_ri 33 [(0, .ref 40), (1, .int a1), (3, .int a3)] [.int s1, .int s0] h (g9_whom_40_b33 k4 a1 a3 s0 s1 h) := by
  intro a1 a3 s0 s1 h
  unfold g9_whom_40_b33
  refine v_ior 34 rfl dX9_whom_33 ?_
  refine n_istore_n (fun x1 => [(0, .ref 40), (1, .int a1), (3, .int a3), (2, .int x1)]) 35 rfl dX9_whom_34 rfl (Nat.le_of_ble_eq_true rfl) rfl (fun _ => rfl) (fun x1 => ?_)
  refine n_iinc (fun x2 => [(0, .ref 40), (1, .int a1), (3, .int x2), (2, .int x1)]) 2 38 rfl dX9_whom_35 rfl ic_1 (Nat.le_of_ble_eq_true rfl) rfl (fun _ => rfl) (fun x2 => ?_)
  refine v_goto 4 rfl dX9_whom_38 ?_
  refine v_sub [0, 1, 3, 2] rfl ?_
  exact hk4 a1 x1 x2 h
def g9_whom_40_b4 (k4 : Int32 → Int32 → Int32 → jv_H → Option (Int32 × jv_H)) (a1 : Int32) (a2 : Int32) (a3 : Int32) (h : jv_H) : Option (Int32 × jv_H) := if (h.1 40 0) ≤ a3 then some (a2, h) else if jv_ix ((7 : Int32) + a3) 210 then if (h.1 47 (Int32.toNatClampNeg ((7 : Int32) + a3))) = a1 then g9_whom_40_b33 k4 a1 a3 a2 ((1 : Int32) <<< (a3 &&& 31)) h else g9_whom_40_b33 k4 a1 a3 a2 (0 : Int32) h else none
set_option maxRecDepth 20000 in
theorem b9_whom_40_b4 {l : Launch} {d : Nat} (hd : 0 ≤ d) (k4 : Int32 → Int32 → Int32 → jv_H → Option (Int32 × jv_H)) (hk4 : ∀ (a1 a2 a3 : Int32) (h : jv_H), jv_V l RX9 cX9_whom 4 (some .int) d (SC ++ SM) jv_ri 4 [(0, .ref 40), (1, .int a1), (2, .int a2), (3, .int a3)] [] h (k4 a1 a2 a3 h)) : ∀ (a1 : Int32) (a2 : Int32) (a3 : Int32) (h : jv_H), jv_V l RX9 cX9_whom 4 (some .int) d (SC ++ SM) jv_ri 4 [(0, .ref 40), (1, .int a1), (2, .int a2), (3, .int a3)] [] h (g9_whom_40_b4 k4 a1 a2 a3 h) := by
  intro a1 a2 a3 h
  unfold g9_whom_40_b4
  refine v_iload_n 3 5 rfl dX9_whom_4 rfl rfl ?_
  refine v_aload_n 0 6 rfl dX9_whom_5 rfl rfl ?_
  refine v_geti 9 rfl fl_X9_71 sc_40 rfl dX9_whom_6 ?_
  refine v_icmp_ge 41 12 rfl rfl dX9_whom_9 (fun _ => ?_) (fun _ => ?_)
  · refine v_iload_n 2 42 rfl dX9_whom_41 rfl rfl ?_
    exact v_iret rfl dX9_whom_42
  · refine v_iload_n 2 13 rfl dX9_whom_12 rfl rfl ?_
    refine v_aload_n 0 14 rfl dX9_whom_13 rfl rfl ?_
    refine v_getr 17 rfl fl_X9_28 sc_40 rfl dX9_whom_14 ?_
    refine v_bipush 19 rfl dX9_whom_17 bp_7 ?_
    refine v_iload_n 3 20 rfl dX9_whom_19 rfl rfl ?_
    refine v_iadd 21 rfl dX9_whom_20 ?_
    refine v_iald 22 rfl sc_47 dX9_whom_21 (fun _ => ?_)
    refine v_iload_n 1 23 rfl dX9_whom_22 rfl rfl ?_
    refine v_icmp_ne 32 26 rfl rfl dX9_whom_23 (fun _ => ?_) (fun _ => ?_)
    · refine v_iconst 33 rfl dX9_whom_32 ic_0 ?_
      refine v_sub [0, 1, 3] rfl ?_
      exact b9_whom_40_b33 hd k4 hk4 a1 a3 a2 (0 : Int32) h
    · refine v_iconst 27 rfl dX9_whom_26 ic_1 ?_
      refine v_iload_n 3 28 rfl dX9_whom_27 rfl rfl ?_
      refine v_ishl 29 rfl dX9_whom_28 ?_
      refine v_goto 33 rfl dX9_whom_29 ?_
      refine v_sub [0, 1, 3] rfl ?_
      exact b9_whom_40_b33 hd k4 hk4 a1 a3 a2 ((1 : Int32) <<< (a3 &&& 31)) h
def f9_whom_40_l4 : Nat → Int32 → Int32 → Int32 → jv_H → Option (Int32 × jv_H)
  | 0 => fun _ _ _ _ => none
  | n + 1 => fun a1 a2 a3 h => g9_whom_40_b4 (f9_whom_40_l4 n) a1 a2 a3 h
theorem w9_whom_40_l4 {l : Launch} {d : Nat} (hd : 0 ≤ d) : ∀ (n : Nat) (a1 : Int32) (a2 : Int32) (a3 : Int32) (h : jv_H), jv_V l RX9 cX9_whom 4 (some .int) d (SC ++ SM) jv_ri 4 [(0, .ref 40), (1, .int a1), (2, .int a2), (3, .int a3)] [] h (f9_whom_40_l4 n a1 a2 a3 h) := by
  intro n
  induction n with
  | zero => intro a1 a2 a3 h; exact v_none
  | succ n ih => intro a1 a2 a3 h; exact b9_whom_40_b4 hd (f9_whom_40_l4 n) ih a1 a2 a3 h
def f9_whom_40 (a1 : Int32) (h : jv_H) : Option (Int32 × jv_H) := jv_let (0 : Int32) fun x1 => jv_let (0 : Int32) fun x2 => f9_whom_40_l4 jv_fuel a1 x1 x2 h
set_option maxRecDepth 20000 in
theorem e9_whom_40 {l : Launch} {d : Nat} (hd : 0 ≤ d) (a1 : Int32) (h : jv_H) : jv_E l yX9_whom cX9_whom 4 (some .int) d (SC ++ SM) jv_ri [.ref 40, .int a1] h (f9_whom_40 a1 h) := by
  refine e_of [(0, .ref 40), (1, .int a1)] rfl pn_X9 (fun _ => Nat.le_of_ble_eq_true rfl) (fun _ => rfl) ?_
  unfold f9_whom_40
  refine v_iconst 1 rfl dX9_whom_0 ic_0 ?_
  refine n_istore_n (fun x1 => [(0, .ref 40), (1, .int a1), (2, .int x1)]) 2 rfl dX9_whom_1 rfl (Nat.le_of_ble_eq_true rfl) rfl (fun _ => rfl) (fun x1 => ?_)
  refine v_iconst 3 rfl dX9_whom_2 ic_0 ?_
  refine n_istore_n (fun x2 => [(0, .ref 40), (1, .int a1), (2, .int x1), (3, .int x2)]) 4 rfl dX9_whom_3 rfl (Nat.le_of_ble_eq_true rfl) rfl (fun _ => rfl) (fun x2 => ?_)
  exact w9_whom_40_l4 hd jv_fuel a1 x1 x2 h
-- TemperNursesModel.bits(I)I
def g9_bits_b4 (k4 : Int32 → Int32 → jv_H → Option (Int32 × jv_H)) (a1 : Int32) (a2 : Int32) (h : jv_H) : Option (Int32 × jv_H) := if a2 ≤ 0 then some (a1, h) else jv_let (a1 + (a2 &&& (1 : Int32))) fun x1 => jv_let (a2 >>> ((1 : Int32) &&& 31)) fun x2 => k4 x1 x2 h
set_option maxRecDepth 20000 in
theorem b9_bits_b4 {l : Launch} {d : Nat} (hd : 0 ≤ d) (k4 : Int32 → Int32 → jv_H → Option (Int32 × jv_H)) (hk4 : ∀ (a1 a2 : Int32) (h : jv_H), jv_V l RX9 cX9_bits 3 (some .int) d (SC ++ SM) jv_ri 4 [(1, .int a1), (2, .int a2)] [] h (k4 a1 a2 h)) : ∀ (a1 : Int32) (a2 : Int32) (h : jv_H), jv_V l RX9 cX9_bits 3 (some .int) d (SC ++ SM) jv_ri 4 [(1, .int a1), (2, .int a2)] [] h (g9_bits_b4 k4 a1 a2 h) := by
  intro a1 a2 h
  unfold g9_bits_b4
  refine v_iload_n 1 5 rfl dX9_bits_4 rfl rfl ?_
  refine v_if_le 21 8 rfl rfl dX9_bits_5 (fun _ => ?_) (fun _ => ?_)
  · refine v_iload_n 0 22 rfl dX9_bits_21 rfl rfl ?_
    exact v_iret rfl dX9_bits_22
  · refine v_iload_n 0 9 rfl dX9_bits_8 rfl rfl ?_
    refine v_iload_n 1 10 rfl dX9_bits_9 rfl rfl ?_
    refine v_iconst 11 rfl dX9_bits_10 ic_1 ?_
    refine v_iand 12 rfl dX9_bits_11 ?_
    refine v_iadd 13 rfl dX9_bits_12 ?_
    refine n_istore_n (fun x1 => [(1, .int x1), (2, .int a2)]) 14 rfl dX9_bits_13 rfl (Nat.le_of_ble_eq_true rfl) rfl (fun _ => rfl) (fun x1 => ?_)
    refine v_iload_n 1 15 rfl dX9_bits_14 rfl rfl ?_
    refine v_iconst 16 rfl dX9_bits_15 ic_1 ?_
    refine v_ishr 17 rfl dX9_bits_16 ?_
    refine n_istore_n (fun x2 => [(1, .int x1), (2, .int x2)]) 18 rfl dX9_bits_17 rfl (Nat.le_of_ble_eq_true rfl) rfl (fun _ => rfl) (fun x2 => ?_)
    refine v_goto 4 rfl dX9_bits_18 ?_
    exact hk4 x1 x2 h
def f9_bits_l4 : Nat → Int32 → Int32 → jv_H → Option (Int32 × jv_H)
  | 0 => fun _ _ _ => none
  | n + 1 => fun a1 a2 h => g9_bits_b4 (f9_bits_l4 n) a1 a2 h
theorem w9_bits_l4 {l : Launch} {d : Nat} (hd : 0 ≤ d) : ∀ (n : Nat) (a1 : Int32) (a2 : Int32) (h : jv_H), jv_V l RX9 cX9_bits 3 (some .int) d (SC ++ SM) jv_ri 4 [(1, .int a1), (2, .int a2)] [] h (f9_bits_l4 n a1 a2 h) := by
  intro n
  induction n with
  | zero => intro a1 a2 h; exact v_none
  | succ n ih => intro a1 a2 h; exact b9_bits_b4 hd (f9_bits_l4 n) ih a1 a2 h
def f9_bits (a0 : Int32) (h : jv_H) : Option (Int32 × jv_H) := jv_let (0 : Int32) fun x1 => jv_let a0 fun x2 => f9_bits_l4 jv_fuel x1 x2 h
set_option maxRecDepth 20000 in
theorem e9_bits {l : Launch} {d : Nat} (hd : 0 ≤ d) (a0 : Int32) (h : jv_H) : jv_E l yX9_bits cX9_bits 3 (some .int) d (SC ++ SM) jv_ri [.int a0] h (f9_bits a0 h) := by
  refine e_of [(0, .int a0)] rfl pn_X9 (fun _ => Nat.le_of_ble_eq_true rfl) (fun _ => rfl) ?_
  unfold f9_bits
  refine v_iconst 1 rfl dX9_bits_0 ic_0 ?_
  refine n_istore_n (fun x1 => [(0, .int a0), (1, .int x1)]) 2 rfl dX9_bits_1 rfl (Nat.le_of_ble_eq_true rfl) rfl (fun _ => rfl) (fun x1 => ?_)
  refine v_iload_n 0 3 rfl dX9_bits_2 rfl rfl ?_
  refine n_istore_n (fun x2 => [(0, .int a0), (1, .int x1), (2, .int x2)]) 4 rfl dX9_bits_3 rfl (Nat.le_of_ble_eq_true rfl) rfl (fun _ => rfl) (fun x2 => ?_)
  refine v_sub [1, 2] rfl ?_
  exact w9_bits_l4 hd jv_fuel x1 x2 h
-- TemperNursesModel.maySend(II)Z at 40
def f9_maySend_40 (a1 : Int32) (a2 : Int32) (h : jv_H) : Option (Int32 × jv_H) := (f9_whom_40 a2 h).bind fun q1 => jv_let (q1.1 &&& (((1 : Int32) <<< (a1 &&& 31)) ^^^ (-1 : Int32))) fun x2 => (f9_heat_40 a1 q1.2).bind fun q3 => if jv_ix a2 4 then if (q3.2.1 46 (Int32.toNatClampNeg a2)) < q3.1 then some ((0 : Int32), q3.2) else (f9_bits x2 q3.2).bind fun q4 => if jv_ix a2 4 then if (q4.2.1 45 (Int32.toNatClampNeg a2)) ≤ q4.1 then some ((0 : Int32), q4.2) else if jv_ix a1 6 then if (x2 &&& (q4.2.1 43 (Int32.toNatClampNeg a1))) = 0 then some ((1 : Int32), q4.2) else some ((0 : Int32), q4.2) else none else none else none
set_option maxRecDepth 20000 in
theorem e9_maySend_40 {l : Launch} {d : Nat} (hd : 1 ≤ d) (a1 : Int32) (a2 : Int32) (h : jv_H) : jv_E l yX9_maySend cX9_maySend 4 (some .boolean) d (SC ++ SM) jv_ri [.ref 40, .int a1, .int a2] h (f9_maySend_40 a1 a2 h) := by
  refine e_of [(0, .ref 40), (1, .int a1), (2, .int a2)] rfl pn_X9 (fun _ => Nat.le_of_ble_eq_true rfl) (fun _ => rfl) ?_
  unfold f9_maySend_40
  refine v_aload_n 0 1 rfl dX9_maySend_0 rfl rfl ?_
  refine v_iload_n 2 2 rfl dX9_maySend_1 rfl rfl ?_
  refine n_callv [.int a2] [] (fun r => .int r :: []) 5 rfl (by omega) (Nat.le_of_ble_eq_true rfl) cb_X9_whom cv_X9_139 sc_40 cn_X9 rfl (Nat.le_of_ble_eq_true rfl) dX9_maySend_2 rfl (fun _ => rfl) (e9_whom_40 (by omega) a2 h) (fun q1 => ?_)
  refine v_iconst 6 rfl dX9_maySend_5 ic_1 ?_
  refine v_iload_n 1 7 rfl dX9_maySend_6 rfl rfl ?_
  refine v_ishl 8 rfl dX9_maySend_7 ?_
  refine v_iconst 9 rfl dX9_maySend_8 ic_m1 ?_
  refine v_ixor 10 rfl dX9_maySend_9 ?_
  refine v_iand 11 rfl dX9_maySend_10 ?_
  refine n_istore_n (fun x2 => [(0, .ref 40), (1, .int a1), (2, .int a2), (3, .int x2)]) 12 rfl dX9_maySend_11 rfl (Nat.le_of_ble_eq_true rfl) rfl (fun _ => rfl) (fun x2 => ?_)
  refine v_aload_n 0 13 rfl dX9_maySend_12 rfl rfl ?_
  refine v_iload_n 1 14 rfl dX9_maySend_13 rfl rfl ?_
  refine n_callv [.int a1] [] (fun r => .int r :: []) 17 rfl (by omega) (Nat.le_of_ble_eq_true rfl) cb_X9_heat cv_X9_143 sc_40 cn_X9 rfl (Nat.le_of_ble_eq_true rfl) dX9_maySend_14 rfl (fun _ => rfl) (e9_heat_40 (by omega) a1 q1.2) (fun q3 => ?_)
  refine v_aload_n 0 18 rfl dX9_maySend_17 rfl rfl ?_
  refine v_getr 21 rfl fl_X9_25 sc_40 rfl dX9_maySend_18 ?_
  refine v_iload_n 2 22 rfl dX9_maySend_21 rfl rfl ?_
  refine v_iald 23 rfl sc_46 dX9_maySend_22 (fun _ => ?_)
  refine v_icmp_gt 54 26 rfl rfl dX9_maySend_23 (fun _ => ?_) (fun _ => ?_)
  · refine v_iconst 55 rfl dX9_maySend_54 ic_0 ?_
    exact v_zr0 dX9_maySend_55
  · refine v_iload_n 3 27 rfl dX9_maySend_26 rfl rfl ?_
    refine n_calls [.int x2] [] (fun r => .int r :: []) 30 rfl (by omega) (Nat.le_of_ble_eq_true rfl) cb_X9_bits cs_X9_146 rfl (Nat.le_of_ble_eq_true rfl) dX9_maySend_27 rfl (fun _ => rfl) (e9_bits (by omega) x2 q3.2) (fun q4 => ?_)
    refine v_aload_n 0 31 rfl dX9_maySend_30 rfl rfl ?_
    refine v_getr 34 rfl fl_X9_22 sc_40 rfl dX9_maySend_31 ?_
    refine v_iload_n 2 35 rfl dX9_maySend_34 rfl rfl ?_
    refine v_iald 36 rfl sc_45 dX9_maySend_35 (fun _ => ?_)
    refine v_icmp_ge 54 39 rfl rfl dX9_maySend_36 (fun _ => ?_) (fun _ => ?_)
    · refine v_iconst 55 rfl dX9_maySend_54 ic_0 ?_
      exact v_zr0 dX9_maySend_55
    · refine v_iload_n 3 40 rfl dX9_maySend_39 rfl rfl ?_
      refine v_aload_n 0 41 rfl dX9_maySend_40 rfl rfl ?_
      refine v_getr 44 rfl fl_X9_16 sc_40 rfl dX9_maySend_41 ?_
      refine v_iload_n 1 45 rfl dX9_maySend_44 rfl rfl ?_
      refine v_iald 46 rfl sc_43 dX9_maySend_45 (fun _ => ?_)
      refine v_iand 47 rfl dX9_maySend_46 ?_
      refine v_if_ne 54 50 rfl rfl dX9_maySend_47 (fun _ => ?_) (fun _ => ?_)
      · refine v_iconst 55 rfl dX9_maySend_54 ic_0 ?_
        exact v_zr0 dX9_maySend_55
      · refine v_iconst 51 rfl dX9_maySend_50 ic_1 ?_
        refine v_goto 55 rfl dX9_maySend_51 ?_
        exact v_zr1 dX9_maySend_55
-- TemperNursesModel.nurse(II)I at 40
def g9_nurse_40_b69 (k27 : Int32 → Int32 → Int32 → Int32 → jv_H → Option (Int32 × jv_H)) (a1 : Int32) (a2 : Int32) (a4 : Int32) (s0 : Int32) (s1 : Int32) (h : jv_H) : Option (Int32 × jv_H) := jv_let (s0 ||| s1) fun x1 => jv_let (a4 + (1 : Int32)) fun x2 => k27 a1 a2 x1 x2 h
set_option maxRecDepth 20000 in
theorem b9_nurse_40_b69 {l : Launch} {d : Nat} (hd : 2 ≤ d) (k27 : Int32 → Int32 → Int32 → Int32 → jv_H → Option (Int32 × jv_H)) (hk27 : ∀ (a1 a2 a3 a4 : Int32) (h : jv_H), jv_V l RX9 cX9_nurse 5 (some .int) d (SC ++ SM) jv_ri 27 [(0, .ref 40), (1, .int a1), (2, .int a2), (3, .int a3), (4, .int a4)] [] h (k27 a1 a2 a3 a4 h)) : ∀ (a1 : Int32) (a2 : Int32) (a4 : Int32) (s0 : Int32) (s1 : Int32) (h : jv_H), jv_V l RX9 cX9_nurse 5 (some .int) d (SC ++ SM) jv_ri 69 [(0, .ref 40), (1, .int a1), (2, .int a2), (4, .int a4)] [.int s1, .int s0] h (g9_nurse_40_b69 k27 a1 a2 a4 s0 s1 h) := by
  intro a1 a2 a4 s0 s1 h
  unfold g9_nurse_40_b69
  refine v_ior 70 rfl dX9_nurse_69 ?_
  refine n_istore_n (fun x1 => [(0, .ref 40), (1, .int a1), (2, .int a2), (4, .int a4), (3, .int x1)]) 71 rfl dX9_nurse_70 rfl (Nat.le_of_ble_eq_true rfl) rfl (fun _ => rfl) (fun x1 => ?_)
  refine n_iinc (fun x2 => [(0, .ref 40), (1, .int a1), (2, .int a2), (4, .int x2), (3, .int x1)]) 3 74 rfl dX9_nurse_71 rfl ic_1 (Nat.le_of_ble_eq_true rfl) rfl (fun _ => rfl) (fun x2 => ?_)
  refine v_goto 27 rfl dX9_nurse_74 ?_
  refine v_sub [0, 1, 2, 4, 3] rfl ?_
  exact hk27 a1 a2 x1 x2 h
def g9_nurse_40_b68 (k27 : Int32 → Int32 → Int32 → Int32 → jv_H → Option (Int32 × jv_H)) (a1 : Int32) (a2 : Int32) (a4 : Int32) (s0 : Int32) (h : jv_H) : Option (Int32 × jv_H) := g9_nurse_40_b69 k27 a1 a2 a4 s0 (0 : Int32) h
set_option maxRecDepth 20000 in
theorem b9_nurse_40_b68 {l : Launch} {d : Nat} (hd : 2 ≤ d) (k27 : Int32 → Int32 → Int32 → Int32 → jv_H → Option (Int32 × jv_H)) (hk27 : ∀ (a1 a2 a3 a4 : Int32) (h : jv_H), jv_V l RX9 cX9_nurse 5 (some .int) d (SC ++ SM) jv_ri 27 [(0, .ref 40), (1, .int a1), (2, .int a2), (3, .int a3), (4, .int a4)] [] h (k27 a1 a2 a3 a4 h)) : ∀ (a1 : Int32) (a2 : Int32) (a4 : Int32) (s0 : Int32) (h : jv_H), jv_V l RX9 cX9_nurse 5 (some .int) d (SC ++ SM) jv_ri 68 [(0, .ref 40), (1, .int a1), (2, .int a2), (4, .int a4)] [.int s0] h (g9_nurse_40_b68 k27 a1 a2 a4 s0 h) := by
  intro a1 a2 a4 s0 h
  unfold g9_nurse_40_b68
  refine v_iconst 69 rfl dX9_nurse_68 ic_0 ?_
  exact b9_nurse_40_b69 hd k27 hk27 a1 a2 a4 s0 (0 : Int32) h
def g9_nurse_40_b27 (k27 : Int32 → Int32 → Int32 → Int32 → jv_H → Option (Int32 × jv_H)) (a1 : Int32) (a2 : Int32) (a3 : Int32) (a4 : Int32) (h : jv_H) : Option (Int32 × jv_H) := if (h.1 40 0) ≤ a4 then if a2 = 0 then if jv_ix a1 4 then some ((h.1 44 (Int32.toNatClampNeg a1)), h) else none else if a2 = 1 then if jv_ix a1 4 then some ((h.1 45 (Int32.toNatClampNeg a1)), h) else none else if a2 = 2 then if jv_ix a1 4 then some ((h.1 46 (Int32.toNatClampNeg a1)), h) else none else if a2 = 3 then (f9_whom_40 a1 h).bind fun q4 => some (q4.1, q4.2) else some (a3, h) else if jv_ix ((7 : Int32) + a4) 210 then if (h.1 47 (Int32.toNatClampNeg ((7 : Int32) + a4))) = a1 then g9_nurse_40_b68 k27 a1 a2 a4 a3 h else (f9_maySend_40 a4 a1 h).bind fun q6 => if q6.1 = 0 then g9_nurse_40_b68 k27 a1 a2 a4 a3 q6.2 else g9_nurse_40_b69 k27 a1 a2 a4 a3 ((1 : Int32) <<< (a4 &&& 31)) q6.2 else none
set_option maxRecDepth 20000 in
theorem b9_nurse_40_b27 {l : Launch} {d : Nat} (hd : 2 ≤ d) (k27 : Int32 → Int32 → Int32 → Int32 → jv_H → Option (Int32 × jv_H)) (hk27 : ∀ (a1 a2 a3 a4 : Int32) (h : jv_H), jv_V l RX9 cX9_nurse 5 (some .int) d (SC ++ SM) jv_ri 27 [(0, .ref 40), (1, .int a1), (2, .int a2), (3, .int a3), (4, .int a4)] [] h (k27 a1 a2 a3 a4 h)) : ∀ (a1 : Int32) (a2 : Int32) (a3 : Int32) (a4 : Int32) (h : jv_H), jv_V l RX9 cX9_nurse 5 (some .int) d (SC ++ SM) jv_ri 27 [(0, .ref 40), (1, .int a1), (2, .int a2), (3, .int a3), (4, .int a4)] [] h (g9_nurse_40_b27 k27 a1 a2 a3 a4 h) := by
  intro a1 a2 a3 a4 h
  unfold g9_nurse_40_b27
  refine v_iload 4 29 rfl dX9_nurse_27 rfl ?_
  refine v_aload_n 0 30 rfl dX9_nurse_29 rfl rfl ?_
  refine v_geti 33 rfl fl_X9_71 sc_40 rfl dX9_nurse_30 ?_
  refine v_icmp_ge 77 36 rfl rfl dX9_nurse_33 (fun _ => ?_) (fun _ => ?_)
  · refine v_iload_n 2 78 rfl dX9_nurse_77 rfl rfl ?_
    refine v_tabc (0 : Int32) (off := 30) 108 dX9_nurse_78 (by decide +kernel) rfl (fun _ => ?_) (fun c1 => ?_)
    · refine v_aload_n 0 109 rfl dX9_nurse_108 rfl rfl ?_
      refine v_getr 112 rfl fl_X9_19 sc_40 rfl dX9_nurse_109 ?_
      refine v_iload_n 1 113 rfl dX9_nurse_112 rfl rfl ?_
      refine v_iald 114 rfl sc_44 dX9_nurse_113 (fun _ => ?_)
      exact v_iret rfl dX9_nurse_114
    refine v_tabc (1 : Int32) (off := 37) 115 dX9_nurse_78 (by decide +kernel) rfl (fun _ => ?_) (fun c2 => ?_)
    · refine v_aload_n 0 116 rfl dX9_nurse_115 rfl rfl ?_
      refine v_getr 119 rfl fl_X9_22 sc_40 rfl dX9_nurse_116 ?_
      refine v_iload_n 1 120 rfl dX9_nurse_119 rfl rfl ?_
      refine v_iald 121 rfl sc_45 dX9_nurse_120 (fun _ => ?_)
      exact v_iret rfl dX9_nurse_121
    refine v_tabc (2 : Int32) (off := 44) 122 dX9_nurse_78 (by decide +kernel) rfl (fun _ => ?_) (fun c3 => ?_)
    · refine v_aload_n 0 123 rfl dX9_nurse_122 rfl rfl ?_
      refine v_getr 126 rfl fl_X9_25 sc_40 rfl dX9_nurse_123 ?_
      refine v_iload_n 1 127 rfl dX9_nurse_126 rfl rfl ?_
      refine v_iald 128 rfl sc_46 dX9_nurse_127 (fun _ => ?_)
      exact v_iret rfl dX9_nurse_128
    refine v_tabc (3 : Int32) (off := 51) 129 dX9_nurse_78 (by decide +kernel) rfl (fun _ => ?_) (fun c5 => ?_)
    · refine v_aload_n 0 130 rfl dX9_nurse_129 rfl rfl ?_
      refine v_iload_n 1 131 rfl dX9_nurse_130 rfl rfl ?_
      refine n_callv [.int a1] [] (fun r => .int r :: []) 134 rfl (by omega) (Nat.le_of_ble_eq_true rfl) cb_X9_whom cv_X9_139 sc_40 cn_X9 rfl (Nat.le_of_ble_eq_true rfl) dX9_nurse_131 rfl (fun _ => rfl) (e9_whom_40 (by omega) a1 h) (fun q4 => ?_)
      exact v_iret rfl dX9_nurse_134
    refine v_tabd 135 dX9_nurse_78 (by have := lv_neT (a := 0) c1 rfl; have := lv_neT (a := 1) c2 rfl; have := lv_neT (a := 2) c3 rfl; have := lv_neT (a := 3) c5 rfl; omega) rfl ?_
    refine v_iload_n 3 136 rfl dX9_nurse_135 rfl rfl ?_
    exact v_iret rfl dX9_nurse_136
  · refine v_iload_n 3 37 rfl dX9_nurse_36 rfl rfl ?_
    refine v_aload_n 0 38 rfl dX9_nurse_37 rfl rfl ?_
    refine v_getr 41 rfl fl_X9_28 sc_40 rfl dX9_nurse_38 ?_
    refine v_bipush 43 rfl dX9_nurse_41 bp_7 ?_
    refine v_iload 4 45 rfl dX9_nurse_43 rfl ?_
    refine v_iadd 46 rfl dX9_nurse_45 ?_
    refine v_iald 47 rfl sc_47 dX9_nurse_46 (fun _ => ?_)
    refine v_iload_n 1 48 rfl dX9_nurse_47 rfl rfl ?_
    refine v_icmp_eq 68 51 rfl rfl dX9_nurse_48 (fun _ => ?_) (fun _ => ?_)
    · refine v_sub [0, 1, 2, 4] rfl ?_
      exact b9_nurse_40_b68 hd k27 hk27 a1 a2 a4 a3 h
    · refine v_aload_n 0 52 rfl dX9_nurse_51 rfl rfl ?_
      refine v_iload 4 54 rfl dX9_nurse_52 rfl ?_
      refine v_iload_n 1 55 rfl dX9_nurse_54 rfl rfl ?_
      refine n_callv [.int a4, .int a1] [.int a3] (fun r => .int r :: [.int a3]) 58 rfl (by omega) (Nat.le_of_ble_eq_true rfl) cb_X9_maySend cv_X9_162 sc_40 cn_X9 rfl (Nat.le_of_ble_eq_true rfl) dX9_nurse_55 rfl (fun _ => rfl) (e9_maySend_40 (by omega) a4 a1 h) (fun q6 => ?_)
      refine v_if_eq 68 61 rfl rfl dX9_nurse_58 (fun _ => ?_) (fun _ => ?_)
      · refine v_sub [0, 1, 2, 4] rfl ?_
        exact b9_nurse_40_b68 hd k27 hk27 a1 a2 a4 a3 q6.2
      · refine v_iconst 62 rfl dX9_nurse_61 ic_1 ?_
        refine v_iload 4 64 rfl dX9_nurse_62 rfl ?_
        refine v_ishl 65 rfl dX9_nurse_64 ?_
        refine v_goto 69 rfl dX9_nurse_65 ?_
        refine v_sub [0, 1, 2, 4] rfl ?_
        exact b9_nurse_40_b69 hd k27 hk27 a1 a2 a4 a3 ((1 : Int32) <<< (a4 &&& 31)) q6.2
def f9_nurse_40_l27 : Nat → Int32 → Int32 → Int32 → Int32 → jv_H → Option (Int32 × jv_H)
  | 0 => fun _ _ _ _ _ => none
  | n + 1 => fun a1 a2 a3 a4 h => g9_nurse_40_b27 (f9_nurse_40_l27 n) a1 a2 a3 a4 h
theorem w9_nurse_40_l27 {l : Launch} {d : Nat} (hd : 2 ≤ d) : ∀ (n : Nat) (a1 : Int32) (a2 : Int32) (a3 : Int32) (a4 : Int32) (h : jv_H), jv_V l RX9 cX9_nurse 5 (some .int) d (SC ++ SM) jv_ri 27 [(0, .ref 40), (1, .int a1), (2, .int a2), (3, .int a3), (4, .int a4)] [] h (f9_nurse_40_l27 n a1 a2 a3 a4 h) := by
  intro n
  induction n with
  | zero => intro a1 a2 a3 a4 h; exact v_none
  | succ n ih => intro a1 a2 a3 a4 h; exact b9_nurse_40_b27 hd (f9_nurse_40_l27 n) ih a1 a2 a3 a4 h
def f9_nurse_40 (a1 : Int32) (a2 : Int32) (h : jv_H) : Option (Int32 × jv_H) := (f9_isNurse_40 a1 h).bind fun q1 => if q1.1 = 0 then some ((-1 : Int32), q1.2) else (f9_in (Int32.toInt64 a2) (0 : Int64) (4 : Int64) q1.2).bind fun q2 => if q2.1 = 0 then some ((-1 : Int32), q2.2) else jv_let (0 : Int32) fun x3 => jv_let (0 : Int32) fun x4 => f9_nurse_40_l27 jv_fuel a1 a2 x3 x4 q2.2
set_option maxRecDepth 20000 in
theorem e9_nurse_40 {l : Launch} {d : Nat} (hd : 2 ≤ d) (a1 : Int32) (a2 : Int32) (h : jv_H) : jv_E l yX9_nurse cX9_nurse 5 (some .int) d (SC ++ SM) jv_ri [.ref 40, .int a1, .int a2] h (f9_nurse_40 a1 a2 h) := by
  refine e_of [(0, .ref 40), (1, .int a1), (2, .int a2)] rfl pn_X9 (fun _ => Nat.le_of_ble_eq_true rfl) (fun _ => rfl) ?_
  unfold f9_nurse_40
  refine v_aload_n 0 1 rfl dX9_nurse_0 rfl rfl ?_
  refine v_iload_n 1 2 rfl dX9_nurse_1 rfl rfl ?_
  refine n_callv [.int a1] [] (fun r => .int r :: []) 5 rfl (by omega) (Nat.le_of_ble_eq_true rfl) cb_X9_isNurse cv_X9_157 sc_40 cn_X9 rfl (Nat.le_of_ble_eq_true rfl) dX9_nurse_2 rfl (fun _ => rfl) (e9_isNurse_40 (by omega) a1 h) (fun q1 => ?_)
  refine v_if_eq 20 8 rfl rfl dX9_nurse_5 (fun _ => ?_) (fun _ => ?_)
  · refine v_iconst 21 rfl dX9_nurse_20 ic_m1 ?_
    exact v_iret rfl dX9_nurse_21
  · refine v_iload_n 2 9 rfl dX9_nurse_8 rfl rfl ?_
    refine v_i2l 10 rfl dX9_nurse_9 ?_
    refine v_lconst (v := (0 : Int64)) 11 rfl dX9_nurse_10 rfl ?_
    refine v_ldc2 14 rfl mw_986 dX9_nurse_11 ?_
    refine n_calls [.long (Int32.toInt64 a2), .long (0 : Int64), .long (4 : Int64)] [] (fun r => .int r :: []) 17 rfl (by omega) (Nat.le_of_ble_eq_true rfl) cb_X9_in cs_X9_75 rfl (Nat.le_of_ble_eq_true rfl) dX9_nurse_14 rfl (fun _ => rfl) (e9_in (by omega) (Int32.toInt64 a2) (0 : Int64) (4 : Int64) q1.2) (fun q2 => ?_)
    refine v_if_ne 22 20 rfl rfl dX9_nurse_17 (fun _ => ?_) (fun _ => ?_)
    · refine v_iconst 23 rfl dX9_nurse_22 ic_0 ?_
      refine n_istore_n (fun x3 => [(0, .ref 40), (1, .int a1), (2, .int a2), (3, .int x3)]) 24 rfl dX9_nurse_23 rfl (Nat.le_of_ble_eq_true rfl) rfl (fun _ => rfl) (fun x3 => ?_)
      refine v_iconst 25 rfl dX9_nurse_24 ic_0 ?_
      refine n_istore (fun x4 => [(0, .ref 40), (1, .int a1), (2, .int a2), (3, .int x3), (4, .int x4)]) 27 rfl dX9_nurse_25 (Nat.le_of_ble_eq_true rfl) rfl (fun _ => rfl) (fun x4 => ?_)
      exact w9_nurse_40_l27 hd jv_fuel a1 a2 x3 x4 q2.2
    · refine v_iconst 21 rfl dX9_nurse_20 ic_m1 ?_
      exact v_iret rfl dX9_nurse_21
-- TemperNursesModel.save()V at 40
def g9_save_40_b56 (k56 : Int32 → jv_H → Option (Unit × jv_H)) (a1 : Int32) (h : jv_H) : Option (Unit × jv_H) := if (19 : Int32) ≤ a1 then if jv_ix (19 : Int32) 210 then if jv_ix (19 : Int32) 210 then jv_let (jv_p h 47 (Int32.toNatClampNeg (19 : Int32)) ((h.1 47 (Int32.toNatClampNeg (19 : Int32))) + (1 : Int32))) fun h1 => some ((), h1) else none else none else if jv_ix (19 : Int32) 210 then if jv_ix a1 210 then if jv_ix (((20 : Int32) + ((19 : Int32) * (h.1 47 (Int32.toNatClampNeg (19 : Int32))))) + a1) 210 then jv_let (jv_p h 47 (Int32.toNatClampNeg (((20 : Int32) + ((19 : Int32) * (h.1 47 (Int32.toNatClampNeg (19 : Int32))))) + a1)) (h.1 47 (Int32.toNatClampNeg a1))) fun h2 => jv_let (a1 + (1 : Int32)) fun x3 => k56 x3 h2 else none else none else none
set_option maxRecDepth 20000 in
theorem b9_save_40_b56 {l : Launch} {d : Nat} (hd : 0 ≤ d) (k56 : Int32 → jv_H → Option (Unit × jv_H)) (hk56 : ∀ (a1 : Int32) (h : jv_H), jv_V l RX9 cX9_save 2 none d (SC ++ SM) jv_rv 56 [(0, .ref 40), (1, .int a1)] [] h (k56 a1 h)) : ∀ (a1 : Int32) (h : jv_H), jv_V l RX9 cX9_save 2 none d (SC ++ SM) jv_rv 56 [(0, .ref 40), (1, .int a1)] [] h (g9_save_40_b56 k56 a1 h) := by
  intro a1 h
  unfold g9_save_40_b56
  refine v_iload_n 1 57 rfl dX9_save_56 rfl rfl ?_
  refine v_bipush 59 rfl dX9_save_57 bp_19 ?_
  refine v_icmp_ge 94 62 rfl rfl dX9_save_59 (fun _ => ?_) (fun _ => ?_)
  · refine v_aload_n 0 95 rfl dX9_save_94 rfl rfl ?_
    refine v_getr 98 rfl fl_X9_28 sc_40 rfl dX9_save_95 ?_
    refine v_bipush 100 rfl dX9_save_98 bp_19 ?_
    refine v_dup2 101 rfl dX9_save_100 ?_
    refine v_iald 102 rfl sc_47 dX9_save_101 (fun _ => ?_)
    refine v_iconst 103 rfl dX9_save_102 ic_1 ?_
    refine v_iadd 104 rfl dX9_save_103 ?_
    refine n_iast 105 rfl sc_47 dX9_save_104 (fun h1 => ?_)
    exact v_vret rfl dX9_save_105
  · refine v_aload_n 0 63 rfl dX9_save_62 rfl rfl ?_
    refine v_getr 66 rfl fl_X9_28 sc_40 rfl dX9_save_63 ?_
    refine v_bipush 68 rfl dX9_save_66 bp_20 ?_
    refine v_bipush 70 rfl dX9_save_68 bp_19 ?_
    refine v_aload_n 0 71 rfl dX9_save_70 rfl rfl ?_
    refine v_getr 74 rfl fl_X9_28 sc_40 rfl dX9_save_71 ?_
    refine v_bipush 76 rfl dX9_save_74 bp_19 ?_
    refine v_iald 77 rfl sc_47 dX9_save_76 (fun _ => ?_)
    refine v_imul 78 rfl dX9_save_77 ?_
    refine v_iadd 79 rfl dX9_save_78 ?_
    refine v_iload_n 1 80 rfl dX9_save_79 rfl rfl ?_
    refine v_iadd 81 rfl dX9_save_80 ?_
    refine v_aload_n 0 82 rfl dX9_save_81 rfl rfl ?_
    refine v_getr 85 rfl fl_X9_28 sc_40 rfl dX9_save_82 ?_
    refine v_iload_n 1 86 rfl dX9_save_85 rfl rfl ?_
    refine v_iald 87 rfl sc_47 dX9_save_86 (fun _ => ?_)
    refine n_iast 88 rfl sc_47 dX9_save_87 (fun h2 => ?_)
    refine n_iinc (fun x3 => [(0, .ref 40), (1, .int x3)]) 1 91 rfl dX9_save_88 rfl ic_1 (Nat.le_of_ble_eq_true rfl) rfl (fun _ => rfl) (fun x3 => ?_)
    refine v_goto 56 rfl dX9_save_91 ?_
    exact hk56 x3 h2
def f9_save_40_l56 : Nat → Int32 → jv_H → Option (Unit × jv_H)
  | 0 => fun _ _ => none
  | n + 1 => fun a1 h => g9_save_40_b56 (f9_save_40_l56 n) a1 h
theorem w9_save_40_l56 {l : Launch} {d : Nat} (hd : 0 ≤ d) : ∀ (n : Nat) (a1 : Int32) (h : jv_H), jv_V l RX9 cX9_save 2 none d (SC ++ SM) jv_rv 56 [(0, .ref 40), (1, .int a1)] [] h (f9_save_40_l56 n a1 h) := by
  intro n
  induction n with
  | zero => intro a1 h; exact v_none
  | succ n ih => intro a1 h; exact b9_save_40_b56 hd (f9_save_40_l56 n) ih a1 h
def g9_save_40_b54 (h : jv_H) : Option (Unit × jv_H) := jv_let (0 : Int32) fun x1 => f9_save_40_l56 jv_fuel x1 h
set_option maxRecDepth 20000 in
theorem b9_save_40_b54 {l : Launch} {d : Nat} (hd : 0 ≤ d) : ∀ (h : jv_H), jv_V l RX9 cX9_save 2 none d (SC ++ SM) jv_rv 54 [(0, .ref 40)] [] h (g9_save_40_b54 h) := by
  intro  h
  unfold g9_save_40_b54
  refine v_iconst 55 rfl dX9_save_54 ic_0 ?_
  refine n_istore_n (fun x1 => [(0, .ref 40), (1, .int x1)]) 56 rfl dX9_save_55 rfl (Nat.le_of_ble_eq_true rfl) rfl (fun _ => rfl) (fun x1 => ?_)
  exact w9_save_40_l56 hd jv_fuel x1 h
def g9_save_40_b14 (k14 : Int32 → jv_H → Option (Unit × jv_H)) (a1 : Int32) (h : jv_H) : Option (Unit × jv_H) := if (171 : Int32) ≤ a1 then if jv_ix (19 : Int32) 210 then jv_let (jv_p h 47 (Int32.toNatClampNeg (19 : Int32)) (9 : Int32)) fun h1 => g9_save_40_b54 h1 else none else if jv_ix ((39 : Int32) + a1) 210 then if jv_ix ((20 : Int32) + a1) 210 then jv_let (jv_p h 47 (Int32.toNatClampNeg ((20 : Int32) + a1)) (h.1 47 (Int32.toNatClampNeg ((39 : Int32) + a1)))) fun h2 => jv_let (a1 + (1 : Int32)) fun x3 => k14 x3 h2 else none else none
set_option maxRecDepth 20000 in
theorem b9_save_40_b14 {l : Launch} {d : Nat} (hd : 0 ≤ d) (k14 : Int32 → jv_H → Option (Unit × jv_H)) (hk14 : ∀ (a1 : Int32) (h : jv_H), jv_V l RX9 cX9_save 2 none d (SC ++ SM) jv_rv 14 [(0, .ref 40), (1, .int a1)] [] h (k14 a1 h)) : ∀ (a1 : Int32) (h : jv_H), jv_V l RX9 cX9_save 2 none d (SC ++ SM) jv_rv 14 [(0, .ref 40), (1, .int a1)] [] h (g9_save_40_b14 k14 a1 h) := by
  intro a1 h
  unfold g9_save_40_b14
  refine v_iload_n 1 15 rfl dX9_save_14 rfl rfl ?_
  refine v_sipush 18 rfl dX9_save_15 sp_171 ?_
  refine v_icmp_ge 45 21 rfl rfl dX9_save_18 (fun _ => ?_) (fun _ => ?_)
  · refine v_aload_n 0 46 rfl dX9_save_45 rfl rfl ?_
    refine v_getr 49 rfl fl_X9_28 sc_40 rfl dX9_save_46 ?_
    refine v_bipush 51 rfl dX9_save_49 bp_19 ?_
    refine v_bipush 53 rfl dX9_save_51 bp_9 ?_
    refine n_iast 54 rfl sc_47 dX9_save_53 (fun h1 => ?_)
    refine v_sub [0] rfl ?_
    exact b9_save_40_b54 hd h1
  · refine v_aload_n 0 22 rfl dX9_save_21 rfl rfl ?_
    refine v_getr 25 rfl fl_X9_28 sc_40 rfl dX9_save_22 ?_
    refine v_bipush 27 rfl dX9_save_25 bp_20 ?_
    refine v_iload_n 1 28 rfl dX9_save_27 rfl rfl ?_
    refine v_iadd 29 rfl dX9_save_28 ?_
    refine v_aload_n 0 30 rfl dX9_save_29 rfl rfl ?_
    refine v_getr 33 rfl fl_X9_28 sc_40 rfl dX9_save_30 ?_
    refine v_bipush 35 rfl dX9_save_33 bp_39 ?_
    refine v_iload_n 1 36 rfl dX9_save_35 rfl rfl ?_
    refine v_iadd 37 rfl dX9_save_36 ?_
    refine v_iald 38 rfl sc_47 dX9_save_37 (fun _ => ?_)
    refine n_iast 39 rfl sc_47 dX9_save_38 (fun h2 => ?_)
    refine n_iinc (fun x3 => [(0, .ref 40), (1, .int x3)]) 1 42 rfl dX9_save_39 rfl ic_1 (Nat.le_of_ble_eq_true rfl) rfl (fun _ => rfl) (fun x3 => ?_)
    refine v_goto 14 rfl dX9_save_42 ?_
    exact hk14 x3 h2
def f9_save_40_l14 : Nat → Int32 → jv_H → Option (Unit × jv_H)
  | 0 => fun _ _ => none
  | n + 1 => fun a1 h => g9_save_40_b14 (f9_save_40_l14 n) a1 h
theorem w9_save_40_l14 {l : Launch} {d : Nat} (hd : 0 ≤ d) : ∀ (n : Nat) (a1 : Int32) (h : jv_H), jv_V l RX9 cX9_save 2 none d (SC ++ SM) jv_rv 14 [(0, .ref 40), (1, .int a1)] [] h (f9_save_40_l14 n a1 h) := by
  intro n
  induction n with
  | zero => intro a1 h; exact v_none
  | succ n ih => intro a1 h; exact b9_save_40_b14 hd (f9_save_40_l14 n) ih a1 h
def f9_save_40 (h : jv_H) : Option (Unit × jv_H) := if jv_ix (19 : Int32) 210 then if (h.1 47 (Int32.toNatClampNeg (19 : Int32))) = (10 : Int32) then jv_let (0 : Int32) fun x1 => f9_save_40_l14 jv_fuel x1 h else g9_save_40_b54 h else none
set_option maxRecDepth 20000 in
theorem e9_save_40 {l : Launch} {d : Nat} (hd : 0 ≤ d) (h : jv_H) : jv_E l yX9_save cX9_save 2 none d (SC ++ SM) jv_rv [.ref 40] h (f9_save_40  h) := by
  refine e_of [(0, .ref 40)] rfl pn_X9 (fun _ => Nat.le_of_ble_eq_true rfl) (fun _ => rfl) ?_
  unfold f9_save_40
  refine v_aload_n 0 1 rfl dX9_save_0 rfl rfl ?_
  refine v_getr 4 rfl fl_X9_28 sc_40 rfl dX9_save_1 ?_
  refine v_bipush 6 rfl dX9_save_4 bp_19 ?_
  refine v_iald 7 rfl sc_47 dX9_save_6 (fun _ => ?_)
  refine v_bipush 9 rfl dX9_save_7 bp_10 ?_
  refine v_icmp_ne 54 12 rfl rfl dX9_save_9 (fun _ => ?_) (fun _ => ?_)
  · exact b9_save_40_b54 hd h
  · refine v_iconst 13 rfl dX9_save_12 ic_0 ?_
    refine n_istore_n (fun x1 => [(0, .ref 40), (1, .int x1)]) 14 rfl dX9_save_13 rfl (Nat.le_of_ble_eq_true rfl) rfl (fun _ => rfl) (fun x1 => ?_)
    exact w9_save_40_l14 hd jv_fuel x1 h
-- TemperNursesModel.sends(II)I at 40
def f9_sends_40 (a1 : Int32) (a2 : Int32) (h : jv_H) : Option (Int32 × jv_H) := (f9_isTemper_40 a1 h).bind fun q1 => if q1.1 = 0 then some ((-1 : Int32), q1.2) else (f9_isNurse_40 a2 q1.2).bind fun q2 => if q2.1 = 0 then some ((-1 : Int32), q2.2) else if jv_ix ((7 : Int32) + a1) 210 then if (q2.2.1 47 (Int32.toNatClampNeg ((7 : Int32) + a1))) = a2 then some ((-2 : Int32), q2.2) else (f9_maySend_40 a1 a2 q2.2).bind fun q3 => if q3.1 = 0 then some ((-2 : Int32), q3.2) else (f9_save_40 q3.2).bind fun q4 => if jv_ix ((7 : Int32) + a1) 210 then jv_let (jv_p q4.2 47 (Int32.toNatClampNeg ((7 : Int32) + a1)) a2) fun h5 => (f9_whom_40 a2 h5).bind fun q6 => (f9_bits q6.1 q6.2).bind fun q7 => some (q7.1, q7.2) else none else none
set_option maxRecDepth 20000 in
theorem e9_sends_40 {l : Launch} {d : Nat} (hd : 2 ≤ d) (a1 : Int32) (a2 : Int32) (h : jv_H) : jv_E l yX9_sends cX9_sends 3 (some .int) d (SC ++ SM) jv_ri [.ref 40, .int a1, .int a2] h (f9_sends_40 a1 a2 h) := by
  refine e_of [(0, .ref 40), (1, .int a1), (2, .int a2)] rfl pn_X9 (fun _ => Nat.le_of_ble_eq_true rfl) (fun _ => rfl) ?_
  unfold f9_sends_40
  refine v_aload_n 0 1 rfl dX9_sends_0 rfl rfl ?_
  refine v_iload_n 1 2 rfl dX9_sends_1 rfl rfl ?_
  refine n_callv [.int a1] [] (fun r => .int r :: []) 5 rfl (by omega) (Nat.le_of_ble_eq_true rfl) cb_X9_isTemper cv_X9_149 sc_40 cn_X9 rfl (Nat.le_of_ble_eq_true rfl) dX9_sends_2 rfl (fun _ => rfl) (e9_isTemper_40 (by omega) a1 h) (fun q1 => ?_)
  refine v_if_eq 16 8 rfl rfl dX9_sends_5 (fun _ => ?_) (fun _ => ?_)
  · refine v_iconst 17 rfl dX9_sends_16 ic_m1 ?_
    exact v_iret rfl dX9_sends_17
  · refine v_aload_n 0 9 rfl dX9_sends_8 rfl rfl ?_
    refine v_iload_n 2 10 rfl dX9_sends_9 rfl rfl ?_
    refine n_callv [.int a2] [] (fun r => .int r :: []) 13 rfl (by omega) (Nat.le_of_ble_eq_true rfl) cb_X9_isNurse cv_X9_157 sc_40 cn_X9 rfl (Nat.le_of_ble_eq_true rfl) dX9_sends_10 rfl (fun _ => rfl) (e9_isNurse_40 (by omega) a2 q1.2) (fun q2 => ?_)
    refine v_if_ne 18 16 rfl rfl dX9_sends_13 (fun _ => ?_) (fun _ => ?_)
    · refine v_aload_n 0 19 rfl dX9_sends_18 rfl rfl ?_
      refine v_getr 22 rfl fl_X9_28 sc_40 rfl dX9_sends_19 ?_
      refine v_bipush 24 rfl dX9_sends_22 bp_7 ?_
      refine v_iload_n 1 25 rfl dX9_sends_24 rfl rfl ?_
      refine v_iadd 26 rfl dX9_sends_25 ?_
      refine v_iald 27 rfl sc_47 dX9_sends_26 (fun _ => ?_)
      refine v_iload_n 2 28 rfl dX9_sends_27 rfl rfl ?_
      refine v_icmp_eq 40 31 rfl rfl dX9_sends_28 (fun _ => ?_) (fun _ => ?_)
      · refine v_bipush 42 rfl dX9_sends_40 bp_m2 ?_
        exact v_iret rfl dX9_sends_42
      · refine v_aload_n 0 32 rfl dX9_sends_31 rfl rfl ?_
        refine v_iload_n 1 33 rfl dX9_sends_32 rfl rfl ?_
        refine v_iload_n 2 34 rfl dX9_sends_33 rfl rfl ?_
        refine n_callv [.int a1, .int a2] [] (fun r => .int r :: []) 37 rfl (by omega) (Nat.le_of_ble_eq_true rfl) cb_X9_maySend cv_X9_162 sc_40 cn_X9 rfl (Nat.le_of_ble_eq_true rfl) dX9_sends_34 rfl (fun _ => rfl) (e9_maySend_40 (by omega) a1 a2 q2.2) (fun q3 => ?_)
        refine v_if_ne 43 40 rfl rfl dX9_sends_37 (fun _ => ?_) (fun _ => ?_)
        · refine v_aload_n 0 44 rfl dX9_sends_43 rfl rfl ?_
          refine n_callv [] [] (fun _ => []) 47 rfl (by omega) (Nat.le_of_ble_eq_true rfl) cb_X9_save cv_X9_166 sc_40 cn_X9 rfl (Nat.le_of_ble_eq_true rfl) dX9_sends_44 rfl (fun _ => rfl) (e9_save_40 (by omega)  q3.2) (fun q4 => ?_)
          refine v_aload_n 0 48 rfl dX9_sends_47 rfl rfl ?_
          refine v_getr 51 rfl fl_X9_28 sc_40 rfl dX9_sends_48 ?_
          refine v_bipush 53 rfl dX9_sends_51 bp_7 ?_
          refine v_iload_n 1 54 rfl dX9_sends_53 rfl rfl ?_
          refine v_iadd 55 rfl dX9_sends_54 ?_
          refine v_iload_n 2 56 rfl dX9_sends_55 rfl rfl ?_
          refine n_iast 57 rfl sc_47 dX9_sends_56 (fun h5 => ?_)
          refine v_aload_n 0 58 rfl dX9_sends_57 rfl rfl ?_
          refine v_iload_n 2 59 rfl dX9_sends_58 rfl rfl ?_
          refine n_callv [.int a2] [] (fun r => .int r :: []) 62 rfl (by omega) (Nat.le_of_ble_eq_true rfl) cb_X9_whom cv_X9_139 sc_40 cn_X9 rfl (Nat.le_of_ble_eq_true rfl) dX9_sends_59 rfl (fun _ => rfl) (e9_whom_40 (by omega) a2 h5) (fun q6 => ?_)
          refine n_calls [.int q6.1] [] (fun r => .int r :: []) 65 rfl (by omega) (Nat.le_of_ble_eq_true rfl) cb_X9_bits cs_X9_146 rfl (Nat.le_of_ble_eq_true rfl) dX9_sends_62 rfl (fun _ => rfl) (e9_bits (by omega) q6.1 q6.2) (fun q7 => ?_)
          exact v_iret rfl dX9_sends_65
        · refine v_bipush 42 rfl dX9_sends_40 bp_m2 ?_
          exact v_iret rfl dX9_sends_42
    · refine v_iconst 17 rfl dX9_sends_16 ic_m1 ?_
      exact v_iret rfl dX9_sends_17
-- TemperNursesModel.fetches(I)I at 40
def f9_fetches_40 (a1 : Int32) (h : jv_H) : Option (Int32 × jv_H) := (f9_isTemper_40 a1 h).bind fun q1 => if q1.1 = 0 then some ((-1 : Int32), q1.2) else if jv_ix ((7 : Int32) + a1) 210 then jv_let (q1.2.1 47 (Int32.toNatClampNeg ((7 : Int32) + a1))) fun x2 => if x2 = (-9 : Int32) then some ((-2 : Int32), q1.2) else (f9_save_40 q1.2).bind fun q3 => if jv_ix ((7 : Int32) + a1) 210 then jv_let (jv_p q3.2 47 (Int32.toNatClampNeg ((7 : Int32) + a1)) (-9 : Int32)) fun h4 => some (x2, h4) else none else none
set_option maxRecDepth 20000 in
theorem e9_fetches_40 {l : Launch} {d : Nat} (hd : 2 ≤ d) (a1 : Int32) (h : jv_H) : jv_E l yX9_fetches cX9_fetches 3 (some .int) d (SC ++ SM) jv_ri [.ref 40, .int a1] h (f9_fetches_40 a1 h) := by
  refine e_of [(0, .ref 40), (1, .int a1)] rfl pn_X9 (fun _ => Nat.le_of_ble_eq_true rfl) (fun _ => rfl) ?_
  unfold f9_fetches_40
  refine v_aload_n 0 1 rfl dX9_fetches_0 rfl rfl ?_
  refine v_iload_n 1 2 rfl dX9_fetches_1 rfl rfl ?_
  refine n_callv [.int a1] [] (fun r => .int r :: []) 5 rfl (by omega) (Nat.le_of_ble_eq_true rfl) cb_X9_isTemper cv_X9_149 sc_40 cn_X9 rfl (Nat.le_of_ble_eq_true rfl) dX9_fetches_2 rfl (fun _ => rfl) (e9_isTemper_40 (by omega) a1 h) (fun q1 => ?_)
  refine v_if_ne 10 8 rfl rfl dX9_fetches_5 (fun _ => ?_) (fun _ => ?_)
  · refine v_aload_n 0 11 rfl dX9_fetches_10 rfl rfl ?_
    refine v_getr 14 rfl fl_X9_28 sc_40 rfl dX9_fetches_11 ?_
    refine v_bipush 16 rfl dX9_fetches_14 bp_7 ?_
    refine v_iload_n 1 17 rfl dX9_fetches_16 rfl rfl ?_
    refine v_iadd 18 rfl dX9_fetches_17 ?_
    refine v_iald 19 rfl sc_47 dX9_fetches_18 (fun _ => ?_)
    refine n_istore_n (fun x2 => [(0, .ref 40), (1, .int a1), (2, .int x2)]) 20 rfl dX9_fetches_19 rfl (Nat.le_of_ble_eq_true rfl) rfl (fun _ => rfl) (fun x2 => ?_)
    refine v_iload_n 2 21 rfl dX9_fetches_20 rfl rfl ?_
    refine v_bipush 23 rfl dX9_fetches_21 bp_m9 ?_
    refine v_icmp_ne 29 26 rfl rfl dX9_fetches_23 (fun _ => ?_) (fun _ => ?_)
    · refine v_aload_n 0 30 rfl dX9_fetches_29 rfl rfl ?_
      refine n_callv [] [] (fun _ => []) 33 rfl (by omega) (Nat.le_of_ble_eq_true rfl) cb_X9_save cv_X9_166 sc_40 cn_X9 rfl (Nat.le_of_ble_eq_true rfl) dX9_fetches_30 rfl (fun _ => rfl) (e9_save_40 (by omega)  q1.2) (fun q3 => ?_)
      refine v_aload_n 0 34 rfl dX9_fetches_33 rfl rfl ?_
      refine v_getr 37 rfl fl_X9_28 sc_40 rfl dX9_fetches_34 ?_
      refine v_bipush 39 rfl dX9_fetches_37 bp_7 ?_
      refine v_iload_n 1 40 rfl dX9_fetches_39 rfl rfl ?_
      refine v_iadd 41 rfl dX9_fetches_40 ?_
      refine v_bipush 43 rfl dX9_fetches_41 bp_m9 ?_
      refine n_iast 44 rfl sc_47 dX9_fetches_43 (fun h4 => ?_)
      refine v_iload_n 2 45 rfl dX9_fetches_44 rfl rfl ?_
      exact v_iret rfl dX9_fetches_45
    · refine v_bipush 28 rfl dX9_fetches_26 bp_m2 ?_
      exact v_iret rfl dX9_fetches_28
  · refine v_iconst 9 rfl dX9_fetches_8 ic_m1 ?_
    exact v_iret rfl dX9_fetches_9
-- TemperNursesModel.visits(I)I at 40
def f9_visits_40 (a1 : Int32) (h : jv_H) : Option (Int32 × jv_H) := (f9_isTemper_40 a1 h).bind fun q1 => if q1.1 = 0 then some ((-1 : Int32), q1.2) else if jv_ix ((7 : Int32) + a1) 210 then if (q1.2.1 47 (Int32.toNatClampNeg ((7 : Int32) + a1))) = (-9 : Int32) then some ((-2 : Int32), q1.2) else (f9_heat_40 a1 q1.2).bind fun q2 => if q2.1 = 0 then some ((-2 : Int32), q2.2) else (f9_save_40 q2.2).bind fun q3 => if jv_ix ((1 : Int32) + a1) 210 then if jv_ix ((1 : Int32) + a1) 210 then jv_let (jv_p q3.2 47 (Int32.toNatClampNeg ((1 : Int32) + a1)) ((q3.2.1 47 (Int32.toNatClampNeg ((1 : Int32) + a1))) - (1 : Int32))) fun h4 => (f9_heat_40 a1 h4).bind fun q5 => some (q5.1, q5.2) else none else none else none
set_option maxRecDepth 20000 in
theorem e9_visits_40 {l : Launch} {d : Nat} (hd : 2 ≤ d) (a1 : Int32) (h : jv_H) : jv_E l yX9_visits cX9_visits 2 (some .int) d (SC ++ SM) jv_ri [.ref 40, .int a1] h (f9_visits_40 a1 h) := by
  refine e_of [(0, .ref 40), (1, .int a1)] rfl pn_X9 (fun _ => Nat.le_of_ble_eq_true rfl) (fun _ => rfl) ?_
  unfold f9_visits_40
  refine v_aload_n 0 1 rfl dX9_visits_0 rfl rfl ?_
  refine v_iload_n 1 2 rfl dX9_visits_1 rfl rfl ?_
  refine n_callv [.int a1] [] (fun r => .int r :: []) 5 rfl (by omega) (Nat.le_of_ble_eq_true rfl) cb_X9_isTemper cv_X9_149 sc_40 cn_X9 rfl (Nat.le_of_ble_eq_true rfl) dX9_visits_2 rfl (fun _ => rfl) (e9_isTemper_40 (by omega) a1 h) (fun q1 => ?_)
  refine v_if_ne 10 8 rfl rfl dX9_visits_5 (fun _ => ?_) (fun _ => ?_)
  · refine v_aload_n 0 11 rfl dX9_visits_10 rfl rfl ?_
    refine v_getr 14 rfl fl_X9_28 sc_40 rfl dX9_visits_11 ?_
    refine v_bipush 16 rfl dX9_visits_14 bp_7 ?_
    refine v_iload_n 1 17 rfl dX9_visits_16 rfl rfl ?_
    refine v_iadd 18 rfl dX9_visits_17 ?_
    refine v_iald 19 rfl sc_47 dX9_visits_18 (fun _ => ?_)
    refine v_bipush 21 rfl dX9_visits_19 bp_m9 ?_
    refine v_icmp_eq 32 24 rfl rfl dX9_visits_21 (fun _ => ?_) (fun _ => ?_)
    · refine v_bipush 34 rfl dX9_visits_32 bp_m2 ?_
      exact v_iret rfl dX9_visits_34
    · refine v_aload_n 0 25 rfl dX9_visits_24 rfl rfl ?_
      refine v_iload_n 1 26 rfl dX9_visits_25 rfl rfl ?_
      refine n_callv [.int a1] [] (fun r => .int r :: []) 29 rfl (by omega) (Nat.le_of_ble_eq_true rfl) cb_X9_heat cv_X9_143 sc_40 cn_X9 rfl (Nat.le_of_ble_eq_true rfl) dX9_visits_26 rfl (fun _ => rfl) (e9_heat_40 (by omega) a1 q1.2) (fun q2 => ?_)
      refine v_if_ne 35 32 rfl rfl dX9_visits_29 (fun _ => ?_) (fun _ => ?_)
      · refine v_aload_n 0 36 rfl dX9_visits_35 rfl rfl ?_
        refine n_callv [] [] (fun _ => []) 39 rfl (by omega) (Nat.le_of_ble_eq_true rfl) cb_X9_save cv_X9_166 sc_40 cn_X9 rfl (Nat.le_of_ble_eq_true rfl) dX9_visits_36 rfl (fun _ => rfl) (e9_save_40 (by omega)  q2.2) (fun q3 => ?_)
        refine v_aload_n 0 40 rfl dX9_visits_39 rfl rfl ?_
        refine v_getr 43 rfl fl_X9_28 sc_40 rfl dX9_visits_40 ?_
        refine v_iconst 44 rfl dX9_visits_43 ic_1 ?_
        refine v_iload_n 1 45 rfl dX9_visits_44 rfl rfl ?_
        refine v_iadd 46 rfl dX9_visits_45 ?_
        refine v_dup2 47 rfl dX9_visits_46 ?_
        refine v_iald 48 rfl sc_47 dX9_visits_47 (fun _ => ?_)
        refine v_iconst 49 rfl dX9_visits_48 ic_1 ?_
        refine v_isub 50 rfl dX9_visits_49 ?_
        refine n_iast 51 rfl sc_47 dX9_visits_50 (fun h4 => ?_)
        refine v_aload_n 0 52 rfl dX9_visits_51 rfl rfl ?_
        refine v_iload_n 1 53 rfl dX9_visits_52 rfl rfl ?_
        refine n_callv [.int a1] [] (fun r => .int r :: []) 56 rfl (by omega) (Nat.le_of_ble_eq_true rfl) cb_X9_heat cv_X9_143 sc_40 cn_X9 rfl (Nat.le_of_ble_eq_true rfl) dX9_visits_53 rfl (fun _ => rfl) (e9_heat_40 (by omega) a1 h4) (fun q5 => ?_)
        exact v_iret rfl dX9_visits_56
      · refine v_bipush 34 rfl dX9_visits_32 bp_m2 ?_
        exact v_iret rfl dX9_visits_34
  · refine v_iconst 9 rfl dX9_visits_8 ic_m1 ?_
    exact v_iret rfl dX9_visits_9
-- TemperNursesModel.right()I at 40
def g9_right_40_b51 (k4 : Int32 → Int32 → jv_H → Option (Int32 × jv_H)) (a2 : Int32) (s0 : Int32) (s1 : Int32) (h : jv_H) : Option (Int32 × jv_H) := jv_let (s0 + s1) fun x1 => jv_let (a2 + (1 : Int32)) fun x2 => k4 x1 x2 h
set_option maxRecDepth 20000 in
theorem b9_right_40_b51 {l : Launch} {d : Nat} (hd : 0 ≤ d) (k4 : Int32 → Int32 → jv_H → Option (Int32 × jv_H)) (hk4 : ∀ (a1 a2 : Int32) (h : jv_H), jv_V l RX9 cX9_right 4 (some .int) d (SC ++ SM) jv_ri 4 [(0, .ref 40), (1, .int a1), (2, .int a2)] [] h (k4 a1 a2 h)) : ∀ (a2 : Int32) (s0 : Int32) (s1 : Int32) (h : jv_H), jv_V l RX9 cX9_right 4 (some .int) d (SC ++ SM) jv_ri 51 [(0, .ref 40), (2, .int a2)] [.int s1, .int s0] h (g9_right_40_b51 k4 a2 s0 s1 h) := by
  intro a2 s0 s1 h
  unfold g9_right_40_b51
  refine v_iadd 52 rfl dX9_right_51 ?_
  refine n_istore_n (fun x1 => [(0, .ref 40), (2, .int a2), (1, .int x1)]) 53 rfl dX9_right_52 rfl (Nat.le_of_ble_eq_true rfl) rfl (fun _ => rfl) (fun x1 => ?_)
  refine n_iinc (fun x2 => [(0, .ref 40), (2, .int x2), (1, .int x1)]) 1 56 rfl dX9_right_53 rfl ic_1 (Nat.le_of_ble_eq_true rfl) rfl (fun _ => rfl) (fun x2 => ?_)
  refine v_goto 4 rfl dX9_right_56 ?_
  refine v_sub [0, 2, 1] rfl ?_
  exact hk4 x1 x2 h
def g9_right_40_b22 (k4 : Int32 → Int32 → jv_H → Option (Int32 × jv_H)) (k22 : Int32 → Int32 → Int32 → jv_H → Option (Int32 × jv_H)) (a1 : Int32) (a2 : Int32) (a3 : Int32) (h : jv_H) : Option (Int32 × jv_H) := if a3 ≤ a2 then if a3 = a2 then g9_right_40_b51 k4 a2 a1 (1 : Int32) h else g9_right_40_b51 k4 a2 a1 (0 : Int32) h else if jv_ix ((13 : Int32) + a3) 210 then jv_let (h.1 47 (Int32.toNatClampNeg ((13 : Int32) + a3))) fun x1 => k22 a1 a2 x1 h else none
set_option maxRecDepth 20000 in
theorem b9_right_40_b22 {l : Launch} {d : Nat} (hd : 0 ≤ d) (k4 : Int32 → Int32 → jv_H → Option (Int32 × jv_H)) (hk4 : ∀ (a1 a2 : Int32) (h : jv_H), jv_V l RX9 cX9_right 4 (some .int) d (SC ++ SM) jv_ri 4 [(0, .ref 40), (1, .int a1), (2, .int a2)] [] h (k4 a1 a2 h)) (k22 : Int32 → Int32 → Int32 → jv_H → Option (Int32 × jv_H)) (hk22 : ∀ (a1 a2 a3 : Int32) (h : jv_H), jv_V l RX9 cX9_right 4 (some .int) d (SC ++ SM) jv_ri 22 [(0, .ref 40), (1, .int a1), (2, .int a2), (3, .int a3)] [] h (k22 a1 a2 a3 h)) : ∀ (a1 : Int32) (a2 : Int32) (a3 : Int32) (h : jv_H), jv_V l RX9 cX9_right 4 (some .int) d (SC ++ SM) jv_ri 22 [(0, .ref 40), (1, .int a1), (2, .int a2), (3, .int a3)] [] h (g9_right_40_b22 k4 k22 a1 a2 a3 h) := by
  intro a1 a2 a3 h
  unfold g9_right_40_b22
  refine v_iload_n 3 23 rfl dX9_right_22 rfl rfl ?_
  refine v_iload_n 2 24 rfl dX9_right_23 rfl rfl ?_
  refine v_icmp_le 40 27 rfl rfl dX9_right_24 (fun _ => ?_) (fun _ => ?_)
  · refine v_iload_n 1 41 rfl dX9_right_40 rfl rfl ?_
    refine v_iload_n 3 42 rfl dX9_right_41 rfl rfl ?_
    refine v_iload_n 2 43 rfl dX9_right_42 rfl rfl ?_
    refine v_icmp_ne 50 46 rfl rfl dX9_right_43 (fun _ => ?_) (fun _ => ?_)
    · refine v_iconst 51 rfl dX9_right_50 ic_0 ?_
      refine v_sub [0, 2] rfl ?_
      exact b9_right_40_b51 hd k4 hk4 a2 a1 (0 : Int32) h
    · refine v_iconst 47 rfl dX9_right_46 ic_1 ?_
      refine v_goto 51 rfl dX9_right_47 ?_
      refine v_sub [0, 2] rfl ?_
      exact b9_right_40_b51 hd k4 hk4 a2 a1 (1 : Int32) h
  · refine v_aload_n 0 28 rfl dX9_right_27 rfl rfl ?_
    refine v_getr 31 rfl fl_X9_28 sc_40 rfl dX9_right_28 ?_
    refine v_bipush 33 rfl dX9_right_31 bp_13 ?_
    refine v_iload_n 3 34 rfl dX9_right_33 rfl rfl ?_
    refine v_iadd 35 rfl dX9_right_34 ?_
    refine v_iald 36 rfl sc_47 dX9_right_35 (fun _ => ?_)
    refine n_istore_n (fun x1 => [(0, .ref 40), (1, .int a1), (2, .int a2), (3, .int x1)]) 37 rfl dX9_right_36 rfl (Nat.le_of_ble_eq_true rfl) rfl (fun _ => rfl) (fun x1 => ?_)
    refine v_goto 22 rfl dX9_right_37 ?_
    exact hk22 a1 a2 x1 h
def f9_right_40_l22 (k4 : Int32 → Int32 → jv_H → Option (Int32 × jv_H)) : Nat → Int32 → Int32 → Int32 → jv_H → Option (Int32 × jv_H)
  | 0 => fun _ _ _ _ => none
  | n + 1 => fun a1 a2 a3 h => g9_right_40_b22 k4 (f9_right_40_l22 k4 n) a1 a2 a3 h
theorem w9_right_40_l22 {l : Launch} {d : Nat} (hd : 0 ≤ d) (k4 : Int32 → Int32 → jv_H → Option (Int32 × jv_H)) (hk4 : ∀ (a1 a2 : Int32) (h : jv_H), jv_V l RX9 cX9_right 4 (some .int) d (SC ++ SM) jv_ri 4 [(0, .ref 40), (1, .int a1), (2, .int a2)] [] h (k4 a1 a2 h)) : ∀ (n : Nat) (a1 : Int32) (a2 : Int32) (a3 : Int32) (h : jv_H), jv_V l RX9 cX9_right 4 (some .int) d (SC ++ SM) jv_ri 22 [(0, .ref 40), (1, .int a1), (2, .int a2), (3, .int a3)] [] h (f9_right_40_l22 k4 n a1 a2 a3 h) := by
  intro n
  induction n with
  | zero => intro a1 a2 a3 h; exact v_none
  | succ n ih => intro a1 a2 a3 h; exact b9_right_40_b22 hd k4 hk4 (f9_right_40_l22 k4 n) ih a1 a2 a3 h
def g9_right_40_b4 (k4 : Int32 → Int32 → jv_H → Option (Int32 × jv_H)) (a1 : Int32) (a2 : Int32) (h : jv_H) : Option (Int32 × jv_H) := if (h.1 40 0) ≤ a2 then some (((h.1 40 0) - a1), h) else if jv_ix ((13 : Int32) + a2) 210 then jv_let (h.1 47 (Int32.toNatClampNeg ((13 : Int32) + a2))) fun x1 => f9_right_40_l22 k4 jv_fuel a1 a2 x1 h else none
set_option maxRecDepth 20000 in
theorem b9_right_40_b4 {l : Launch} {d : Nat} (hd : 0 ≤ d) (k4 : Int32 → Int32 → jv_H → Option (Int32 × jv_H)) (hk4 : ∀ (a1 a2 : Int32) (h : jv_H), jv_V l RX9 cX9_right 4 (some .int) d (SC ++ SM) jv_ri 4 [(0, .ref 40), (1, .int a1), (2, .int a2)] [] h (k4 a1 a2 h)) : ∀ (a1 : Int32) (a2 : Int32) (h : jv_H), jv_V l RX9 cX9_right 4 (some .int) d (SC ++ SM) jv_ri 4 [(0, .ref 40), (1, .int a1), (2, .int a2)] [] h (g9_right_40_b4 k4 a1 a2 h) := by
  intro a1 a2 h
  unfold g9_right_40_b4
  refine v_iload_n 2 5 rfl dX9_right_4 rfl rfl ?_
  refine v_aload_n 0 6 rfl dX9_right_5 rfl rfl ?_
  refine v_geti 9 rfl fl_X9_71 sc_40 rfl dX9_right_6 ?_
  refine v_icmp_ge 59 12 rfl rfl dX9_right_9 (fun _ => ?_) (fun _ => ?_)
  · refine v_aload_n 0 60 rfl dX9_right_59 rfl rfl ?_
    refine v_geti 63 rfl fl_X9_71 sc_40 rfl dX9_right_60 ?_
    refine v_iload_n 1 64 rfl dX9_right_63 rfl rfl ?_
    refine v_isub 65 rfl dX9_right_64 ?_
    exact v_iret rfl dX9_right_65
  · refine v_aload_n 0 13 rfl dX9_right_12 rfl rfl ?_
    refine v_getr 16 rfl fl_X9_28 sc_40 rfl dX9_right_13 ?_
    refine v_bipush 18 rfl dX9_right_16 bp_13 ?_
    refine v_iload_n 2 19 rfl dX9_right_18 rfl rfl ?_
    refine v_iadd 20 rfl dX9_right_19 ?_
    refine v_iald 21 rfl sc_47 dX9_right_20 (fun _ => ?_)
    refine n_istore_n (fun x1 => [(0, .ref 40), (1, .int a1), (2, .int a2), (3, .int x1)]) 22 rfl dX9_right_21 rfl (Nat.le_of_ble_eq_true rfl) rfl (fun _ => rfl) (fun x1 => ?_)
    exact w9_right_40_l22 hd k4 hk4 jv_fuel a1 a2 x1 h
def f9_right_40_l4 : Nat → Int32 → Int32 → jv_H → Option (Int32 × jv_H)
  | 0 => fun _ _ _ => none
  | n + 1 => fun a1 a2 h => g9_right_40_b4 (f9_right_40_l4 n) a1 a2 h
theorem w9_right_40_l4 {l : Launch} {d : Nat} (hd : 0 ≤ d) : ∀ (n : Nat) (a1 : Int32) (a2 : Int32) (h : jv_H), jv_V l RX9 cX9_right 4 (some .int) d (SC ++ SM) jv_ri 4 [(0, .ref 40), (1, .int a1), (2, .int a2)] [] h (f9_right_40_l4 n a1 a2 h) := by
  intro n
  induction n with
  | zero => intro a1 a2 h; exact v_none
  | succ n ih => intro a1 a2 h; exact b9_right_40_b4 hd (f9_right_40_l4 n) ih a1 a2 h
def f9_right_40 (h : jv_H) : Option (Int32 × jv_H) := jv_let (0 : Int32) fun x1 => jv_let (0 : Int32) fun x2 => f9_right_40_l4 jv_fuel x1 x2 h
set_option maxRecDepth 20000 in
theorem e9_right_40 {l : Launch} {d : Nat} (hd : 0 ≤ d) (h : jv_H) : jv_E l yX9_right cX9_right 4 (some .int) d (SC ++ SM) jv_ri [.ref 40] h (f9_right_40  h) := by
  refine e_of [(0, .ref 40)] rfl pn_X9 (fun _ => Nat.le_of_ble_eq_true rfl) (fun _ => rfl) ?_
  unfold f9_right_40
  refine v_iconst 1 rfl dX9_right_0 ic_0 ?_
  refine n_istore_n (fun x1 => [(0, .ref 40), (1, .int x1)]) 2 rfl dX9_right_1 rfl (Nat.le_of_ble_eq_true rfl) rfl (fun _ => rfl) (fun x1 => ?_)
  refine v_iconst 3 rfl dX9_right_2 ic_0 ?_
  refine n_istore_n (fun x2 => [(0, .ref 40), (1, .int x1), (2, .int x2)]) 4 rfl dX9_right_3 rfl (Nat.le_of_ble_eq_true rfl) rfl (fun _ => rfl) (fun x2 => ?_)
  exact w9_right_40_l4 hd jv_fuel x1 x2 h
-- TemperNursesModel.mixes(II)I at 40
def f9_mixes_40 (a1 : Int32) (a2 : Int32) (h : jv_H) : Option (Int32 × jv_H) := (f9_isTemper_40 a1 h).bind fun q1 => if q1.1 = 0 then some ((-1 : Int32), q1.2) else (f9_isTemper_40 a2 q1.2).bind fun q2 => if q2.1 = 0 then some ((-1 : Int32), q2.2) else if a1 = a2 then some ((-1 : Int32), q2.2) else (f9_save_40 q2.2).bind fun q3 => if jv_ix ((13 : Int32) + a1) 210 then jv_let (q3.2.1 47 (Int32.toNatClampNeg ((13 : Int32) + a1))) fun x4 => if jv_ix ((13 : Int32) + a2) 210 then if jv_ix ((13 : Int32) + a1) 210 then jv_let (jv_p q3.2 47 (Int32.toNatClampNeg ((13 : Int32) + a1)) (q3.2.1 47 (Int32.toNatClampNeg ((13 : Int32) + a2)))) fun h5 => if jv_ix ((13 : Int32) + a2) 210 then jv_let (jv_p h5 47 (Int32.toNatClampNeg ((13 : Int32) + a2)) x4) fun h6 => (f9_right_40 h6).bind fun q7 => some (q7.1, q7.2) else none else none else none else none
set_option maxRecDepth 20000 in
theorem e9_mixes_40 {l : Launch} {d : Nat} (hd : 2 ≤ d) (a1 : Int32) (a2 : Int32) (h : jv_H) : jv_E l yX9_mixes cX9_mixes 4 (some .int) d (SC ++ SM) jv_ri [.ref 40, .int a1, .int a2] h (f9_mixes_40 a1 a2 h) := by
  refine e_of [(0, .ref 40), (1, .int a1), (2, .int a2)] rfl pn_X9 (fun _ => Nat.le_of_ble_eq_true rfl) (fun _ => rfl) ?_
  unfold f9_mixes_40
  refine v_aload_n 0 1 rfl dX9_mixes_0 rfl rfl ?_
  refine v_iload_n 1 2 rfl dX9_mixes_1 rfl rfl ?_
  refine n_callv [.int a1] [] (fun r => .int r :: []) 5 rfl (by omega) (Nat.le_of_ble_eq_true rfl) cb_X9_isTemper cv_X9_149 sc_40 cn_X9 rfl (Nat.le_of_ble_eq_true rfl) dX9_mixes_2 rfl (fun _ => rfl) (e9_isTemper_40 (by omega) a1 h) (fun q1 => ?_)
  refine v_if_eq 21 8 rfl rfl dX9_mixes_5 (fun _ => ?_) (fun _ => ?_)
  · refine v_iconst 22 rfl dX9_mixes_21 ic_m1 ?_
    exact v_iret rfl dX9_mixes_22
  · refine v_aload_n 0 9 rfl dX9_mixes_8 rfl rfl ?_
    refine v_iload_n 2 10 rfl dX9_mixes_9 rfl rfl ?_
    refine n_callv [.int a2] [] (fun r => .int r :: []) 13 rfl (by omega) (Nat.le_of_ble_eq_true rfl) cb_X9_isTemper cv_X9_149 sc_40 cn_X9 rfl (Nat.le_of_ble_eq_true rfl) dX9_mixes_10 rfl (fun _ => rfl) (e9_isTemper_40 (by omega) a2 q1.2) (fun q2 => ?_)
    refine v_if_eq 21 16 rfl rfl dX9_mixes_13 (fun _ => ?_) (fun _ => ?_)
    · refine v_iconst 22 rfl dX9_mixes_21 ic_m1 ?_
      exact v_iret rfl dX9_mixes_22
    · refine v_iload_n 1 17 rfl dX9_mixes_16 rfl rfl ?_
      refine v_iload_n 2 18 rfl dX9_mixes_17 rfl rfl ?_
      refine v_icmp_ne 23 21 rfl rfl dX9_mixes_18 (fun _ => ?_) (fun _ => ?_)
      · refine v_aload_n 0 24 rfl dX9_mixes_23 rfl rfl ?_
        refine n_callv [] [] (fun _ => []) 27 rfl (by omega) (Nat.le_of_ble_eq_true rfl) cb_X9_save cv_X9_166 sc_40 cn_X9 rfl (Nat.le_of_ble_eq_true rfl) dX9_mixes_24 rfl (fun _ => rfl) (e9_save_40 (by omega)  q2.2) (fun q3 => ?_)
        refine v_aload_n 0 28 rfl dX9_mixes_27 rfl rfl ?_
        refine v_getr 31 rfl fl_X9_28 sc_40 rfl dX9_mixes_28 ?_
        refine v_bipush 33 rfl dX9_mixes_31 bp_13 ?_
        refine v_iload_n 1 34 rfl dX9_mixes_33 rfl rfl ?_
        refine v_iadd 35 rfl dX9_mixes_34 ?_
        refine v_iald 36 rfl sc_47 dX9_mixes_35 (fun _ => ?_)
        refine n_istore_n (fun x4 => [(0, .ref 40), (1, .int a1), (2, .int a2), (3, .int x4)]) 37 rfl dX9_mixes_36 rfl (Nat.le_of_ble_eq_true rfl) rfl (fun _ => rfl) (fun x4 => ?_)
        refine v_aload_n 0 38 rfl dX9_mixes_37 rfl rfl ?_
        refine v_getr 41 rfl fl_X9_28 sc_40 rfl dX9_mixes_38 ?_
        refine v_bipush 43 rfl dX9_mixes_41 bp_13 ?_
        refine v_iload_n 1 44 rfl dX9_mixes_43 rfl rfl ?_
        refine v_iadd 45 rfl dX9_mixes_44 ?_
        refine v_aload_n 0 46 rfl dX9_mixes_45 rfl rfl ?_
        refine v_getr 49 rfl fl_X9_28 sc_40 rfl dX9_mixes_46 ?_
        refine v_bipush 51 rfl dX9_mixes_49 bp_13 ?_
        refine v_iload_n 2 52 rfl dX9_mixes_51 rfl rfl ?_
        refine v_iadd 53 rfl dX9_mixes_52 ?_
        refine v_iald 54 rfl sc_47 dX9_mixes_53 (fun _ => ?_)
        refine n_iast 55 rfl sc_47 dX9_mixes_54 (fun h5 => ?_)
        refine v_aload_n 0 56 rfl dX9_mixes_55 rfl rfl ?_
        refine v_getr 59 rfl fl_X9_28 sc_40 rfl dX9_mixes_56 ?_
        refine v_bipush 61 rfl dX9_mixes_59 bp_13 ?_
        refine v_iload_n 2 62 rfl dX9_mixes_61 rfl rfl ?_
        refine v_iadd 63 rfl dX9_mixes_62 ?_
        refine v_iload_n 3 64 rfl dX9_mixes_63 rfl rfl ?_
        refine n_iast 65 rfl sc_47 dX9_mixes_64 (fun h6 => ?_)
        refine v_aload_n 0 66 rfl dX9_mixes_65 rfl rfl ?_
        refine n_callv [] [] (fun r => .int r :: []) 69 rfl (by omega) (Nat.le_of_ble_eq_true rfl) cb_X9_right cv_X9_169 sc_40 cn_X9 rfl (Nat.le_of_ble_eq_true rfl) dX9_mixes_66 rfl (fun _ => rfl) (e9_right_40 (by omega)  h6) (fun q7 => ?_)
        exact v_iret rfl dX9_mixes_69
      · refine v_iconst 22 rfl dX9_mixes_21 ic_m1 ?_
        exact v_iret rfl dX9_mixes_22
