-- TemperNursesModel.hot(II)I at 40
def f9_hot_40 (a1 : Int32) (a2 : Int32) (h : jv_H) : Option (Int32 × jv_H) := (f9_isTemper_40 a1 h).bind fun q1 => if q1.1 = 0 then some ((-1 : Int32), q1.2) else (f9_in (Int32.toInt64 a2) (0 : Int64) (99 : Int64) q1.2).bind fun q2 => if q2.1 = 0 then some ((-1 : Int32), q2.2) else (f9_hotIn_40 a1 a2 q2.2).bind fun q3 => some (q3.1, q3.2)
set_option maxRecDepth 20000 in
theorem e9_hot_40 {l : Launch} {d : Nat} (hd : 2 ≤ d) (a1 : Int32) (a2 : Int32) (h : jv_H) : jv_E l yX9_hot cX9_hot 3 (some .int) d (SC ++ SM) jv_ri [.ref 40, .int a1, .int a2] h (f9_hot_40 a1 a2 h) := by
  refine e_of [(0, .ref 40), (1, .int a1), (2, .int a2)] rfl pn_X9 (fun _ => Nat.le_of_ble_eq_true rfl) (fun _ => rfl) ?_
  unfold f9_hot_40
  refine v_aload_n 0 1 rfl dX9_hot_0 rfl rfl ?_
  refine v_iload_n 1 2 rfl dX9_hot_1 rfl rfl ?_
  refine n_callv [.int a1] [] (fun r => .int r :: []) 5 rfl (by omega) (Nat.le_of_ble_eq_true rfl) cb_X9_isTemper cv_X9_149 sc_40 cn_X9 rfl (Nat.le_of_ble_eq_true rfl) dX9_hot_2 rfl (fun _ => rfl) (e9_isTemper_40 (by omega) a1 h) (fun q1 => ?_)
  refine v_if_eq 29 8 rfl rfl dX9_hot_5 (fun _ => ?_) (fun _ => ?_)
  · refine v_iconst 30 rfl dX9_hot_29 ic_m1 ?_
    exact v_iret rfl dX9_hot_30
  · refine v_iload_n 2 9 rfl dX9_hot_8 rfl rfl ?_
    refine v_i2l 10 rfl dX9_hot_9 ?_
    refine v_lconst (v := (0 : Int64)) 11 rfl dX9_hot_10 rfl ?_
    refine v_ldc2 14 rfl mw_1068 dX9_hot_11 ?_
    refine n_calls [.long (Int32.toInt64 a2), .long (0 : Int64), .long (99 : Int64)] [] (fun r => .int r :: []) 17 rfl (by omega) (Nat.le_of_ble_eq_true rfl) cb_X9_in cs_X9_75 rfl (Nat.le_of_ble_eq_true rfl) dX9_hot_14 rfl (fun _ => rfl) (e9_in (by omega) (Int32.toInt64 a2) (0 : Int64) (99 : Int64) q1.2) (fun q2 => ?_)
    refine v_if_eq 29 20 rfl rfl dX9_hot_17 (fun _ => ?_) (fun _ => ?_)
    · refine v_iconst 30 rfl dX9_hot_29 ic_m1 ?_
      exact v_iret rfl dX9_hot_30
    · refine v_aload_n 0 21 rfl dX9_hot_20 rfl rfl ?_
      refine v_iload_n 1 22 rfl dX9_hot_21 rfl rfl ?_
      refine v_iload_n 2 23 rfl dX9_hot_22 rfl rfl ?_
      refine n_callv [.int a1, .int a2] [] (fun r => .int r :: []) 26 rfl (by omega) (Nat.le_of_ble_eq_true rfl) cb_X9_hotIn cv_X9_191 sc_40 cn_X9 rfl (Nat.le_of_ble_eq_true rfl) dX9_hot_23 rfl (fun _ => rfl) (e9_hotIn_40 (by omega) a1 a2 q2.2) (fun q3 => ?_)
      refine v_goto 30 rfl dX9_hot_26 ?_
      exact v_iret rfl dX9_hot_30
-- TemperNursesModel.plan(I)I at 40
def g9_plan_40_b95 (k19 : Int32 → Int32 → Int32 → jv_H → Option (Int32 × jv_H)) (a1 : Int32) (a2 : Int32) (a3 : Int32) (h : jv_H) : Option (Int32 × jv_H) := jv_let (a3 + (1 : Int32)) fun x1 => k19 a1 a2 x1 h
set_option maxRecDepth 20000 in
theorem b9_plan_40_b95 {l : Launch} {d : Nat} (hd : 2 ≤ d) (k19 : Int32 → Int32 → Int32 → jv_H → Option (Int32 × jv_H)) (hk19 : ∀ (a1 a2 a3 : Int32) (h : jv_H), jv_V l RX9 cX9_plan 6 (some .int) d (SC ++ SM) jv_ri 19 [(0, .ref 40), (1, .int a1), (2, .int a2), (3, .int a3)] [] h (k19 a1 a2 a3 h)) : ∀ (a1 : Int32) (a2 : Int32) (a3 : Int32) (h : jv_H), jv_V l RX9 cX9_plan 6 (some .int) d (SC ++ SM) jv_ri 95 [(0, .ref 40), (1, .int a1), (2, .int a2), (3, .int a3)] [] h (g9_plan_40_b95 k19 a1 a2 a3 h) := by
  intro a1 a2 a3 h
  unfold g9_plan_40_b95
  refine n_iinc (fun x1 => [(0, .ref 40), (1, .int a1), (2, .int a2), (3, .int x1)]) 3 98 rfl dX9_plan_95 rfl ic_1 (Nat.le_of_ble_eq_true rfl) rfl (fun _ => rfl) (fun x1 => ?_)
  refine v_goto 19 rfl dX9_plan_98 ?_
  exact hk19 a1 a2 x1 h
def g9_plan_40_b66 (k19 : Int32 → Int32 → Int32 → jv_H → Option (Int32 × jv_H)) (k66 : Int32 → Int32 → Int32 → Int32 → jv_H → Option (Int32 × jv_H)) (a1 : Int32) (a2 : Int32) (a3 : Int32) (a5 : Int32) (h : jv_H) : Option (Int32 × jv_H) := if (h.1 40 0) ≤ a5 then g9_plan_40_b95 k19 a1 a2 a3 h else if jv_ix a5 6 then if jv_ix a5 6 then jv_let (jv_p h 56 (Int32.toNatClampNeg a5) (h.1 55 (Int32.toNatClampNeg a5))) fun h1 => jv_let (a5 + (1 : Int32)) fun x2 => k66 a1 a2 a3 x2 h1 else none else none
set_option maxRecDepth 20000 in
theorem b9_plan_40_b66 {l : Launch} {d : Nat} (hd : 2 ≤ d) (k19 : Int32 → Int32 → Int32 → jv_H → Option (Int32 × jv_H)) (hk19 : ∀ (a1 a2 a3 : Int32) (h : jv_H), jv_V l RX9 cX9_plan 6 (some .int) d (SC ++ SM) jv_ri 19 [(0, .ref 40), (1, .int a1), (2, .int a2), (3, .int a3)] [] h (k19 a1 a2 a3 h)) (k66 : Int32 → Int32 → Int32 → Int32 → jv_H → Option (Int32 × jv_H)) (hk66 : ∀ (a1 a2 a3 a5 : Int32) (h : jv_H), jv_V l RX9 cX9_plan 6 (some .int) d (SC ++ SM) jv_ri 66 [(0, .ref 40), (1, .int a1), (2, .int a2), (3, .int a3), (5, .int a5)] [] h (k66 a1 a2 a3 a5 h)) : ∀ (a1 : Int32) (a2 : Int32) (a3 : Int32) (a5 : Int32) (h : jv_H), jv_V l RX9 cX9_plan 6 (some .int) d (SC ++ SM) jv_ri 66 [(0, .ref 40), (1, .int a1), (2, .int a2), (3, .int a3), (5, .int a5)] [] h (g9_plan_40_b66 k19 k66 a1 a2 a3 a5 h) := by
  intro a1 a2 a3 a5 h
  unfold g9_plan_40_b66
  refine v_iload 4 68 rfl dX9_plan_66 rfl ?_
  refine v_aload_n 0 69 rfl dX9_plan_68 rfl rfl ?_
  refine v_geti 72 rfl fl_X9_71 sc_40 rfl dX9_plan_69 ?_
  refine v_icmp_ge 95 75 rfl rfl dX9_plan_72 (fun _ => ?_) (fun _ => ?_)
  · refine v_sub [0, 1, 2, 3] rfl ?_
    exact b9_plan_40_b95 hd k19 hk19 a1 a2 a3 h
  · refine v_aload_n 0 76 rfl dX9_plan_75 rfl rfl ?_
    refine v_getr 79 rfl fl_X9_56 sc_40 rfl dX9_plan_76 ?_
    refine v_iload 4 81 rfl dX9_plan_79 rfl ?_
    refine v_aload_n 0 82 rfl dX9_plan_81 rfl rfl ?_
    refine v_getr 85 rfl fl_X9_53 sc_40 rfl dX9_plan_82 ?_
    refine v_iload 4 87 rfl dX9_plan_85 rfl ?_
    refine v_iald 88 rfl sc_55 dX9_plan_87 (fun _ => ?_)
    refine n_iast 89 rfl sc_56 dX9_plan_88 (fun h1 => ?_)
    refine n_iinc (fun x2 => [(0, .ref 40), (1, .int a1), (2, .int a2), (3, .int a3), (5, .int x2)]) 4 92 rfl dX9_plan_89 rfl ic_1 (Nat.le_of_ble_eq_true rfl) rfl (fun _ => rfl) (fun x2 => ?_)
    refine v_goto 66 rfl dX9_plan_92 ?_
    exact hk66 a1 a2 a3 x2 h1
def f9_plan_40_l66 (k19 : Int32 → Int32 → Int32 → jv_H → Option (Int32 × jv_H)) : Nat → Int32 → Int32 → Int32 → Int32 → jv_H → Option (Int32 × jv_H)
  | 0 => fun _ _ _ _ _ => none
  | n + 1 => fun a1 a2 a3 a5 h => g9_plan_40_b66 k19 (f9_plan_40_l66 k19 n) a1 a2 a3 a5 h
theorem w9_plan_40_l66 {l : Launch} {d : Nat} (hd : 2 ≤ d) (k19 : Int32 → Int32 → Int32 → jv_H → Option (Int32 × jv_H)) (hk19 : ∀ (a1 a2 a3 : Int32) (h : jv_H), jv_V l RX9 cX9_plan 6 (some .int) d (SC ++ SM) jv_ri 19 [(0, .ref 40), (1, .int a1), (2, .int a2), (3, .int a3)] [] h (k19 a1 a2 a3 h)) : ∀ (n : Nat) (a1 : Int32) (a2 : Int32) (a3 : Int32) (a5 : Int32) (h : jv_H), jv_V l RX9 cX9_plan 6 (some .int) d (SC ++ SM) jv_ri 66 [(0, .ref 40), (1, .int a1), (2, .int a2), (3, .int a3), (5, .int a5)] [] h (f9_plan_40_l66 k19 n a1 a2 a3 a5 h) := by
  intro n
  induction n with
  | zero => intro a1 a2 a3 a5 h; exact v_none
  | succ n ih => intro a1 a2 a3 a5 h; exact b9_plan_40_b66 hd k19 hk19 (f9_plan_40_l66 k19 n) ih a1 a2 a3 a5 h
def g9_plan_40_b19 (k19 : Int32 → Int32 → Int32 → jv_H → Option (Int32 × jv_H)) (a1 : Int32) (a2 : Int32) (a3 : Int32) (h : jv_H) : Option (Int32 × jv_H) := (f9_ways_40 h).bind fun q1 => if q1.1 ≤ a3 then if a1 = (-1 : Int32) then some (a2, q1.2) else if jv_ix a1 6 then if (q1.2.1 56 (Int32.toNatClampNeg a1)) = (q1.2.1 40 1) then some ((-9 : Int32), q1.2) else if jv_ix a1 6 then some ((q1.2.1 56 (Int32.toNatClampNeg a1)), q1.2) else none else none else (f9_mayBe_40 a3 q1.2).bind fun q2 => if q2.1 = 0 then g9_plan_40_b95 k19 a1 a2 a3 q2.2 else if jv_ix (q2.2.1 40 1) 5 then (f9_bits (q2.2.1 57 (Int32.toNatClampNeg (q2.2.1 40 1))) q2.2).bind fun q3 => jv_let ((q2.2.1 40 0) - q3.1) fun x4 => if x4 ≤ a2 then g9_plan_40_b95 k19 a1 a2 a3 q3.2 else jv_let x4 fun x5 => jv_let (0 : Int32) fun x6 => f9_plan_40_l66 k19 jv_fuel a1 x5 a3 x6 q3.2 else none
set_option maxRecDepth 20000 in
theorem b9_plan_40_b19 {l : Launch} {d : Nat} (hd : 2 ≤ d) (k19 : Int32 → Int32 → Int32 → jv_H → Option (Int32 × jv_H)) (hk19 : ∀ (a1 a2 a3 : Int32) (h : jv_H), jv_V l RX9 cX9_plan 6 (some .int) d (SC ++ SM) jv_ri 19 [(0, .ref 40), (1, .int a1), (2, .int a2), (3, .int a3)] [] h (k19 a1 a2 a3 h)) : ∀ (a1 : Int32) (a2 : Int32) (a3 : Int32) (h : jv_H), jv_V l RX9 cX9_plan 6 (some .int) d (SC ++ SM) jv_ri 19 [(0, .ref 40), (1, .int a1), (2, .int a2), (3, .int a3)] [] h (g9_plan_40_b19 k19 a1 a2 a3 h) := by
  intro a1 a2 a3 h
  unfold g9_plan_40_b19
  refine v_iload_n 3 20 rfl dX9_plan_19 rfl rfl ?_
  refine v_aload_n 0 21 rfl dX9_plan_20 rfl rfl ?_
  refine n_callv [] [.int a3] (fun r => .int r :: [.int a3]) 24 rfl (by omega) (Nat.le_of_ble_eq_true rfl) cb_X9_ways cv_X9_194 sc_40 cn_X9 rfl (Nat.le_of_ble_eq_true rfl) dX9_plan_21 rfl (fun _ => rfl) (e9_ways_40 (by omega)  h) (fun q1 => ?_)
  refine v_icmp_ge 101 27 rfl rfl dX9_plan_24 (fun _ => ?_) (fun _ => ?_)
  · refine v_iload_n 1 102 rfl dX9_plan_101 rfl rfl ?_
    refine v_iconst 103 rfl dX9_plan_102 ic_m1 ?_
    refine v_icmp_ne 110 106 rfl rfl dX9_plan_103 (fun _ => ?_) (fun _ => ?_)
    · refine v_aload_n 0 111 rfl dX9_plan_110 rfl rfl ?_
      refine v_getr 114 rfl fl_X9_56 sc_40 rfl dX9_plan_111 ?_
      refine v_iload_n 1 115 rfl dX9_plan_114 rfl rfl ?_
      refine v_iald 116 rfl sc_56 dX9_plan_115 (fun _ => ?_)
      refine v_aload_n 0 117 rfl dX9_plan_116 rfl rfl ?_
      refine v_geti 120 rfl fl_X9_79 sc_40 rfl dX9_plan_117 ?_
      refine v_icmp_ne 128 123 rfl rfl dX9_plan_120 (fun _ => ?_) (fun _ => ?_)
      · refine v_aload_n 0 129 rfl dX9_plan_128 rfl rfl ?_
        refine v_getr 132 rfl fl_X9_56 sc_40 rfl dX9_plan_129 ?_
        refine v_iload_n 1 133 rfl dX9_plan_132 rfl rfl ?_
        refine v_iald 134 rfl sc_56 dX9_plan_133 (fun _ => ?_)
        exact v_iret rfl dX9_plan_134
      · refine v_bipush 125 rfl dX9_plan_123 bp_m9 ?_
        refine v_goto 134 rfl dX9_plan_125 ?_
        exact v_iret rfl dX9_plan_134
    · refine v_iload_n 2 107 rfl dX9_plan_106 rfl rfl ?_
      refine v_goto 134 rfl dX9_plan_107 ?_
      exact v_iret rfl dX9_plan_134
  · refine v_aload_n 0 28 rfl dX9_plan_27 rfl rfl ?_
    refine v_iload_n 3 29 rfl dX9_plan_28 rfl rfl ?_
    refine n_callv [.int a3] [] (fun r => .int r :: []) 32 rfl (by omega) (Nat.le_of_ble_eq_true rfl) cb_X9_mayBe cv_X9_197 sc_40 cn_X9 rfl (Nat.le_of_ble_eq_true rfl) dX9_plan_29 rfl (fun _ => rfl) (e9_mayBe_40 (by omega) a3 q1.2) (fun q2 => ?_)
    refine v_if_eq 95 35 rfl rfl dX9_plan_32 (fun _ => ?_) (fun _ => ?_)
    · exact b9_plan_40_b95 hd k19 hk19 a1 a2 a3 q2.2
    · refine v_aload_n 0 36 rfl dX9_plan_35 rfl rfl ?_
      refine v_geti 39 rfl fl_X9_71 sc_40 rfl dX9_plan_36 ?_
      refine v_aload_n 0 40 rfl dX9_plan_39 rfl rfl ?_
      refine v_getr 43 rfl fl_X9_59 sc_40 rfl dX9_plan_40 ?_
      refine v_aload_n 0 44 rfl dX9_plan_43 rfl rfl ?_
      refine v_geti 47 rfl fl_X9_79 sc_40 rfl dX9_plan_44 ?_
      refine v_iald 48 rfl sc_57 dX9_plan_47 (fun _ => ?_)
      refine n_calls [.int (q2.2.1 57 (Int32.toNatClampNeg (q2.2.1 40 1)))] [.int (q2.2.1 40 0)] (fun r => .int r :: [.int (q2.2.1 40 0)]) 51 rfl (by omega) (Nat.le_of_ble_eq_true rfl) cb_X9_bits cs_X9_146 rfl (Nat.le_of_ble_eq_true rfl) dX9_plan_48 rfl (fun _ => rfl) (e9_bits (by omega) (q2.2.1 57 (Int32.toNatClampNeg (q2.2.1 40 1))) q2.2) (fun q3 => ?_)
      refine v_isub 52 rfl dX9_plan_51 ?_
      refine n_istore (fun x4 => [(0, .ref 40), (1, .int a1), (2, .int a2), (3, .int a3), (4, .int x4)]) 54 rfl dX9_plan_52 (Nat.le_of_ble_eq_true rfl) rfl (fun _ => rfl) (fun x4 => ?_)
      refine v_iload 4 56 rfl dX9_plan_54 rfl ?_
      refine v_iload_n 2 57 rfl dX9_plan_56 rfl rfl ?_
      refine v_icmp_le 95 60 rfl rfl dX9_plan_57 (fun _ => ?_) (fun _ => ?_)
      · refine v_sub [0, 1, 2, 3] rfl ?_
        exact b9_plan_40_b95 hd k19 hk19 a1 a2 a3 q3.2
      · refine v_iload 4 62 rfl dX9_plan_60 rfl ?_
        refine n_istore_n (fun x5 => [(0, .ref 40), (1, .int a1), (2, .int x5), (3, .int a3), (4, .int x4)]) 63 rfl dX9_plan_62 rfl (Nat.le_of_ble_eq_true rfl) rfl (fun _ => rfl) (fun x5 => ?_)
        refine v_iconst 64 rfl dX9_plan_63 ic_0 ?_
        refine n_istore (fun x6 => [(0, .ref 40), (1, .int a1), (2, .int x5), (3, .int a3), (4, .int x4), (5, .int x6)]) 66 rfl dX9_plan_64 (Nat.le_of_ble_eq_true rfl) rfl (fun _ => rfl) (fun x6 => ?_)
        refine v_sub [0, 1, 2, 3, 5] rfl ?_
        exact w9_plan_40_l66 hd k19 hk19 jv_fuel a1 x5 a3 x6 q3.2
def f9_plan_40_l19 : Nat → Int32 → Int32 → Int32 → jv_H → Option (Int32 × jv_H)
  | 0 => fun _ _ _ _ => none
  | n + 1 => fun a1 a2 a3 h => g9_plan_40_b19 (f9_plan_40_l19 n) a1 a2 a3 h
theorem w9_plan_40_l19 {l : Launch} {d : Nat} (hd : 2 ≤ d) : ∀ (n : Nat) (a1 : Int32) (a2 : Int32) (a3 : Int32) (h : jv_H), jv_V l RX9 cX9_plan 6 (some .int) d (SC ++ SM) jv_ri 19 [(0, .ref 40), (1, .int a1), (2, .int a2), (3, .int a3)] [] h (f9_plan_40_l19 n a1 a2 a3 h) := by
  intro n
  induction n with
  | zero => intro a1 a2 a3 h; exact v_none
  | succ n ih => intro a1 a2 a3 h; exact b9_plan_40_b19 hd (f9_plan_40_l19 n) ih a1 a2 a3 h
def g9_plan_40_b15 (a1 : Int32) (h : jv_H) : Option (Int32 × jv_H) := jv_let (-1 : Int32) fun x1 => jv_let (0 : Int32) fun x2 => f9_plan_40_l19 jv_fuel a1 x1 x2 h
set_option maxRecDepth 20000 in
theorem b9_plan_40_b15 {l : Launch} {d : Nat} (hd : 2 ≤ d) : ∀ (a1 : Int32) (h : jv_H), jv_V l RX9 cX9_plan 6 (some .int) d (SC ++ SM) jv_ri 15 [(0, .ref 40), (1, .int a1)] [] h (g9_plan_40_b15 a1 h) := by
  intro a1 h
  unfold g9_plan_40_b15
  refine v_iconst 16 rfl dX9_plan_15 ic_m1 ?_
  refine n_istore_n (fun x1 => [(0, .ref 40), (1, .int a1), (2, .int x1)]) 17 rfl dX9_plan_16 rfl (Nat.le_of_ble_eq_true rfl) rfl (fun _ => rfl) (fun x1 => ?_)
  refine v_iconst 18 rfl dX9_plan_17 ic_0 ?_
  refine n_istore_n (fun x2 => [(0, .ref 40), (1, .int a1), (2, .int x1), (3, .int x2)]) 19 rfl dX9_plan_18 rfl (Nat.le_of_ble_eq_true rfl) rfl (fun _ => rfl) (fun x2 => ?_)
  exact w9_plan_40_l19 hd jv_fuel a1 x1 x2 h
def f9_plan_40 (a1 : Int32) (h : jv_H) : Option (Int32 × jv_H) := if a1 = (-1 : Int32) then g9_plan_40_b15 a1 h else (f9_isTemper_40 a1 h).bind fun q1 => if q1.1 = 0 then some ((-1 : Int32), q1.2) else g9_plan_40_b15 a1 q1.2
set_option maxRecDepth 20000 in
theorem e9_plan_40 {l : Launch} {d : Nat} (hd : 2 ≤ d) (a1 : Int32) (h : jv_H) : jv_E l yX9_plan cX9_plan 6 (some .int) d (SC ++ SM) jv_ri [.ref 40, .int a1] h (f9_plan_40 a1 h) := by
  refine e_of [(0, .ref 40), (1, .int a1)] rfl pn_X9 (fun _ => Nat.le_of_ble_eq_true rfl) (fun _ => rfl) ?_
  unfold f9_plan_40
  refine v_iload_n 1 1 rfl dX9_plan_0 rfl rfl ?_
  refine v_iconst 2 rfl dX9_plan_1 ic_m1 ?_
  refine v_icmp_eq 15 5 rfl rfl dX9_plan_2 (fun _ => ?_) (fun _ => ?_)
  · exact b9_plan_40_b15 hd a1 h
  · refine v_aload_n 0 6 rfl dX9_plan_5 rfl rfl ?_
    refine v_iload_n 1 7 rfl dX9_plan_6 rfl rfl ?_
    refine n_callv [.int a1] [] (fun r => .int r :: []) 10 rfl (by omega) (Nat.le_of_ble_eq_true rfl) cb_X9_isTemper cv_X9_149 sc_40 cn_X9 rfl (Nat.le_of_ble_eq_true rfl) dX9_plan_7 rfl (fun _ => rfl) (e9_isTemper_40 (by omega) a1 h) (fun q1 => ?_)
    refine v_if_ne 15 13 rfl rfl dX9_plan_10 (fun _ => ?_) (fun _ => ?_)
    · exact b9_plan_40_b15 hd a1 q1.2
    · refine v_iconst 14 rfl dX9_plan_13 ic_m1 ?_
      exact v_iret rfl dX9_plan_14
-- TemperNursesModel.worthBehind(II)I at 40
def g9_worthBehind_40_b19 (a1 : Int32) (a2 : Int32) (s0 : Int32) (h : jv_H) : Option (Int32 × jv_H) := jv_let (s0 - ((2 : Int32) * a2)) fun x1 => if jv_ix (0 : Int32) 210 then if jv_ix a1 6 then if ((h.1 47 (Int32.toNatClampNeg (0 : Int32))) + a2) ≤ (h.1 42 (Int32.toNatClampNeg a1)) then some (x1, h) else some ((x1 - (30 : Int32)), h) else none else none
set_option maxRecDepth 20000 in
theorem b9_worthBehind_40_b19 {l : Launch} {d : Nat} (hd : 2 ≤ d) : ∀ (a1 : Int32) (a2 : Int32) (s0 : Int32) (h : jv_H), jv_V l RX9 cX9_worthBehind 5 (some .int) d (SC ++ SM) jv_ri 19 [(0, .ref 40), (1, .int a1), (2, .int a2)] [.int s0] h (g9_worthBehind_40_b19 a1 a2 s0 h) := by
  intro a1 a2 s0 h
  unfold g9_worthBehind_40_b19
  refine v_iconst 20 rfl dX9_worthBehind_19 ic_2 ?_
  refine v_iload_n 2 21 rfl dX9_worthBehind_20 rfl rfl ?_
  refine v_imul 22 rfl dX9_worthBehind_21 ?_
  refine v_isub 23 rfl dX9_worthBehind_22 ?_
  refine n_istore (fun x1 => [(0, .ref 40), (1, .int a1), (2, .int a2), (4, .int x1)]) 25 rfl dX9_worthBehind_23 (Nat.le_of_ble_eq_true rfl) rfl (fun _ => rfl) (fun x1 => ?_)
  refine v_aload_n 0 26 rfl dX9_worthBehind_25 rfl rfl ?_
  refine v_getr 29 rfl fl_X9_28 sc_40 rfl dX9_worthBehind_26 ?_
  refine v_iconst 30 rfl dX9_worthBehind_29 ic_0 ?_
  refine v_iald 31 rfl sc_47 dX9_worthBehind_30 (fun _ => ?_)
  refine v_iload_n 2 32 rfl dX9_worthBehind_31 rfl rfl ?_
  refine v_iadd 33 rfl dX9_worthBehind_32 ?_
  refine v_aload_n 0 34 rfl dX9_worthBehind_33 rfl rfl ?_
  refine v_getr 37 rfl fl_X9_13 sc_40 rfl dX9_worthBehind_34 ?_
  refine v_iload_n 1 38 rfl dX9_worthBehind_37 rfl rfl ?_
  refine v_iald 39 rfl sc_42 dX9_worthBehind_38 (fun _ => ?_)
  refine v_icmp_le 50 42 rfl rfl dX9_worthBehind_39 (fun _ => ?_) (fun _ => ?_)
  · refine v_iload 3 52 rfl dX9_worthBehind_50 rfl ?_
    exact v_iret rfl dX9_worthBehind_52
  · refine v_iload 3 44 rfl dX9_worthBehind_42 rfl ?_
    refine v_bipush 46 rfl dX9_worthBehind_44 bp_30 ?_
    refine v_isub 47 rfl dX9_worthBehind_46 ?_
    refine v_goto 52 rfl dX9_worthBehind_47 ?_
    exact v_iret rfl dX9_worthBehind_52
def f9_worthBehind_40 (a1 : Int32) (a2 : Int32) (h : jv_H) : Option (Int32 × jv_H) := (f9_hotIn_40 a1 a2 h).bind fun q1 => jv_let ((50 : Int32) - q1.1) fun x2 => if x2 ≤ 0 then g9_worthBehind_40_b19 a1 a2 (0 : Int32) q1.2 else g9_worthBehind_40_b19 a1 a2 x2 q1.2
set_option maxRecDepth 20000 in
theorem e9_worthBehind_40 {l : Launch} {d : Nat} (hd : 2 ≤ d) (a1 : Int32) (a2 : Int32) (h : jv_H) : jv_E l yX9_worthBehind cX9_worthBehind 5 (some .int) d (SC ++ SM) jv_ri [.ref 40, .int a1, .int a2] h (f9_worthBehind_40 a1 a2 h) := by
  refine e_of [(0, .ref 40), (1, .int a1), (2, .int a2)] rfl pn_X9 (fun _ => Nat.le_of_ble_eq_true rfl) (fun _ => rfl) ?_
  unfold f9_worthBehind_40
  refine v_bipush 2 rfl dX9_worthBehind_0 bp_50 ?_
  refine v_aload_n 0 3 rfl dX9_worthBehind_2 rfl rfl ?_
  refine v_iload_n 1 4 rfl dX9_worthBehind_3 rfl rfl ?_
  refine v_iload_n 2 5 rfl dX9_worthBehind_4 rfl rfl ?_
  refine n_callv [.int a1, .int a2] [.int (50 : Int32)] (fun r => .int r :: [.int (50 : Int32)]) 8 rfl (by omega) (Nat.le_of_ble_eq_true rfl) cb_X9_hotIn cv_X9_191 sc_40 cn_X9 rfl (Nat.le_of_ble_eq_true rfl) dX9_worthBehind_5 rfl (fun _ => rfl) (e9_hotIn_40 (by omega) a1 a2 h) (fun q1 => ?_)
  refine v_isub 9 rfl dX9_worthBehind_8 ?_
  refine n_istore_n (fun x2 => [(0, .ref 40), (1, .int a1), (2, .int a2), (3, .int x2)]) 10 rfl dX9_worthBehind_9 rfl (Nat.le_of_ble_eq_true rfl) rfl (fun _ => rfl) (fun x2 => ?_)
  refine v_iload_n 3 11 rfl dX9_worthBehind_10 rfl rfl ?_
  refine v_if_le 18 14 rfl rfl dX9_worthBehind_11 (fun _ => ?_) (fun _ => ?_)
  · refine v_iconst 19 rfl dX9_worthBehind_18 ic_0 ?_
    refine v_sub [0, 1, 2] rfl ?_
    exact b9_worthBehind_40_b19 hd a1 a2 (0 : Int32) q1.2
  · refine v_iload_n 3 15 rfl dX9_worthBehind_14 rfl rfl ?_
    refine v_goto 19 rfl dX9_worthBehind_15 ?_
    refine v_sub [0, 1, 2] rfl ?_
    exact b9_worthBehind_40_b19 hd a1 a2 x2 q1.2
-- TemperNursesModel.best(II)I at 40
def g9_best_40_b55 (k26 : Int32 → Int32 → Int32 → Int32 → jv_H → Option (Int32 × jv_H)) (a1 : Int32) (a2 : Int32) (a4 : Int32) (s0 : Int32) (h : jv_H) : Option (Int32 × jv_H) := jv_let s0 fun x1 => jv_let (a4 + (1 : Int32)) fun x2 => k26 a1 a2 x1 x2 h
set_option maxRecDepth 20000 in
theorem b9_best_40_b55 {l : Launch} {d : Nat} (hd : 3 ≤ d) (k26 : Int32 → Int32 → Int32 → Int32 → jv_H → Option (Int32 × jv_H)) (hk26 : ∀ (a1 a2 a3 a4 : Int32) (h : jv_H), jv_V l RX9 cX9_best 5 (some .int) d (SC ++ SM) jv_ri 26 [(0, .ref 40), (1, .int a1), (2, .int a2), (3, .int a3), (4, .int a4)] [] h (k26 a1 a2 a3 a4 h)) : ∀ (a1 : Int32) (a2 : Int32) (a4 : Int32) (s0 : Int32) (h : jv_H), jv_V l RX9 cX9_best 5 (some .int) d (SC ++ SM) jv_ri 55 [(0, .ref 40), (1, .int a1), (2, .int a2), (4, .int a4)] [.int s0] h (g9_best_40_b55 k26 a1 a2 a4 s0 h) := by
  intro a1 a2 a4 s0 h
  unfold g9_best_40_b55
  refine n_istore_n (fun x1 => [(0, .ref 40), (1, .int a1), (2, .int a2), (4, .int a4), (3, .int x1)]) 56 rfl dX9_best_55 rfl (Nat.le_of_ble_eq_true rfl) rfl (fun _ => rfl) (fun x1 => ?_)
  refine n_iinc (fun x2 => [(0, .ref 40), (1, .int a1), (2, .int a2), (4, .int x2), (3, .int x1)]) 3 59 rfl dX9_best_56 rfl ic_1 (Nat.le_of_ble_eq_true rfl) rfl (fun _ => rfl) (fun x2 => ?_)
  refine v_goto 26 rfl dX9_best_59 ?_
  refine v_sub [0, 1, 2, 4, 3] rfl ?_
  exact hk26 a1 a2 x1 x2 h
def g9_best_40_b26 (k26 : Int32 → Int32 → Int32 → Int32 → jv_H → Option (Int32 × jv_H)) (a1 : Int32) (a2 : Int32) (a3 : Int32) (a4 : Int32) (h : jv_H) : Option (Int32 × jv_H) := if (20 : Int32) < a4 then if a2 = 0 then some (a3, h) else (f9_worthBehind_40 a1 a3 h).bind fun q1 => some (q1.1, q1.2) else (f9_worthBehind_40 a1 a4 h).bind fun q2 => (f9_worthBehind_40 a1 a3 q2.2).bind fun q3 => if q2.1 ≤ q3.1 then g9_best_40_b55 k26 a1 a2 a4 a3 q3.2 else g9_best_40_b55 k26 a1 a2 a4 a4 q3.2
set_option maxRecDepth 20000 in
theorem b9_best_40_b26 {l : Launch} {d : Nat} (hd : 3 ≤ d) (k26 : Int32 → Int32 → Int32 → Int32 → jv_H → Option (Int32 × jv_H)) (hk26 : ∀ (a1 a2 a3 a4 : Int32) (h : jv_H), jv_V l RX9 cX9_best 5 (some .int) d (SC ++ SM) jv_ri 26 [(0, .ref 40), (1, .int a1), (2, .int a2), (3, .int a3), (4, .int a4)] [] h (k26 a1 a2 a3 a4 h)) : ∀ (a1 : Int32) (a2 : Int32) (a3 : Int32) (a4 : Int32) (h : jv_H), jv_V l RX9 cX9_best 5 (some .int) d (SC ++ SM) jv_ri 26 [(0, .ref 40), (1, .int a1), (2, .int a2), (3, .int a3), (4, .int a4)] [] h (g9_best_40_b26 k26 a1 a2 a3 a4 h) := by
  intro a1 a2 a3 a4 h
  unfold g9_best_40_b26
  refine v_iload 4 28 rfl dX9_best_26 rfl ?_
  refine v_bipush 30 rfl dX9_best_28 bp_20 ?_
  refine v_icmp_gt 62 33 rfl rfl dX9_best_30 (fun _ => ?_) (fun _ => ?_)
  · refine v_iload_n 2 63 rfl dX9_best_62 rfl rfl ?_
    refine v_if_ne 70 66 rfl rfl dX9_best_63 (fun _ => ?_) (fun _ => ?_)
    · refine v_aload_n 0 71 rfl dX9_best_70 rfl rfl ?_
      refine v_iload_n 1 72 rfl dX9_best_71 rfl rfl ?_
      refine v_iload_n 3 73 rfl dX9_best_72 rfl rfl ?_
      refine n_callv [.int a1, .int a3] [] (fun r => .int r :: []) 76 rfl (by omega) (Nat.le_of_ble_eq_true rfl) cb_X9_worthBehind cv_X9_202 sc_40 cn_X9 rfl (Nat.le_of_ble_eq_true rfl) dX9_best_73 rfl (fun _ => rfl) (e9_worthBehind_40 (by omega) a1 a3 h) (fun q1 => ?_)
      exact v_iret rfl dX9_best_76
    · refine v_iload_n 3 67 rfl dX9_best_66 rfl rfl ?_
      refine v_goto 76 rfl dX9_best_67 ?_
      exact v_iret rfl dX9_best_76
  · refine v_aload_n 0 34 rfl dX9_best_33 rfl rfl ?_
    refine v_iload_n 1 35 rfl dX9_best_34 rfl rfl ?_
    refine v_iload 4 37 rfl dX9_best_35 rfl ?_
    refine n_callv [.int a1, .int a4] [] (fun r => .int r :: []) 40 rfl (by omega) (Nat.le_of_ble_eq_true rfl) cb_X9_worthBehind cv_X9_202 sc_40 cn_X9 rfl (Nat.le_of_ble_eq_true rfl) dX9_best_37 rfl (fun _ => rfl) (e9_worthBehind_40 (by omega) a1 a4 h) (fun q2 => ?_)
    refine v_aload_n 0 41 rfl dX9_best_40 rfl rfl ?_
    refine v_iload_n 1 42 rfl dX9_best_41 rfl rfl ?_
    refine v_iload_n 3 43 rfl dX9_best_42 rfl rfl ?_
    refine n_callv [.int a1, .int a3] [.int q2.1] (fun r => .int r :: [.int q2.1]) 46 rfl (by omega) (Nat.le_of_ble_eq_true rfl) cb_X9_worthBehind cv_X9_202 sc_40 cn_X9 rfl (Nat.le_of_ble_eq_true rfl) dX9_best_43 rfl (fun _ => rfl) (e9_worthBehind_40 (by omega) a1 a3 q2.2) (fun q3 => ?_)
    refine v_icmp_le 54 49 rfl rfl dX9_best_46 (fun _ => ?_) (fun _ => ?_)
    · refine v_iload_n 3 55 rfl dX9_best_54 rfl rfl ?_
      refine v_sub [0, 1, 2, 4] rfl ?_
      exact b9_best_40_b55 hd k26 hk26 a1 a2 a4 a3 q3.2
    · refine v_iload 4 51 rfl dX9_best_49 rfl ?_
      refine v_goto 55 rfl dX9_best_51 ?_
      refine v_sub [0, 1, 2, 4] rfl ?_
      exact b9_best_40_b55 hd k26 hk26 a1 a2 a4 a4 q3.2
def f9_best_40_l26 : Nat → Int32 → Int32 → Int32 → Int32 → jv_H → Option (Int32 × jv_H)
  | 0 => fun _ _ _ _ _ => none
  | n + 1 => fun a1 a2 a3 a4 h => g9_best_40_b26 (f9_best_40_l26 n) a1 a2 a3 a4 h
theorem w9_best_40_l26 {l : Launch} {d : Nat} (hd : 3 ≤ d) : ∀ (n : Nat) (a1 : Int32) (a2 : Int32) (a3 : Int32) (a4 : Int32) (h : jv_H), jv_V l RX9 cX9_best 5 (some .int) d (SC ++ SM) jv_ri 26 [(0, .ref 40), (1, .int a1), (2, .int a2), (3, .int a3), (4, .int a4)] [] h (f9_best_40_l26 n a1 a2 a3 a4 h) := by
  intro n
  induction n with
  | zero => intro a1 a2 a3 a4 h; exact v_none
  | succ n ih => intro a1 a2 a3 a4 h; exact b9_best_40_b26 hd (f9_best_40_l26 n) ih a1 a2 a3 a4 h
def f9_best_40 (a1 : Int32) (a2 : Int32) (h : jv_H) : Option (Int32 × jv_H) := (f9_isTemper_40 a1 h).bind fun q1 => if q1.1 = 0 then some ((-1000000 : Int32), q1.2) else (f9_in (Int32.toInt64 a2) (0 : Int64) (1 : Int64) q1.2).bind fun q2 => if q2.1 = 0 then some ((-1000000 : Int32), q2.2) else jv_let (0 : Int32) fun x3 => jv_let (1 : Int32) fun x4 => f9_best_40_l26 jv_fuel a1 a2 x3 x4 q2.2
set_option maxRecDepth 20000 in
theorem e9_best_40 {l : Launch} {d : Nat} (hd : 3 ≤ d) (a1 : Int32) (a2 : Int32) (h : jv_H) : jv_E l yX9_best cX9_best 5 (some .int) d (SC ++ SM) jv_ri [.ref 40, .int a1, .int a2] h (f9_best_40 a1 a2 h) := by
  refine e_of [(0, .ref 40), (1, .int a1), (2, .int a2)] rfl pn_X9 (fun _ => Nat.le_of_ble_eq_true rfl) (fun _ => rfl) ?_
  unfold f9_best_40
  refine v_aload_n 0 1 rfl dX9_best_0 rfl rfl ?_
  refine v_iload_n 1 2 rfl dX9_best_1 rfl rfl ?_
  refine n_callv [.int a1] [] (fun r => .int r :: []) 5 rfl (by omega) (Nat.le_of_ble_eq_true rfl) cb_X9_isTemper cv_X9_149 sc_40 cn_X9 rfl (Nat.le_of_ble_eq_true rfl) dX9_best_2 rfl (fun _ => rfl) (e9_isTemper_40 (by omega) a1 h) (fun q1 => ?_)
  refine v_if_eq 18 8 rfl rfl dX9_best_5 (fun _ => ?_) (fun _ => ?_)
  · refine v_ldc 20 rfl mw_1081 dX9_best_18 ?_
    exact v_iret rfl dX9_best_20
  · refine v_iload_n 2 9 rfl dX9_best_8 rfl rfl ?_
    refine v_i2l 10 rfl dX9_best_9 ?_
    refine v_lconst (v := (0 : Int64)) 11 rfl dX9_best_10 rfl ?_
    refine v_lconst (v := (1 : Int64)) 12 rfl dX9_best_11 rfl ?_
    refine n_calls [.long (Int32.toInt64 a2), .long (0 : Int64), .long (1 : Int64)] [] (fun r => .int r :: []) 15 rfl (by omega) (Nat.le_of_ble_eq_true rfl) cb_X9_in cs_X9_75 rfl (Nat.le_of_ble_eq_true rfl) dX9_best_12 rfl (fun _ => rfl) (e9_in (by omega) (Int32.toInt64 a2) (0 : Int64) (1 : Int64) q1.2) (fun q2 => ?_)
    refine v_if_ne 21 18 rfl rfl dX9_best_15 (fun _ => ?_) (fun _ => ?_)
    · refine v_iconst 22 rfl dX9_best_21 ic_0 ?_
      refine n_istore_n (fun x3 => [(0, .ref 40), (1, .int a1), (2, .int a2), (3, .int x3)]) 23 rfl dX9_best_22 rfl (Nat.le_of_ble_eq_true rfl) rfl (fun _ => rfl) (fun x3 => ?_)
      refine v_iconst 24 rfl dX9_best_23 ic_1 ?_
      refine n_istore (fun x4 => [(0, .ref 40), (1, .int a1), (2, .int a2), (3, .int x3), (4, .int x4)]) 26 rfl dX9_best_24 (Nat.le_of_ble_eq_true rfl) rfl (fun _ => rfl) (fun x4 => ?_)
      exact w9_best_40_l26 hd jv_fuel a1 a2 x3 x4 q2.2
    · refine v_ldc 20 rfl mw_1081 dX9_best_18 ?_
      exact v_iret rfl dX9_best_20
-- TemperNursesModel.has(II)Z
def f9_has (a0 : Int32) (a1 : Int32) (h : jv_H) : Option (Int32 × jv_H) := if ((a0 >>> (a1 &&& 31)) &&& (1 : Int32)) = (1 : Int32) then some ((1 : Int32), h) else some ((0 : Int32), h)
set_option maxRecDepth 20000 in
theorem e9_has {l : Launch} {d : Nat} (hd : 0 ≤ d) (a0 : Int32) (a1 : Int32) (h : jv_H) : jv_E l yX9_has cX9_has 2 (some .boolean) d (SC ++ SM) jv_ri [.int a0, .int a1] h (f9_has a0 a1 h) := by
  refine e_of [(0, .int a0), (1, .int a1)] rfl pn_X9 (fun _ => Nat.le_of_ble_eq_true rfl) (fun _ => rfl) ?_
  unfold f9_has
  refine v_iload_n 0 1 rfl dX9_has_0 rfl rfl ?_
  refine v_iload_n 1 2 rfl dX9_has_1 rfl rfl ?_
  refine v_ishr 3 rfl dX9_has_2 ?_
  refine v_iconst 4 rfl dX9_has_3 ic_1 ?_
  refine v_iand 5 rfl dX9_has_4 ?_
  refine v_iconst 6 rfl dX9_has_5 ic_1 ?_
  refine v_icmp_ne 13 9 rfl rfl dX9_has_6 (fun _ => ?_) (fun _ => ?_)
  · refine v_iconst 14 rfl dX9_has_13 ic_0 ?_
    exact v_zr0 dX9_has_14
  · refine v_iconst 10 rfl dX9_has_9 ic_1 ?_
    refine v_goto 14 rfl dX9_has_10 ?_
    exact v_zr1 dX9_has_14
-- TemperNursesModel.isBed(III)Z at 40
def f9_isBed_40 (a1 : Int32) (a2 : Int32) (a3 : Int32) (h : jv_H) : Option (Int32 × jv_H) := if a1 = a2 then some ((0 : Int32), h) else if jv_ix a1 6 then (f9_has (h.1 43 (Int32.toNatClampNeg a1)) a2 h).bind fun q1 => if q1.1 = 0 then (f9_heat_40 a1 q1.2).bind fun q2 => (f9_heat_40 a2 q2.2).bind fun q3 => if a3 < (q2.1 + q3.1) then some ((0 : Int32), q3.2) else some ((1 : Int32), q3.2) else some ((0 : Int32), q1.2) else none
set_option maxRecDepth 20000 in
theorem e9_isBed_40 {l : Launch} {d : Nat} (hd : 1 ≤ d) (a1 : Int32) (a2 : Int32) (a3 : Int32) (h : jv_H) : jv_E l yX9_isBed cX9_isBed 4 (some .boolean) d (SC ++ SM) jv_ri [.ref 40, .int a1, .int a2, .int a3] h (f9_isBed_40 a1 a2 a3 h) := by
  refine e_of [(0, .ref 40), (1, .int a1), (2, .int a2), (3, .int a3)] rfl pn_X9 (fun _ => Nat.le_of_ble_eq_true rfl) (fun _ => rfl) ?_
  unfold f9_isBed_40
  refine v_iload_n 1 1 rfl dX9_isBed_0 rfl rfl ?_
  refine v_iload_n 2 2 rfl dX9_isBed_1 rfl rfl ?_
  refine v_icmp_eq 37 5 rfl rfl dX9_isBed_2 (fun _ => ?_) (fun _ => ?_)
  · refine v_iconst 38 rfl dX9_isBed_37 ic_0 ?_
    exact v_zr0 dX9_isBed_38
  · refine v_aload_n 0 6 rfl dX9_isBed_5 rfl rfl ?_
    refine v_getr 9 rfl fl_X9_16 sc_40 rfl dX9_isBed_6 ?_
    refine v_iload_n 1 10 rfl dX9_isBed_9 rfl rfl ?_
    refine v_iald 11 rfl sc_43 dX9_isBed_10 (fun _ => ?_)
    refine v_iload_n 2 12 rfl dX9_isBed_11 rfl rfl ?_
    refine n_calls [.int (h.1 43 (Int32.toNatClampNeg a1)), .int a2] [] (fun r => .int r :: []) 15 rfl (by omega) (Nat.le_of_ble_eq_true rfl) cb_X9_has cs_X9_205 rfl (Nat.le_of_ble_eq_true rfl) dX9_isBed_12 rfl (fun _ => rfl) (e9_has (by omega) (h.1 43 (Int32.toNatClampNeg a1)) a2 h) (fun q1 => ?_)
    refine v_if_ne 37 18 rfl rfl dX9_isBed_15 (fun _ => ?_) (fun _ => ?_)
    · refine v_iconst 38 rfl dX9_isBed_37 ic_0 ?_
      exact v_zr0 dX9_isBed_38
    · refine v_aload_n 0 19 rfl dX9_isBed_18 rfl rfl ?_
      refine v_iload_n 1 20 rfl dX9_isBed_19 rfl rfl ?_
      refine n_callv [.int a1] [] (fun r => .int r :: []) 23 rfl (by omega) (Nat.le_of_ble_eq_true rfl) cb_X9_heat cv_X9_143 sc_40 cn_X9 rfl (Nat.le_of_ble_eq_true rfl) dX9_isBed_20 rfl (fun _ => rfl) (e9_heat_40 (by omega) a1 q1.2) (fun q2 => ?_)
      refine v_aload_n 0 24 rfl dX9_isBed_23 rfl rfl ?_
      refine v_iload_n 2 25 rfl dX9_isBed_24 rfl rfl ?_
      refine n_callv [.int a2] [.int q2.1] (fun r => .int r :: [.int q2.1]) 28 rfl (by omega) (Nat.le_of_ble_eq_true rfl) cb_X9_heat cv_X9_143 sc_40 cn_X9 rfl (Nat.le_of_ble_eq_true rfl) dX9_isBed_25 rfl (fun _ => rfl) (e9_heat_40 (by omega) a2 q2.2) (fun q3 => ?_)
      refine v_iadd 29 rfl dX9_isBed_28 ?_
      refine v_iload_n 3 30 rfl dX9_isBed_29 rfl rfl ?_
      refine v_icmp_gt 37 33 rfl rfl dX9_isBed_30 (fun _ => ?_) (fun _ => ?_)
      · refine v_iconst 38 rfl dX9_isBed_37 ic_0 ?_
        exact v_zr0 dX9_isBed_38
      · refine v_iconst 34 rfl dX9_isBed_33 ic_1 ?_
        refine v_goto 38 rfl dX9_isBed_34 ?_
        exact v_zr1 dX9_isBed_38
-- TemperNursesModel.bedsBy(II)I at 40
def g9_bedsBy_40_b122 (k51 : Int32 → Int32 → Int32 → jv_H → Option (Int32 × jv_H)) (a2 : Int32) (a4 : Int32) (a5 : Int32) (h : jv_H) : Option (Int32 × jv_H) := jv_let (a5 + (1 : Int32)) fun x1 => k51 a2 a4 x1 h
set_option maxRecDepth 20000 in
theorem b9_bedsBy_40_b122 {l : Launch} {d : Nat} (hd : 2 ≤ d) (k51 : Int32 → Int32 → Int32 → jv_H → Option (Int32 × jv_H)) (hk51 : ∀ (a2 a4 a5 : Int32) (h : jv_H), jv_V l RX9 cX9_bedsBy 7 (some .int) d (SC ++ SM) jv_ri 51 [(0, .ref 40), (2, .int a2), (4, .int a4), (5, .int a5)] [] h (k51 a2 a4 a5 h)) : ∀ (a2 : Int32) (a4 : Int32) (a5 : Int32) (h : jv_H), jv_V l RX9 cX9_bedsBy 7 (some .int) d (SC ++ SM) jv_ri 122 [(0, .ref 40), (2, .int a2), (4, .int a4), (5, .int a5)] [] h (g9_bedsBy_40_b122 k51 a2 a4 a5 h) := by
  intro a2 a4 a5 h
  unfold g9_bedsBy_40_b122
  refine n_iinc (fun x1 => [(0, .ref 40), (2, .int a2), (4, .int a4), (5, .int x1)]) 3 125 rfl dX9_bedsBy_122 rfl ic_1 (Nat.le_of_ble_eq_true rfl) rfl (fun _ => rfl) (fun x1 => ?_)
  refine v_goto 51 rfl dX9_bedsBy_125 ?_
  exact hk51 a2 a4 x1 h
def g9_bedsBy_40_b119 (k51 : Int32 → Int32 → Int32 → jv_H → Option (Int32 × jv_H)) (a2 : Int32) (a5 : Int32) (s0 : Int32) (s1 : Int32) (h : jv_H) : Option (Int32 × jv_H) := jv_let (s0 + s1) fun x1 => g9_bedsBy_40_b122 k51 a2 x1 a5 h
set_option maxRecDepth 20000 in
theorem b9_bedsBy_40_b119 {l : Launch} {d : Nat} (hd : 2 ≤ d) (k51 : Int32 → Int32 → Int32 → jv_H → Option (Int32 × jv_H)) (hk51 : ∀ (a2 a4 a5 : Int32) (h : jv_H), jv_V l RX9 cX9_bedsBy 7 (some .int) d (SC ++ SM) jv_ri 51 [(0, .ref 40), (2, .int a2), (4, .int a4), (5, .int a5)] [] h (k51 a2 a4 a5 h)) : ∀ (a2 : Int32) (a5 : Int32) (s0 : Int32) (s1 : Int32) (h : jv_H), jv_V l RX9 cX9_bedsBy 7 (some .int) d (SC ++ SM) jv_ri 119 [(0, .ref 40), (2, .int a2), (5, .int a5)] [.int s1, .int s0] h (g9_bedsBy_40_b119 k51 a2 a5 s0 s1 h) := by
  intro a2 a5 s0 s1 h
  unfold g9_bedsBy_40_b119
  refine v_iadd 120 rfl dX9_bedsBy_119 ?_
  refine n_istore (fun x1 => [(0, .ref 40), (2, .int a2), (5, .int a5), (4, .int x1)]) 122 rfl dX9_bedsBy_120 (Nat.le_of_ble_eq_true rfl) rfl (fun _ => rfl) (fun x1 => ?_)
  refine v_sub [0, 1, 3, 2] rfl ?_
  exact b9_bedsBy_40_b122 hd k51 hk51 a2 x1 a5 h
def g9_bedsBy_40_b51 (k51 : Int32 → Int32 → Int32 → jv_H → Option (Int32 × jv_H)) (a2 : Int32) (a4 : Int32) (a5 : Int32) (h : jv_H) : Option (Int32 × jv_H) := if (h.1 40 0) ≤ a5 then some (a4, h) else if jv_ix a5 6 then jv_let (h.1 59 (Int32.toNatClampNeg a5)) fun x1 => if (h.1 40 0) ≤ x1 then g9_bedsBy_40_b122 k51 a2 a4 a5 h else if jv_ix x1 6 then if (h.1 59 (Int32.toNatClampNeg x1)) = a5 then (f9_isBed_40 a5 x1 a2 h).bind fun q2 => if q2.1 = 0 then some ((-9 : Int32), q2.2) else if x1 ≤ a5 then g9_bedsBy_40_b119 k51 a2 a5 a4 (0 : Int32) q2.2 else g9_bedsBy_40_b119 k51 a2 a5 a4 (1 : Int32) q2.2 else some ((-9 : Int32), h) else none else none
set_option maxRecDepth 20000 in
theorem b9_bedsBy_40_b51 {l : Launch} {d : Nat} (hd : 2 ≤ d) (k51 : Int32 → Int32 → Int32 → jv_H → Option (Int32 × jv_H)) (hk51 : ∀ (a2 a4 a5 : Int32) (h : jv_H), jv_V l RX9 cX9_bedsBy 7 (some .int) d (SC ++ SM) jv_ri 51 [(0, .ref 40), (2, .int a2), (4, .int a4), (5, .int a5)] [] h (k51 a2 a4 a5 h)) : ∀ (a2 : Int32) (a4 : Int32) (a5 : Int32) (h : jv_H), jv_V l RX9 cX9_bedsBy 7 (some .int) d (SC ++ SM) jv_ri 51 [(0, .ref 40), (2, .int a2), (4, .int a4), (5, .int a5)] [] h (g9_bedsBy_40_b51 k51 a2 a4 a5 h) := by
  intro a2 a4 a5 h
  unfold g9_bedsBy_40_b51
  refine v_iload 3 53 rfl dX9_bedsBy_51 rfl ?_
  refine v_aload_n 0 54 rfl dX9_bedsBy_53 rfl rfl ?_
  refine v_geti 57 rfl fl_X9_71 sc_40 rfl dX9_bedsBy_54 ?_
  refine v_icmp_ge 128 60 rfl rfl dX9_bedsBy_57 (fun _ => ?_) (fun _ => ?_)
  · refine v_iload 2 130 rfl dX9_bedsBy_128 rfl ?_
    exact v_iret rfl dX9_bedsBy_130
  · refine v_aload_n 0 61 rfl dX9_bedsBy_60 rfl rfl ?_
    refine v_getr 64 rfl fl_X9_65 sc_40 rfl dX9_bedsBy_61 ?_
    refine v_iload 3 66 rfl dX9_bedsBy_64 rfl ?_
    refine v_iald 67 rfl sc_59 dX9_bedsBy_66 (fun _ => ?_)
    refine n_istore (fun x1 => [(0, .ref 40), (2, .int a2), (4, .int a4), (5, .int a5), (6, .int x1)]) 69 rfl dX9_bedsBy_67 (Nat.le_of_ble_eq_true rfl) rfl (fun _ => rfl) (fun x1 => ?_)
    refine v_iload 4 71 rfl dX9_bedsBy_69 rfl ?_
    refine v_aload_n 0 72 rfl dX9_bedsBy_71 rfl rfl ?_
    refine v_geti 75 rfl fl_X9_71 sc_40 rfl dX9_bedsBy_72 ?_
    refine v_icmp_ge 122 78 rfl rfl dX9_bedsBy_75 (fun _ => ?_) (fun _ => ?_)
    · refine v_sub [0, 1, 2, 3] rfl ?_
      exact b9_bedsBy_40_b122 hd k51 hk51 a2 a4 a5 h
    · refine v_aload_n 0 79 rfl dX9_bedsBy_78 rfl rfl ?_
      refine v_getr 82 rfl fl_X9_65 sc_40 rfl dX9_bedsBy_79 ?_
      refine v_iload 4 84 rfl dX9_bedsBy_82 rfl ?_
      refine v_iald 85 rfl sc_59 dX9_bedsBy_84 (fun _ => ?_)
      refine v_iload 3 87 rfl dX9_bedsBy_85 rfl ?_
      refine v_icmp_ne 102 90 rfl rfl dX9_bedsBy_87 (fun _ => ?_) (fun _ => ?_)
      · refine v_bipush 104 rfl dX9_bedsBy_102 bp_m9 ?_
        exact v_iret rfl dX9_bedsBy_104
      · refine v_aload_n 0 91 rfl dX9_bedsBy_90 rfl rfl ?_
        refine v_iload 3 93 rfl dX9_bedsBy_91 rfl ?_
        refine v_iload 4 95 rfl dX9_bedsBy_93 rfl ?_
        refine v_iload_n 1 96 rfl dX9_bedsBy_95 rfl rfl ?_
        refine n_callv [.int a5, .int x1, .int a2] [] (fun r => .int r :: []) 99 rfl (by omega) (Nat.le_of_ble_eq_true rfl) cb_X9_isBed cv_X9_208 sc_40 cn_X9 rfl (Nat.le_of_ble_eq_true rfl) dX9_bedsBy_96 rfl (fun _ => rfl) (e9_isBed_40 (by omega) a5 x1 a2 h) (fun q2 => ?_)
        refine v_if_ne 105 102 rfl rfl dX9_bedsBy_99 (fun _ => ?_) (fun _ => ?_)
        · refine v_iload 2 107 rfl dX9_bedsBy_105 rfl ?_
          refine v_iload 4 109 rfl dX9_bedsBy_107 rfl ?_
          refine v_iload 3 111 rfl dX9_bedsBy_109 rfl ?_
          refine v_icmp_le 118 114 rfl rfl dX9_bedsBy_111 (fun _ => ?_) (fun _ => ?_)
          · refine v_iconst 119 rfl dX9_bedsBy_118 ic_0 ?_
            refine v_sub [0, 1, 3] rfl ?_
            exact b9_bedsBy_40_b119 hd k51 hk51 a2 a5 a4 (0 : Int32) q2.2
          · refine v_iconst 115 rfl dX9_bedsBy_114 ic_1 ?_
            refine v_goto 119 rfl dX9_bedsBy_115 ?_
            refine v_sub [0, 1, 3] rfl ?_
            exact b9_bedsBy_40_b119 hd k51 hk51 a2 a5 a4 (1 : Int32) q2.2
        · refine v_bipush 104 rfl dX9_bedsBy_102 bp_m9 ?_
          exact v_iret rfl dX9_bedsBy_104
def f9_bedsBy_40_l51 : Nat → Int32 → Int32 → Int32 → jv_H → Option (Int32 × jv_H)
  | 0 => fun _ _ _ _ => none
  | n + 1 => fun a2 a4 a5 h => g9_bedsBy_40_b51 (f9_bedsBy_40_l51 n) a2 a4 a5 h
theorem w9_bedsBy_40_l51 {l : Launch} {d : Nat} (hd : 2 ≤ d) : ∀ (n : Nat) (a2 : Int32) (a4 : Int32) (a5 : Int32) (h : jv_H), jv_V l RX9 cX9_bedsBy 7 (some .int) d (SC ++ SM) jv_ri 51 [(0, .ref 40), (2, .int a2), (4, .int a4), (5, .int a5)] [] h (f9_bedsBy_40_l51 n a2 a4 a5 h) := by
  intro n
  induction n with
  | zero => intro a2 a4 a5 h; exact v_none
  | succ n ih => intro a2 a4 a5 h; exact b9_bedsBy_40_b51 hd (f9_bedsBy_40_l51 n) ih a2 a4 a5 h
def g9_bedsBy_40_b13 (k13 : Int32 → Int32 → Int32 → Int32 → jv_H → Option (Int32 × jv_H)) (a2 : Int32) (a3 : Int32) (a4 : Int32) (a5 : Int32) (h : jv_H) : Option (Int32 × jv_H) := if a5 < 0 then jv_let (0 : Int32) fun x1 => f9_bedsBy_40_l51 jv_fuel a2 a4 x1 h else if ((h.1 40 0) + (1 : Int32)) = 0 then none else if jv_ix a5 6 then jv_let (jv_p h 59 (Int32.toNatClampNeg a5) (a3 - a3 / ((h.1 40 0) + (1 : Int32)) * ((h.1 40 0) + (1 : Int32)))) fun h2 => if ((h2.1 40 0) + (1 : Int32)) = 0 then none else jv_let (a3 / ((h2.1 40 0) + (1 : Int32))) fun x3 => jv_let (a5 + (-1 : Int32)) fun x4 => k13 a2 x3 a4 x4 h2 else none
set_option maxRecDepth 20000 in
theorem b9_bedsBy_40_b13 {l : Launch} {d : Nat} (hd : 2 ≤ d) (k13 : Int32 → Int32 → Int32 → Int32 → jv_H → Option (Int32 × jv_H)) (hk13 : ∀ (a2 a3 a4 a5 : Int32) (h : jv_H), jv_V l RX9 cX9_bedsBy 7 (some .int) d (SC ++ SM) jv_ri 13 [(0, .ref 40), (2, .int a2), (3, .int a3), (4, .int a4), (5, .int a5)] [] h (k13 a2 a3 a4 a5 h)) : ∀ (a2 : Int32) (a3 : Int32) (a4 : Int32) (a5 : Int32) (h : jv_H), jv_V l RX9 cX9_bedsBy 7 (some .int) d (SC ++ SM) jv_ri 13 [(0, .ref 40), (2, .int a2), (3, .int a3), (4, .int a4), (5, .int a5)] [] h (g9_bedsBy_40_b13 k13 a2 a3 a4 a5 h) := by
  intro a2 a3 a4 a5 h
  unfold g9_bedsBy_40_b13
  refine v_iload 4 15 rfl dX9_bedsBy_13 rfl ?_
  refine v_if_lt 48 18 rfl rfl dX9_bedsBy_15 (fun _ => ?_) (fun _ => ?_)
  · refine v_iconst 49 rfl dX9_bedsBy_48 ic_0 ?_
    refine n_istore (fun x1 => [(0, .ref 40), (2, .int a2), (3, .int a3), (4, .int a4), (5, .int x1)]) 51 rfl dX9_bedsBy_49 (Nat.le_of_ble_eq_true rfl) rfl (fun _ => rfl) (fun x1 => ?_)
    refine v_sub [0, 1, 3, 4] rfl ?_
    exact w9_bedsBy_40_l51 hd jv_fuel a2 a4 x1 h
  · refine v_aload_n 0 19 rfl dX9_bedsBy_18 rfl rfl ?_
    refine v_getr 22 rfl fl_X9_65 sc_40 rfl dX9_bedsBy_19 ?_
    refine v_iload 4 24 rfl dX9_bedsBy_22 rfl ?_
    refine v_iload_n 2 25 rfl dX9_bedsBy_24 rfl rfl ?_
    refine v_aload_n 0 26 rfl dX9_bedsBy_25 rfl rfl ?_
    refine v_geti 29 rfl fl_X9_71 sc_40 rfl dX9_bedsBy_26 ?_
    refine v_iconst 30 rfl dX9_bedsBy_29 ic_1 ?_
    refine v_iadd 31 rfl dX9_bedsBy_30 ?_
    refine v_irem 32 rfl dX9_bedsBy_31 (fun _ => ?_)
    refine n_iast 33 rfl sc_59 dX9_bedsBy_32 (fun h2 => ?_)
    refine v_iload_n 2 34 rfl dX9_bedsBy_33 rfl rfl ?_
    refine v_aload_n 0 35 rfl dX9_bedsBy_34 rfl rfl ?_
    refine v_geti 38 rfl fl_X9_71 sc_40 rfl dX9_bedsBy_35 ?_
    refine v_iconst 39 rfl dX9_bedsBy_38 ic_1 ?_
    refine v_iadd 40 rfl dX9_bedsBy_39 ?_
    refine v_idiv 41 rfl dX9_bedsBy_40 (fun _ => ?_)
    refine n_istore_n (fun x3 => [(0, .ref 40), (2, .int a2), (3, .int x3), (4, .int a4), (5, .int a5)]) 42 rfl dX9_bedsBy_41 rfl (Nat.le_of_ble_eq_true rfl) rfl (fun _ => rfl) (fun x3 => ?_)
    refine n_iinc (fun x4 => [(0, .ref 40), (2, .int a2), (3, .int x3), (4, .int a4), (5, .int x4)]) 4 45 rfl dX9_bedsBy_42 rfl ic_m1 (Nat.le_of_ble_eq_true rfl) rfl (fun _ => rfl) (fun x4 => ?_)
    refine v_goto 13 rfl dX9_bedsBy_45 ?_
    exact hk13 a2 x3 a4 x4 h2
def f9_bedsBy_40_l13 : Nat → Int32 → Int32 → Int32 → Int32 → jv_H → Option (Int32 × jv_H)
  | 0 => fun _ _ _ _ _ => none
  | n + 1 => fun a2 a3 a4 a5 h => g9_bedsBy_40_b13 (f9_bedsBy_40_l13 n) a2 a3 a4 a5 h
theorem w9_bedsBy_40_l13 {l : Launch} {d : Nat} (hd : 2 ≤ d) : ∀ (n : Nat) (a2 : Int32) (a3 : Int32) (a4 : Int32) (a5 : Int32) (h : jv_H), jv_V l RX9 cX9_bedsBy 7 (some .int) d (SC ++ SM) jv_ri 13 [(0, .ref 40), (2, .int a2), (3, .int a3), (4, .int a4), (5, .int a5)] [] h (f9_bedsBy_40_l13 n a2 a3 a4 a5 h) := by
  intro n
  induction n with
  | zero => intro a2 a3 a4 a5 h; exact v_none
  | succ n ih => intro a2 a3 a4 a5 h; exact b9_bedsBy_40_b13 hd (f9_bedsBy_40_l13 n) ih a2 a3 a4 a5 h
def f9_bedsBy_40 (a1 : Int32) (a2 : Int32) (h : jv_H) : Option (Int32 × jv_H) := jv_let a1 fun x1 => jv_let (0 : Int32) fun x2 => jv_let ((h.1 40 0) - (1 : Int32)) fun x3 => f9_bedsBy_40_l13 jv_fuel a2 x1 x2 x3 h
set_option maxRecDepth 20000 in
theorem e9_bedsBy_40 {l : Launch} {d : Nat} (hd : 2 ≤ d) (a1 : Int32) (a2 : Int32) (h : jv_H) : jv_E l yX9_bedsBy cX9_bedsBy 7 (some .int) d (SC ++ SM) jv_ri [.ref 40, .int a1, .int a2] h (f9_bedsBy_40 a1 a2 h) := by
  refine e_of [(0, .ref 40), (1, .int a1), (2, .int a2)] rfl pn_X9 (fun _ => Nat.le_of_ble_eq_true rfl) (fun _ => rfl) ?_
  unfold f9_bedsBy_40
  refine v_iload_n 1 1 rfl dX9_bedsBy_0 rfl rfl ?_
  refine n_istore_n (fun x1 => [(0, .ref 40), (1, .int a1), (2, .int a2), (3, .int x1)]) 2 rfl dX9_bedsBy_1 rfl (Nat.le_of_ble_eq_true rfl) rfl (fun _ => rfl) (fun x1 => ?_)
  refine v_iconst 3 rfl dX9_bedsBy_2 ic_0 ?_
  refine n_istore (fun x2 => [(0, .ref 40), (1, .int a1), (2, .int a2), (3, .int x1), (4, .int x2)]) 5 rfl dX9_bedsBy_3 (Nat.le_of_ble_eq_true rfl) rfl (fun _ => rfl) (fun x2 => ?_)
  refine v_aload_n 0 6 rfl dX9_bedsBy_5 rfl rfl ?_
  refine v_geti 9 rfl fl_X9_71 sc_40 rfl dX9_bedsBy_6 ?_
  refine v_iconst 10 rfl dX9_bedsBy_9 ic_1 ?_
  refine v_isub 11 rfl dX9_bedsBy_10 ?_
  refine n_istore (fun x3 => [(0, .ref 40), (1, .int a1), (2, .int a2), (3, .int x1), (4, .int x2), (5, .int x3)]) 13 rfl dX9_bedsBy_11 (Nat.le_of_ble_eq_true rfl) rfl (fun _ => rfl) (fun x3 => ?_)
  refine v_sub [0, 2, 3, 4, 5] rfl ?_
  exact w9_bedsBy_40_l13 hd jv_fuel a2 x1 x2 x3 h
-- TemperNursesModel.beds(II)I at 40
def g9_beds_40_b120 (k62 : Int32 → Int32 → Int32 → Int32 → Int32 → jv_H → Option (Int32 × jv_H)) (a1 : Int32) (a2 : Int32) (a3 : Int32) (a4 : Int32) (a5 : Int32) (h : jv_H) : Option (Int32 × jv_H) := jv_let (a5 + (1 : Int32)) fun x1 => k62 a1 a2 a3 a4 x1 h
set_option maxRecDepth 20000 in
theorem b9_beds_40_b120 {l : Launch} {d : Nat} (hd : 3 ≤ d) (k62 : Int32 → Int32 → Int32 → Int32 → Int32 → jv_H → Option (Int32 × jv_H)) (hk62 : ∀ (a1 a2 a3 a4 a5 : Int32) (h : jv_H), jv_V l RX9 cX9_beds 8 (some .int) d (SC ++ SM) jv_ri 62 [(0, .ref 40), (1, .int a1), (2, .int a2), (3, .int a3), (4, .int a4), (5, .int a5)] [] h (k62 a1 a2 a3 a4 a5 h)) : ∀ (a1 : Int32) (a2 : Int32) (a3 : Int32) (a4 : Int32) (a5 : Int32) (h : jv_H), jv_V l RX9 cX9_beds 8 (some .int) d (SC ++ SM) jv_ri 120 [(0, .ref 40), (1, .int a1), (2, .int a2), (3, .int a3), (4, .int a4), (5, .int a5)] [] h (g9_beds_40_b120 k62 a1 a2 a3 a4 a5 h) := by
  intro a1 a2 a3 a4 a5 h
  unfold g9_beds_40_b120
  refine n_iinc (fun x1 => [(0, .ref 40), (1, .int a1), (2, .int a2), (3, .int a3), (4, .int a4), (5, .int x1)]) 5 123 rfl dX9_beds_120 rfl ic_1 (Nat.le_of_ble_eq_true rfl) rfl (fun _ => rfl) (fun x1 => ?_)
  refine v_goto 62 rfl dX9_beds_123 ?_
  exact hk62 a1 a2 a3 a4 x1 h
def g9_beds_40_b91 (k62 : Int32 → Int32 → Int32 → Int32 → Int32 → jv_H → Option (Int32 × jv_H)) (k91 : Int32 → Int32 → Int32 → Int32 → Int32 → Int32 → jv_H → Option (Int32 × jv_H)) (a1 : Int32) (a2 : Int32) (a3 : Int32) (a4 : Int32) (a5 : Int32) (a7 : Int32) (h : jv_H) : Option (Int32 × jv_H) := if (h.1 40 0) ≤ a7 then g9_beds_40_b120 k62 a1 a2 a3 a4 a5 h else if jv_ix a7 6 then if jv_ix a7 6 then jv_let (jv_p h 60 (Int32.toNatClampNeg a7) (h.1 59 (Int32.toNatClampNeg a7))) fun h1 => jv_let (a7 + (1 : Int32)) fun x2 => k91 a1 a2 a3 a4 a5 x2 h1 else none else none
set_option maxRecDepth 20000 in
theorem b9_beds_40_b91 {l : Launch} {d : Nat} (hd : 3 ≤ d) (k62 : Int32 → Int32 → Int32 → Int32 → Int32 → jv_H → Option (Int32 × jv_H)) (hk62 : ∀ (a1 a2 a3 a4 a5 : Int32) (h : jv_H), jv_V l RX9 cX9_beds 8 (some .int) d (SC ++ SM) jv_ri 62 [(0, .ref 40), (1, .int a1), (2, .int a2), (3, .int a3), (4, .int a4), (5, .int a5)] [] h (k62 a1 a2 a3 a4 a5 h)) (k91 : Int32 → Int32 → Int32 → Int32 → Int32 → Int32 → jv_H → Option (Int32 × jv_H)) (hk91 : ∀ (a1 a2 a3 a4 a5 a7 : Int32) (h : jv_H), jv_V l RX9 cX9_beds 8 (some .int) d (SC ++ SM) jv_ri 91 [(0, .ref 40), (1, .int a1), (2, .int a2), (3, .int a3), (4, .int a4), (5, .int a5), (7, .int a7)] [] h (k91 a1 a2 a3 a4 a5 a7 h)) : ∀ (a1 : Int32) (a2 : Int32) (a3 : Int32) (a4 : Int32) (a5 : Int32) (a7 : Int32) (h : jv_H), jv_V l RX9 cX9_beds 8 (some .int) d (SC ++ SM) jv_ri 91 [(0, .ref 40), (1, .int a1), (2, .int a2), (3, .int a3), (4, .int a4), (5, .int a5), (7, .int a7)] [] h (g9_beds_40_b91 k62 k91 a1 a2 a3 a4 a5 a7 h) := by
  intro a1 a2 a3 a4 a5 a7 h
  unfold g9_beds_40_b91
  refine v_iload 6 93 rfl dX9_beds_91 rfl ?_
  refine v_aload_n 0 94 rfl dX9_beds_93 rfl rfl ?_
  refine v_geti 97 rfl fl_X9_71 sc_40 rfl dX9_beds_94 ?_
  refine v_icmp_ge 120 100 rfl rfl dX9_beds_97 (fun _ => ?_) (fun _ => ?_)
  · refine v_sub [0, 1, 2, 3, 4, 5] rfl ?_
    exact b9_beds_40_b120 hd k62 hk62 a1 a2 a3 a4 a5 h
  · refine v_aload_n 0 101 rfl dX9_beds_100 rfl rfl ?_
    refine v_getr 104 rfl fl_X9_68 sc_40 rfl dX9_beds_101 ?_
    refine v_iload 6 106 rfl dX9_beds_104 rfl ?_
    refine v_aload_n 0 107 rfl dX9_beds_106 rfl rfl ?_
    refine v_getr 110 rfl fl_X9_65 sc_40 rfl dX9_beds_107 ?_
    refine v_iload 6 112 rfl dX9_beds_110 rfl ?_
    refine v_iald 113 rfl sc_59 dX9_beds_112 (fun _ => ?_)
    refine n_iast 114 rfl sc_60 dX9_beds_113 (fun h1 => ?_)
    refine n_iinc (fun x2 => [(0, .ref 40), (1, .int a1), (2, .int a2), (3, .int a3), (4, .int a4), (5, .int a5), (7, .int x2)]) 6 117 rfl dX9_beds_114 rfl ic_1 (Nat.le_of_ble_eq_true rfl) rfl (fun _ => rfl) (fun x2 => ?_)
    refine v_goto 91 rfl dX9_beds_117 ?_
    exact hk91 a1 a2 a3 a4 a5 x2 h1
def f9_beds_40_l91 (k62 : Int32 → Int32 → Int32 → Int32 → Int32 → jv_H → Option (Int32 × jv_H)) : Nat → Int32 → Int32 → Int32 → Int32 → Int32 → Int32 → jv_H → Option (Int32 × jv_H)
  | 0 => fun _ _ _ _ _ _ _ => none
  | n + 1 => fun a1 a2 a3 a4 a5 a7 h => g9_beds_40_b91 k62 (f9_beds_40_l91 k62 n) a1 a2 a3 a4 a5 a7 h
theorem w9_beds_40_l91 {l : Launch} {d : Nat} (hd : 3 ≤ d) (k62 : Int32 → Int32 → Int32 → Int32 → Int32 → jv_H → Option (Int32 × jv_H)) (hk62 : ∀ (a1 a2 a3 a4 a5 : Int32) (h : jv_H), jv_V l RX9 cX9_beds 8 (some .int) d (SC ++ SM) jv_ri 62 [(0, .ref 40), (1, .int a1), (2, .int a2), (3, .int a3), (4, .int a4), (5, .int a5)] [] h (k62 a1 a2 a3 a4 a5 h)) : ∀ (n : Nat) (a1 : Int32) (a2 : Int32) (a3 : Int32) (a4 : Int32) (a5 : Int32) (a7 : Int32) (h : jv_H), jv_V l RX9 cX9_beds 8 (some .int) d (SC ++ SM) jv_ri 91 [(0, .ref 40), (1, .int a1), (2, .int a2), (3, .int a3), (4, .int a4), (5, .int a5), (7, .int a7)] [] h (f9_beds_40_l91 k62 n a1 a2 a3 a4 a5 a7 h) := by
  intro n
  induction n with
  | zero => intro a1 a2 a3 a4 a5 a7 h; exact v_none
  | succ n ih => intro a1 a2 a3 a4 a5 a7 h; exact b9_beds_40_b91 hd k62 hk62 (f9_beds_40_l91 k62 n) ih a1 a2 a3 a4 a5 a7 h
def g9_beds_40_b62 (k62 : Int32 → Int32 → Int32 → Int32 → Int32 → jv_H → Option (Int32 × jv_H)) (a1 : Int32) (a2 : Int32) (a3 : Int32) (a4 : Int32) (a5 : Int32) (h : jv_H) : Option (Int32 × jv_H) := if a3 ≤ a5 then if a2 = (-1 : Int32) then some (a4, h) else if jv_ix a2 6 then if (h.1 60 (Int32.toNatClampNeg a2)) = (h.1 40 0) then some ((-9 : Int32), h) else if jv_ix a2 6 then some ((h.1 60 (Int32.toNatClampNeg a2)), h) else none else none else (f9_bedsBy_40 a5 a1 h).bind fun q1 => jv_let q1.1 fun x2 => if x2 ≤ a4 then g9_beds_40_b120 k62 a1 a2 a3 a4 a5 q1.2 else jv_let x2 fun x3 => jv_let (0 : Int32) fun x4 => f9_beds_40_l91 k62 jv_fuel a1 a2 a3 x3 a5 x4 q1.2
set_option maxRecDepth 20000 in
theorem b9_beds_40_b62 {l : Launch} {d : Nat} (hd : 3 ≤ d) (k62 : Int32 → Int32 → Int32 → Int32 → Int32 → jv_H → Option (Int32 × jv_H)) (hk62 : ∀ (a1 a2 a3 a4 a5 : Int32) (h : jv_H), jv_V l RX9 cX9_beds 8 (some .int) d (SC ++ SM) jv_ri 62 [(0, .ref 40), (1, .int a1), (2, .int a2), (3, .int a3), (4, .int a4), (5, .int a5)] [] h (k62 a1 a2 a3 a4 a5 h)) : ∀ (a1 : Int32) (a2 : Int32) (a3 : Int32) (a4 : Int32) (a5 : Int32) (h : jv_H), jv_V l RX9 cX9_beds 8 (some .int) d (SC ++ SM) jv_ri 62 [(0, .ref 40), (1, .int a1), (2, .int a2), (3, .int a3), (4, .int a4), (5, .int a5)] [] h (g9_beds_40_b62 k62 a1 a2 a3 a4 a5 h) := by
  intro a1 a2 a3 a4 a5 h
  unfold g9_beds_40_b62
  refine v_iload 5 64 rfl dX9_beds_62 rfl ?_
  refine v_iload_n 3 65 rfl dX9_beds_64 rfl rfl ?_
  refine v_icmp_ge 126 68 rfl rfl dX9_beds_65 (fun _ => ?_) (fun _ => ?_)
  · refine v_iload_n 2 127 rfl dX9_beds_126 rfl rfl ?_
    refine v_iconst 128 rfl dX9_beds_127 ic_m1 ?_
    refine v_icmp_ne 136 131 rfl rfl dX9_beds_128 (fun _ => ?_) (fun _ => ?_)
    · refine v_aload_n 0 137 rfl dX9_beds_136 rfl rfl ?_
      refine v_getr 140 rfl fl_X9_68 sc_40 rfl dX9_beds_137 ?_
      refine v_iload_n 2 141 rfl dX9_beds_140 rfl rfl ?_
      refine v_iald 142 rfl sc_60 dX9_beds_141 (fun _ => ?_)
      refine v_aload_n 0 143 rfl dX9_beds_142 rfl rfl ?_
      refine v_geti 146 rfl fl_X9_71 sc_40 rfl dX9_beds_143 ?_
      refine v_icmp_ne 154 149 rfl rfl dX9_beds_146 (fun _ => ?_) (fun _ => ?_)
      · refine v_aload_n 0 155 rfl dX9_beds_154 rfl rfl ?_
        refine v_getr 158 rfl fl_X9_68 sc_40 rfl dX9_beds_155 ?_
        refine v_iload_n 2 159 rfl dX9_beds_158 rfl rfl ?_
        refine v_iald 160 rfl sc_60 dX9_beds_159 (fun _ => ?_)
        exact v_iret rfl dX9_beds_160
      · refine v_bipush 151 rfl dX9_beds_149 bp_m9 ?_
        refine v_goto 160 rfl dX9_beds_151 ?_
        exact v_iret rfl dX9_beds_160
    · refine v_iload 4 133 rfl dX9_beds_131 rfl ?_
      refine v_goto 160 rfl dX9_beds_133 ?_
      exact v_iret rfl dX9_beds_160
  · refine v_aload_n 0 69 rfl dX9_beds_68 rfl rfl ?_
    refine v_iload 5 71 rfl dX9_beds_69 rfl ?_
    refine v_iload_n 1 72 rfl dX9_beds_71 rfl rfl ?_
    refine n_callv [.int a5, .int a1] [] (fun r => .int r :: []) 75 rfl (by omega) (Nat.le_of_ble_eq_true rfl) cb_X9_bedsBy cv_X9_213 sc_40 cn_X9 rfl (Nat.le_of_ble_eq_true rfl) dX9_beds_72 rfl (fun _ => rfl) (e9_bedsBy_40 (by omega) a5 a1 h) (fun q1 => ?_)
    refine n_istore (fun x2 => [(0, .ref 40), (1, .int a1), (2, .int a2), (3, .int a3), (4, .int a4), (5, .int a5), (6, .int x2)]) 77 rfl dX9_beds_75 (Nat.le_of_ble_eq_true rfl) rfl (fun _ => rfl) (fun x2 => ?_)
    refine v_iload 6 79 rfl dX9_beds_77 rfl ?_
    refine v_iload 4 81 rfl dX9_beds_79 rfl ?_
    refine v_icmp_le 120 84 rfl rfl dX9_beds_81 (fun _ => ?_) (fun _ => ?_)
    · refine v_sub [0, 1, 2, 3, 4, 5] rfl ?_
      exact b9_beds_40_b120 hd k62 hk62 a1 a2 a3 a4 a5 q1.2
    · refine v_iload 6 86 rfl dX9_beds_84 rfl ?_
      refine n_istore (fun x3 => [(0, .ref 40), (1, .int a1), (2, .int a2), (3, .int a3), (4, .int x3), (5, .int a5), (6, .int x2)]) 88 rfl dX9_beds_86 (Nat.le_of_ble_eq_true rfl) rfl (fun _ => rfl) (fun x3 => ?_)
      refine v_iconst 89 rfl dX9_beds_88 ic_0 ?_
      refine n_istore (fun x4 => [(0, .ref 40), (1, .int a1), (2, .int a2), (3, .int a3), (4, .int x3), (5, .int a5), (6, .int x2), (7, .int x4)]) 91 rfl dX9_beds_89 (Nat.le_of_ble_eq_true rfl) rfl (fun _ => rfl) (fun x4 => ?_)
      refine v_sub [0, 1, 2, 3, 4, 5, 7] rfl ?_
      exact w9_beds_40_l91 hd k62 hk62 jv_fuel a1 a2 a3 x3 a5 x4 q1.2
def f9_beds_40_l62 : Nat → Int32 → Int32 → Int32 → Int32 → Int32 → jv_H → Option (Int32 × jv_H)
  | 0 => fun _ _ _ _ _ _ => none
  | n + 1 => fun a1 a2 a3 a4 a5 h => g9_beds_40_b62 (f9_beds_40_l62 n) a1 a2 a3 a4 a5 h
theorem w9_beds_40_l62 {l : Launch} {d : Nat} (hd : 3 ≤ d) : ∀ (n : Nat) (a1 : Int32) (a2 : Int32) (a3 : Int32) (a4 : Int32) (a5 : Int32) (h : jv_H), jv_V l RX9 cX9_beds 8 (some .int) d (SC ++ SM) jv_ri 62 [(0, .ref 40), (1, .int a1), (2, .int a2), (3, .int a3), (4, .int a4), (5, .int a5)] [] h (f9_beds_40_l62 n a1 a2 a3 a4 a5 h) := by
  intro n
  induction n with
  | zero => intro a1 a2 a3 a4 a5 h; exact v_none
  | succ n ih => intro a1 a2 a3 a4 a5 h; exact b9_beds_40_b62 hd (f9_beds_40_l62 n) ih a1 a2 a3 a4 a5 h
def g9_beds_40_b35 (k35 : Int32 → Int32 → Int32 → Int32 → Int32 → jv_H → Option (Int32 × jv_H)) (a1 : Int32) (a2 : Int32) (a3 : Int32) (a4 : Int32) (a5 : Int32) (h : jv_H) : Option (Int32 × jv_H) := if (h.1 40 0) ≤ a5 then jv_let (0 : Int32) fun x1 => f9_beds_40_l62 jv_fuel a1 a2 a3 a4 x1 h else jv_let (a3 * ((h.1 40 0) + (1 : Int32))) fun x2 => jv_let (a5 + (1 : Int32)) fun x3 => k35 a1 a2 x2 a4 x3 h
set_option maxRecDepth 20000 in
theorem b9_beds_40_b35 {l : Launch} {d : Nat} (hd : 3 ≤ d) (k35 : Int32 → Int32 → Int32 → Int32 → Int32 → jv_H → Option (Int32 × jv_H)) (hk35 : ∀ (a1 a2 a3 a4 a5 : Int32) (h : jv_H), jv_V l RX9 cX9_beds 8 (some .int) d (SC ++ SM) jv_ri 35 [(0, .ref 40), (1, .int a1), (2, .int a2), (3, .int a3), (4, .int a4), (5, .int a5)] [] h (k35 a1 a2 a3 a4 a5 h)) : ∀ (a1 : Int32) (a2 : Int32) (a3 : Int32) (a4 : Int32) (a5 : Int32) (h : jv_H), jv_V l RX9 cX9_beds 8 (some .int) d (SC ++ SM) jv_ri 35 [(0, .ref 40), (1, .int a1), (2, .int a2), (3, .int a3), (4, .int a4), (5, .int a5)] [] h (g9_beds_40_b35 k35 a1 a2 a3 a4 a5 h) := by
  intro a1 a2 a3 a4 a5 h
  unfold g9_beds_40_b35
  refine v_iload 5 37 rfl dX9_beds_35 rfl ?_
  refine v_aload_n 0 38 rfl dX9_beds_37 rfl rfl ?_
  refine v_geti 41 rfl fl_X9_71 sc_40 rfl dX9_beds_38 ?_
  refine v_icmp_ge 59 44 rfl rfl dX9_beds_41 (fun _ => ?_) (fun _ => ?_)
  · refine v_iconst 60 rfl dX9_beds_59 ic_0 ?_
    refine n_istore (fun x1 => [(0, .ref 40), (1, .int a1), (2, .int a2), (3, .int a3), (4, .int a4), (5, .int x1)]) 62 rfl dX9_beds_60 (Nat.le_of_ble_eq_true rfl) rfl (fun _ => rfl) (fun x1 => ?_)
    exact w9_beds_40_l62 hd jv_fuel a1 a2 a3 a4 x1 h
  · refine v_iload_n 3 45 rfl dX9_beds_44 rfl rfl ?_
    refine v_aload_n 0 46 rfl dX9_beds_45 rfl rfl ?_
    refine v_geti 49 rfl fl_X9_71 sc_40 rfl dX9_beds_46 ?_
    refine v_iconst 50 rfl dX9_beds_49 ic_1 ?_
    refine v_iadd 51 rfl dX9_beds_50 ?_
    refine v_imul 52 rfl dX9_beds_51 ?_
    refine n_istore_n (fun x2 => [(0, .ref 40), (1, .int a1), (2, .int a2), (3, .int x2), (4, .int a4), (5, .int a5)]) 53 rfl dX9_beds_52 rfl (Nat.le_of_ble_eq_true rfl) rfl (fun _ => rfl) (fun x2 => ?_)
    refine n_iinc (fun x3 => [(0, .ref 40), (1, .int a1), (2, .int a2), (3, .int x2), (4, .int a4), (5, .int x3)]) 5 56 rfl dX9_beds_53 rfl ic_1 (Nat.le_of_ble_eq_true rfl) rfl (fun _ => rfl) (fun x3 => ?_)
    refine v_goto 35 rfl dX9_beds_56 ?_
    exact hk35 a1 a2 x2 a4 x3 h
def f9_beds_40_l35 : Nat → Int32 → Int32 → Int32 → Int32 → Int32 → jv_H → Option (Int32 × jv_H)
  | 0 => fun _ _ _ _ _ _ => none
  | n + 1 => fun a1 a2 a3 a4 a5 h => g9_beds_40_b35 (f9_beds_40_l35 n) a1 a2 a3 a4 a5 h
theorem w9_beds_40_l35 {l : Launch} {d : Nat} (hd : 3 ≤ d) : ∀ (n : Nat) (a1 : Int32) (a2 : Int32) (a3 : Int32) (a4 : Int32) (a5 : Int32) (h : jv_H), jv_V l RX9 cX9_beds 8 (some .int) d (SC ++ SM) jv_ri 35 [(0, .ref 40), (1, .int a1), (2, .int a2), (3, .int a3), (4, .int a4), (5, .int a5)] [] h (f9_beds_40_l35 n a1 a2 a3 a4 a5 h) := by
  intro n
  induction n with
  | zero => intro a1 a2 a3 a4 a5 h; exact v_none
  | succ n ih => intro a1 a2 a3 a4 a5 h; exact b9_beds_40_b35 hd (f9_beds_40_l35 n) ih a1 a2 a3 a4 a5 h
def g9_beds_40_b27 (a1 : Int32) (a2 : Int32) (h : jv_H) : Option (Int32 × jv_H) := jv_let (1 : Int32) fun x1 => jv_let (-1 : Int32) fun x2 => jv_let (0 : Int32) fun x3 => f9_beds_40_l35 jv_fuel a1 a2 x1 x2 x3 h
set_option maxRecDepth 20000 in
theorem b9_beds_40_b27 {l : Launch} {d : Nat} (hd : 3 ≤ d) : ∀ (a1 : Int32) (a2 : Int32) (h : jv_H), jv_V l RX9 cX9_beds 8 (some .int) d (SC ++ SM) jv_ri 27 [(0, .ref 40), (1, .int a1), (2, .int a2)] [] h (g9_beds_40_b27 a1 a2 h) := by
  intro a1 a2 h
  unfold g9_beds_40_b27
  refine v_iconst 28 rfl dX9_beds_27 ic_1 ?_
  refine n_istore_n (fun x1 => [(0, .ref 40), (1, .int a1), (2, .int a2), (3, .int x1)]) 29 rfl dX9_beds_28 rfl (Nat.le_of_ble_eq_true rfl) rfl (fun _ => rfl) (fun x1 => ?_)
  refine v_iconst 30 rfl dX9_beds_29 ic_m1 ?_
  refine n_istore (fun x2 => [(0, .ref 40), (1, .int a1), (2, .int a2), (3, .int x1), (4, .int x2)]) 32 rfl dX9_beds_30 (Nat.le_of_ble_eq_true rfl) rfl (fun _ => rfl) (fun x2 => ?_)
  refine v_iconst 33 rfl dX9_beds_32 ic_0 ?_
  refine n_istore (fun x3 => [(0, .ref 40), (1, .int a1), (2, .int a2), (3, .int x1), (4, .int x2), (5, .int x3)]) 35 rfl dX9_beds_33 (Nat.le_of_ble_eq_true rfl) rfl (fun _ => rfl) (fun x3 => ?_)
  exact w9_beds_40_l35 hd jv_fuel a1 a2 x1 x2 x3 h
def f9_beds_40 (a1 : Int32) (a2 : Int32) (h : jv_H) : Option (Int32 × jv_H) := (f9_in (Int32.toInt64 a1) (0 : Int64) (198 : Int64) h).bind fun q1 => if q1.1 = 0 then some ((-1 : Int32), q1.2) else if a2 = (-1 : Int32) then g9_beds_40_b27 a1 a2 q1.2 else (f9_isTemper_40 a2 q1.2).bind fun q2 => if q2.1 = 0 then some ((-1 : Int32), q2.2) else g9_beds_40_b27 a1 a2 q2.2
set_option maxRecDepth 20000 in
theorem e9_beds_40 {l : Launch} {d : Nat} (hd : 3 ≤ d) (a1 : Int32) (a2 : Int32) (h : jv_H) : jv_E l yX9_beds cX9_beds 8 (some .int) d (SC ++ SM) jv_ri [.ref 40, .int a1, .int a2] h (f9_beds_40 a1 a2 h) := by
  refine e_of [(0, .ref 40), (1, .int a1), (2, .int a2)] rfl pn_X9 (fun _ => Nat.le_of_ble_eq_true rfl) (fun _ => rfl) ?_
  unfold f9_beds_40
  refine v_iload_n 1 1 rfl dX9_beds_0 rfl rfl ?_
  refine v_i2l 2 rfl dX9_beds_1 ?_
  refine v_lconst (v := (0 : Int64)) 3 rfl dX9_beds_2 rfl ?_
  refine v_ldc2 6 rfl mw_1090 dX9_beds_3 ?_
  refine n_calls [.long (Int32.toInt64 a1), .long (0 : Int64), .long (198 : Int64)] [] (fun r => .int r :: []) 9 rfl (by omega) (Nat.le_of_ble_eq_true rfl) cb_X9_in cs_X9_75 rfl (Nat.le_of_ble_eq_true rfl) dX9_beds_6 rfl (fun _ => rfl) (e9_in (by omega) (Int32.toInt64 a1) (0 : Int64) (198 : Int64) h) (fun q1 => ?_)
  refine v_if_eq 25 12 rfl rfl dX9_beds_9 (fun _ => ?_) (fun _ => ?_)
  · refine v_iconst 26 rfl dX9_beds_25 ic_m1 ?_
    exact v_iret rfl dX9_beds_26
  · refine v_iload_n 2 13 rfl dX9_beds_12 rfl rfl ?_
    refine v_iconst 14 rfl dX9_beds_13 ic_m1 ?_
    refine v_icmp_eq 27 17 rfl rfl dX9_beds_14 (fun _ => ?_) (fun _ => ?_)
    · exact b9_beds_40_b27 hd a1 a2 q1.2
    · refine v_aload_n 0 18 rfl dX9_beds_17 rfl rfl ?_
      refine v_iload_n 2 19 rfl dX9_beds_18 rfl rfl ?_
      refine n_callv [.int a2] [] (fun r => .int r :: []) 22 rfl (by omega) (Nat.le_of_ble_eq_true rfl) cb_X9_isTemper cv_X9_149 sc_40 cn_X9 rfl (Nat.le_of_ble_eq_true rfl) dX9_beds_19 rfl (fun _ => rfl) (e9_isTemper_40 (by omega) a2 q1.2) (fun q2 => ?_)
      refine v_if_ne 27 25 rfl rfl dX9_beds_22 (fun _ => ?_) (fun _ => ?_)
      · exact b9_beds_40_b27 hd a1 a2 q2.2
      · refine v_iconst 26 rfl dX9_beds_25 ic_m1 ?_
        exact v_iret rfl dX9_beds_26
-- TemperNursesModel.odds(III)I at 40
def g9_odds_40_b137 (k82 : Int32 → Int32 → Int32 → Int32 → Int32 → Int32 → Int32 → jv_H → Option (Int32 × jv_H)) (k110 : Int32 → Int32 → Int32 → Int32 → Int32 → Int32 → Int32 → Int32 → Int32 → jv_H → Option (Int32 × jv_H)) (a1 : Int32) (a2 : Int32) (a3 : Int32) (a4 : Int32) (a5 : Int32) (a6 : Int32) (a7 : Int32) (a9 : Int32) (s0 : Int32) (s1 : Int32) (h : jv_H) : Option (Int32 × jv_H) := jv_let (s0 * s1) fun x1 => jv_let (a9 + (1 : Int32)) fun x2 => k110 a1 a2 a3 a4 a5 a6 a7 x1 x2 h
set_option maxRecDepth 20000 in
theorem b9_odds_40_b137 {l : Launch} {d : Nat} (hd : 2 ≤ d) (k82 : Int32 → Int32 → Int32 → Int32 → Int32 → Int32 → Int32 → jv_H → Option (Int32 × jv_H)) (hk82 : ∀ (a1 a2 a3 a4 a5 a6 a7 : Int32) (h : jv_H), jv_V l RX9 cX9_odds 10 (some .int) d (SC ++ SM) jv_ri 82 [(1, .int a1), (2, .int a2), (3, .int a3), (4, .int a4), (5, .int a5), (6, .int a6), (7, .int a7)] [] h (k82 a1 a2 a3 a4 a5 a6 a7 h)) (k110 : Int32 → Int32 → Int32 → Int32 → Int32 → Int32 → Int32 → Int32 → Int32 → jv_H → Option (Int32 × jv_H)) (hk110 : ∀ (a1 a2 a3 a4 a5 a6 a7 a8 a9 : Int32) (h : jv_H), jv_V l RX9 cX9_odds 10 (some .int) d (SC ++ SM) jv_ri 110 [(1, .int a1), (2, .int a2), (3, .int a3), (4, .int a4), (5, .int a5), (6, .int a6), (7, .int a7), (8, .int a8), (9, .int a9)] [] h (k110 a1 a2 a3 a4 a5 a6 a7 a8 a9 h)) : ∀ (a1 : Int32) (a2 : Int32) (a3 : Int32) (a4 : Int32) (a5 : Int32) (a6 : Int32) (a7 : Int32) (a9 : Int32) (s0 : Int32) (s1 : Int32) (h : jv_H), jv_V l RX9 cX9_odds 10 (some .int) d (SC ++ SM) jv_ri 137 [(1, .int a1), (2, .int a2), (3, .int a3), (4, .int a4), (5, .int a5), (6, .int a6), (7, .int a7), (9, .int a9)] [.int s1, .int s0] h (g9_odds_40_b137 k82 k110 a1 a2 a3 a4 a5 a6 a7 a9 s0 s1 h) := by
  intro a1 a2 a3 a4 a5 a6 a7 a9 s0 s1 h
  unfold g9_odds_40_b137
  refine v_imul 138 rfl dX9_odds_137 ?_
  refine n_istore (fun x1 => [(1, .int a1), (2, .int a2), (3, .int a3), (4, .int a4), (5, .int a5), (6, .int a6), (7, .int a7), (9, .int a9), (8, .int x1)]) 140 rfl dX9_odds_138 (Nat.le_of_ble_eq_true rfl) rfl (fun _ => rfl) (fun x1 => ?_)
  refine n_iinc (fun x2 => [(1, .int a1), (2, .int a2), (3, .int a3), (4, .int a4), (5, .int a5), (6, .int a6), (7, .int a7), (9, .int x2), (8, .int x1)]) 7 143 rfl dX9_odds_140 rfl ic_1 (Nat.le_of_ble_eq_true rfl) rfl (fun _ => rfl) (fun x2 => ?_)
  refine v_goto 110 rfl dX9_odds_143 ?_
  refine v_sub [0, 1, 2, 3, 4, 5, 6, 8, 7] rfl ?_
  exact hk110 a1 a2 a3 a4 a5 a6 a7 x1 x2 h
def g9_odds_40_b110 (k82 : Int32 → Int32 → Int32 → Int32 → Int32 → Int32 → Int32 → jv_H → Option (Int32 × jv_H)) (k110 : Int32 → Int32 → Int32 → Int32 → Int32 → Int32 → Int32 → Int32 → Int32 → jv_H → Option (Int32 × jv_H)) (a1 : Int32) (a2 : Int32) (a3 : Int32) (a4 : Int32) (a5 : Int32) (a6 : Int32) (a7 : Int32) (a8 : Int32) (a9 : Int32) (h : jv_H) : Option (Int32 × jv_H) := if a4 ≤ a9 then jv_let (a5 + a8) fun x1 => jv_let (a7 + (1 : Int32)) fun x2 => k82 a1 a2 a3 a4 x1 a6 x2 h else (f9_has a7 a9 h).bind fun q3 => if q3.1 = 0 then g9_odds_40_b137 k82 k110 a1 a2 a3 a4 a5 a6 a7 a9 a8 ((10 : Int32) - a1) q3.2 else g9_odds_40_b137 k82 k110 a1 a2 a3 a4 a5 a6 a7 a9 a8 a1 q3.2
set_option maxRecDepth 20000 in
theorem b9_odds_40_b110 {l : Launch} {d : Nat} (hd : 2 ≤ d) (k82 : Int32 → Int32 → Int32 → Int32 → Int32 → Int32 → Int32 → jv_H → Option (Int32 × jv_H)) (hk82 : ∀ (a1 a2 a3 a4 a5 a6 a7 : Int32) (h : jv_H), jv_V l RX9 cX9_odds 10 (some .int) d (SC ++ SM) jv_ri 82 [(1, .int a1), (2, .int a2), (3, .int a3), (4, .int a4), (5, .int a5), (6, .int a6), (7, .int a7)] [] h (k82 a1 a2 a3 a4 a5 a6 a7 h)) (k110 : Int32 → Int32 → Int32 → Int32 → Int32 → Int32 → Int32 → Int32 → Int32 → jv_H → Option (Int32 × jv_H)) (hk110 : ∀ (a1 a2 a3 a4 a5 a6 a7 a8 a9 : Int32) (h : jv_H), jv_V l RX9 cX9_odds 10 (some .int) d (SC ++ SM) jv_ri 110 [(1, .int a1), (2, .int a2), (3, .int a3), (4, .int a4), (5, .int a5), (6, .int a6), (7, .int a7), (8, .int a8), (9, .int a9)] [] h (k110 a1 a2 a3 a4 a5 a6 a7 a8 a9 h)) : ∀ (a1 : Int32) (a2 : Int32) (a3 : Int32) (a4 : Int32) (a5 : Int32) (a6 : Int32) (a7 : Int32) (a8 : Int32) (a9 : Int32) (h : jv_H), jv_V l RX9 cX9_odds 10 (some .int) d (SC ++ SM) jv_ri 110 [(1, .int a1), (2, .int a2), (3, .int a3), (4, .int a4), (5, .int a5), (6, .int a6), (7, .int a7), (8, .int a8), (9, .int a9)] [] h (g9_odds_40_b110 k82 k110 a1 a2 a3 a4 a5 a6 a7 a8 a9 h) := by
  intro a1 a2 a3 a4 a5 a6 a7 a8 a9 h
  unfold g9_odds_40_b110
  refine v_iload 8 112 rfl dX9_odds_110 rfl ?_
  refine v_iload 3 114 rfl dX9_odds_112 rfl ?_
  refine v_icmp_ge 146 117 rfl rfl dX9_odds_114 (fun _ => ?_) (fun _ => ?_)
  · refine v_iload 4 148 rfl dX9_odds_146 rfl ?_
    refine v_iload 7 150 rfl dX9_odds_148 rfl ?_
    refine v_iadd 151 rfl dX9_odds_150 ?_
    refine n_istore (fun x1 => [(1, .int a1), (2, .int a2), (3, .int a3), (4, .int a4), (5, .int x1), (6, .int a6), (7, .int a7), (8, .int a8), (9, .int a9)]) 153 rfl dX9_odds_151 (Nat.le_of_ble_eq_true rfl) rfl (fun _ => rfl) (fun x1 => ?_)
    refine n_iinc (fun x2 => [(1, .int a1), (2, .int a2), (3, .int a3), (4, .int a4), (5, .int x1), (6, .int a6), (7, .int x2), (8, .int a8), (9, .int a9)]) 6 156 rfl dX9_odds_153 rfl ic_1 (Nat.le_of_ble_eq_true rfl) rfl (fun _ => rfl) (fun x2 => ?_)
    refine v_goto 82 rfl dX9_odds_156 ?_
    refine v_sub [0, 1, 2, 3, 4, 5, 6] rfl ?_
    exact hk82 a1 a2 a3 a4 x1 a6 x2 h
  · refine v_iload 7 119 rfl dX9_odds_117 rfl ?_
    refine v_iload 6 121 rfl dX9_odds_119 rfl ?_
    refine v_iload 8 123 rfl dX9_odds_121 rfl ?_
    refine n_calls [.int a7, .int a9] [.int a8] (fun r => .int r :: [.int a8]) 126 rfl (by omega) (Nat.le_of_ble_eq_true rfl) cb_X9_has cs_X9_205 rfl (Nat.le_of_ble_eq_true rfl) dX9_odds_123 rfl (fun _ => rfl) (e9_has (by omega) a7 a9 h) (fun q3 => ?_)
    refine v_if_eq 133 129 rfl rfl dX9_odds_126 (fun _ => ?_) (fun _ => ?_)
    · refine v_bipush 135 rfl dX9_odds_133 bp_10 ?_
      refine v_iload_n 0 136 rfl dX9_odds_135 rfl rfl ?_
      refine v_isub 137 rfl dX9_odds_136 ?_
      refine v_sub [0, 1, 2, 3, 4, 5, 6, 8] rfl ?_
      exact b9_odds_40_b137 hd k82 hk82 k110 hk110 a1 a2 a3 a4 a5 a6 a7 a9 a8 ((10 : Int32) - a1) q3.2
    · refine v_iload_n 0 130 rfl dX9_odds_129 rfl rfl ?_
      refine v_goto 137 rfl dX9_odds_130 ?_
      refine v_sub [0, 1, 2, 3, 4, 5, 6, 8] rfl ?_
      exact b9_odds_40_b137 hd k82 hk82 k110 hk110 a1 a2 a3 a4 a5 a6 a7 a9 a8 a1 q3.2
def f9_odds_40_l110 (k82 : Int32 → Int32 → Int32 → Int32 → Int32 → Int32 → Int32 → jv_H → Option (Int32 × jv_H)) : Nat → Int32 → Int32 → Int32 → Int32 → Int32 → Int32 → Int32 → Int32 → Int32 → jv_H → Option (Int32 × jv_H)
  | 0 => fun _ _ _ _ _ _ _ _ _ _ => none
  | n + 1 => fun a1 a2 a3 a4 a5 a6 a7 a8 a9 h => g9_odds_40_b110 k82 (f9_odds_40_l110 k82 n) a1 a2 a3 a4 a5 a6 a7 a8 a9 h
theorem w9_odds_40_l110 {l : Launch} {d : Nat} (hd : 2 ≤ d) (k82 : Int32 → Int32 → Int32 → Int32 → Int32 → Int32 → Int32 → jv_H → Option (Int32 × jv_H)) (hk82 : ∀ (a1 a2 a3 a4 a5 a6 a7 : Int32) (h : jv_H), jv_V l RX9 cX9_odds 10 (some .int) d (SC ++ SM) jv_ri 82 [(1, .int a1), (2, .int a2), (3, .int a3), (4, .int a4), (5, .int a5), (6, .int a6), (7, .int a7)] [] h (k82 a1 a2 a3 a4 a5 a6 a7 h)) : ∀ (n : Nat) (a1 : Int32) (a2 : Int32) (a3 : Int32) (a4 : Int32) (a5 : Int32) (a6 : Int32) (a7 : Int32) (a8 : Int32) (a9 : Int32) (h : jv_H), jv_V l RX9 cX9_odds 10 (some .int) d (SC ++ SM) jv_ri 110 [(1, .int a1), (2, .int a2), (3, .int a3), (4, .int a4), (5, .int a5), (6, .int a6), (7, .int a7), (8, .int a8), (9, .int a9)] [] h (f9_odds_40_l110 k82 n a1 a2 a3 a4 a5 a6 a7 a8 a9 h) := by
  intro n
  induction n with
  | zero => intro a1 a2 a3 a4 a5 a6 a7 a8 a9 h; exact v_none
  | succ n ih => intro a1 a2 a3 a4 a5 a6 a7 a8 a9 h; exact b9_odds_40_b110 hd k82 hk82 (f9_odds_40_l110 k82 n) ih a1 a2 a3 a4 a5 a6 a7 a8 a9 h
def g9_odds_40_b105 (k82 : Int32 → Int32 → Int32 → Int32 → Int32 → Int32 → Int32 → jv_H → Option (Int32 × jv_H)) (a1 : Int32) (a2 : Int32) (a3 : Int32) (a4 : Int32) (a5 : Int32) (a6 : Int32) (a7 : Int32) (s0 : Int32) (h : jv_H) : Option (Int32 × jv_H) := jv_let s0 fun x1 => jv_let (0 : Int32) fun x2 => f9_odds_40_l110 k82 jv_fuel a1 a2 a3 a4 a5 a6 a7 x1 x2 h
set_option maxRecDepth 20000 in
theorem b9_odds_40_b105 {l : Launch} {d : Nat} (hd : 2 ≤ d) (k82 : Int32 → Int32 → Int32 → Int32 → Int32 → Int32 → Int32 → jv_H → Option (Int32 × jv_H)) (hk82 : ∀ (a1 a2 a3 a4 a5 a6 a7 : Int32) (h : jv_H), jv_V l RX9 cX9_odds 10 (some .int) d (SC ++ SM) jv_ri 82 [(1, .int a1), (2, .int a2), (3, .int a3), (4, .int a4), (5, .int a5), (6, .int a6), (7, .int a7)] [] h (k82 a1 a2 a3 a4 a5 a6 a7 h)) : ∀ (a1 : Int32) (a2 : Int32) (a3 : Int32) (a4 : Int32) (a5 : Int32) (a6 : Int32) (a7 : Int32) (s0 : Int32) (h : jv_H), jv_V l RX9 cX9_odds 10 (some .int) d (SC ++ SM) jv_ri 105 [(1, .int a1), (2, .int a2), (3, .int a3), (4, .int a4), (5, .int a5), (6, .int a6), (7, .int a7)] [.int s0] h (g9_odds_40_b105 k82 a1 a2 a3 a4 a5 a6 a7 s0 h) := by
  intro a1 a2 a3 a4 a5 a6 a7 s0 h
  unfold g9_odds_40_b105
  refine n_istore (fun x1 => [(1, .int a1), (2, .int a2), (3, .int a3), (4, .int a4), (5, .int a5), (6, .int a6), (7, .int a7), (8, .int x1)]) 107 rfl dX9_odds_105 (Nat.le_of_ble_eq_true rfl) rfl (fun _ => rfl) (fun x1 => ?_)
  refine v_iconst 108 rfl dX9_odds_107 ic_0 ?_
  refine n_istore (fun x2 => [(1, .int a1), (2, .int a2), (3, .int a3), (4, .int a4), (5, .int a5), (6, .int a6), (7, .int a7), (8, .int x1), (9, .int x2)]) 110 rfl dX9_odds_108 (Nat.le_of_ble_eq_true rfl) rfl (fun _ => rfl) (fun x2 => ?_)
  exact w9_odds_40_l110 hd k82 hk82 jv_fuel a1 a2 a3 a4 a5 a6 a7 x1 x2 h
def g9_odds_40_b167 (k167 : Int32 → Int32 → Int32 → Int32 → Int32 → jv_H → Option (Int32 × jv_H)) (a3 : Int32) (a5 : Int32) (a6 : Int32) (a7 : Int32) (a8 : Int32) (h : jv_H) : Option (Int32 × jv_H) := if a8 = 0 then if a3 = 0 then if a7 = 0 then none else some ((a5 / a7), h) else if a7 = 0 then none else some ((a6 / a7), h) else if a8 = 0 then none else jv_let (a7 - a7 / a8 * a8) fun x1 => jv_let a8 fun x2 => jv_let x1 fun x3 => k167 a3 a5 a6 x2 x3 h
set_option maxRecDepth 20000 in
theorem b9_odds_40_b167 {l : Launch} {d : Nat} (hd : 2 ≤ d) (k167 : Int32 → Int32 → Int32 → Int32 → Int32 → jv_H → Option (Int32 × jv_H)) (hk167 : ∀ (a3 a5 a6 a7 a8 : Int32) (h : jv_H), jv_V l RX9 cX9_odds 10 (some .int) d (SC ++ SM) jv_ri 167 [(3, .int a3), (5, .int a5), (6, .int a6), (7, .int a7), (8, .int a8)] [] h (k167 a3 a5 a6 a7 a8 h)) : ∀ (a3 : Int32) (a5 : Int32) (a6 : Int32) (a7 : Int32) (a8 : Int32) (h : jv_H), jv_V l RX9 cX9_odds 10 (some .int) d (SC ++ SM) jv_ri 167 [(3, .int a3), (5, .int a5), (6, .int a6), (7, .int a7), (8, .int a8)] [] h (g9_odds_40_b167 k167 a3 a5 a6 a7 a8 h) := by
  intro a3 a5 a6 a7 a8 h
  unfold g9_odds_40_b167
  refine v_iload 4 169 rfl dX9_odds_167 rfl ?_
  refine v_if_eq 190 172 rfl rfl dX9_odds_169 (fun _ => ?_) (fun _ => ?_)
  · refine v_iload_n 0 191 rfl dX9_odds_190 rfl rfl ?_
    refine v_if_ne 202 194 rfl rfl dX9_odds_191 (fun _ => ?_) (fun _ => ?_)
    · refine v_iload 2 204 rfl dX9_odds_202 rfl ?_
      refine v_iload 3 206 rfl dX9_odds_204 rfl ?_
      refine v_idiv 207 rfl dX9_odds_206 (fun _ => ?_)
      exact v_iret rfl dX9_odds_207
    · refine v_iload 1 196 rfl dX9_odds_194 rfl ?_
      refine v_iload 3 198 rfl dX9_odds_196 rfl ?_
      refine v_idiv 199 rfl dX9_odds_198 (fun _ => ?_)
      refine v_goto 207 rfl dX9_odds_199 ?_
      exact v_iret rfl dX9_odds_207
  · refine v_iload 3 174 rfl dX9_odds_172 rfl ?_
    refine v_iload 4 176 rfl dX9_odds_174 rfl ?_
    refine v_irem 177 rfl dX9_odds_176 (fun _ => ?_)
    refine n_istore (fun x1 => [(3, .int a3), (5, .int a5), (6, .int a6), (7, .int a7), (8, .int a8), (9, .int x1)]) 179 rfl dX9_odds_177 (Nat.le_of_ble_eq_true rfl) rfl (fun _ => rfl) (fun x1 => ?_)
    refine v_iload 4 181 rfl dX9_odds_179 rfl ?_
    refine n_istore (fun x2 => [(3, .int a3), (5, .int a5), (6, .int a6), (7, .int x2), (8, .int a8), (9, .int x1)]) 183 rfl dX9_odds_181 (Nat.le_of_ble_eq_true rfl) rfl (fun _ => rfl) (fun x2 => ?_)
    refine v_iload 5 185 rfl dX9_odds_183 rfl ?_
    refine n_istore (fun x3 => [(3, .int a3), (5, .int a5), (6, .int a6), (7, .int x2), (8, .int x3), (9, .int x1)]) 187 rfl dX9_odds_185 (Nat.le_of_ble_eq_true rfl) rfl (fun _ => rfl) (fun x3 => ?_)
    refine v_goto 167 rfl dX9_odds_187 ?_
    refine v_sub [0, 1, 2, 3, 4] rfl ?_
    exact hk167 a3 a5 a6 x2 x3 h
def f9_odds_40_l167 : Nat → Int32 → Int32 → Int32 → Int32 → Int32 → jv_H → Option (Int32 × jv_H)
  | 0 => fun _ _ _ _ _ _ => none
  | n + 1 => fun a3 a5 a6 a7 a8 h => g9_odds_40_b167 (f9_odds_40_l167 n) a3 a5 a6 a7 a8 h
theorem w9_odds_40_l167 {l : Launch} {d : Nat} (hd : 2 ≤ d) : ∀ (n : Nat) (a3 : Int32) (a5 : Int32) (a6 : Int32) (a7 : Int32) (a8 : Int32) (h : jv_H), jv_V l RX9 cX9_odds 10 (some .int) d (SC ++ SM) jv_ri 167 [(3, .int a3), (5, .int a5), (6, .int a6), (7, .int a7), (8, .int a8)] [] h (f9_odds_40_l167 n a3 a5 a6 a7 a8 h) := by
  intro n
  induction n with
  | zero => intro a3 a5 a6 a7 a8 h; exact v_none
  | succ n ih => intro a3 a5 a6 a7 a8 h; exact b9_odds_40_b167 hd (f9_odds_40_l167 n) ih a3 a5 a6 a7 a8 h
def g9_odds_40_b82 (k82 : Int32 → Int32 → Int32 → Int32 → Int32 → Int32 → Int32 → jv_H → Option (Int32 × jv_H)) (a1 : Int32) (a2 : Int32) (a3 : Int32) (a4 : Int32) (a5 : Int32) (a6 : Int32) (a7 : Int32) (h : jv_H) : Option (Int32 × jv_H) := if ((1 : Int32) <<< (a4 &&& 31)) ≤ a7 then jv_let a5 fun x1 => jv_let a6 fun x2 => f9_odds_40_l167 jv_fuel a3 a5 a6 x1 x2 h else (f9_bits a7 h).bind fun q3 => if a2 < q3.1 then g9_odds_40_b105 k82 a1 a2 a3 a4 a5 a6 a7 (0 : Int32) q3.2 else g9_odds_40_b105 k82 a1 a2 a3 a4 a5 a6 a7 (1 : Int32) q3.2
set_option maxRecDepth 20000 in
theorem b9_odds_40_b82 {l : Launch} {d : Nat} (hd : 2 ≤ d) (k82 : Int32 → Int32 → Int32 → Int32 → Int32 → Int32 → Int32 → jv_H → Option (Int32 × jv_H)) (hk82 : ∀ (a1 a2 a3 a4 a5 a6 a7 : Int32) (h : jv_H), jv_V l RX9 cX9_odds 10 (some .int) d (SC ++ SM) jv_ri 82 [(1, .int a1), (2, .int a2), (3, .int a3), (4, .int a4), (5, .int a5), (6, .int a6), (7, .int a7)] [] h (k82 a1 a2 a3 a4 a5 a6 a7 h)) : ∀ (a1 : Int32) (a2 : Int32) (a3 : Int32) (a4 : Int32) (a5 : Int32) (a6 : Int32) (a7 : Int32) (h : jv_H), jv_V l RX9 cX9_odds 10 (some .int) d (SC ++ SM) jv_ri 82 [(1, .int a1), (2, .int a2), (3, .int a3), (4, .int a4), (5, .int a5), (6, .int a6), (7, .int a7)] [] h (g9_odds_40_b82 k82 a1 a2 a3 a4 a5 a6 a7 h) := by
  intro a1 a2 a3 a4 a5 a6 a7 h
  unfold g9_odds_40_b82
  refine v_iload 6 84 rfl dX9_odds_82 rfl ?_
  refine v_iconst 85 rfl dX9_odds_84 ic_1 ?_
  refine v_iload 3 87 rfl dX9_odds_85 rfl ?_
  refine v_ishl 88 rfl dX9_odds_87 ?_
  refine v_icmp_ge 159 91 rfl rfl dX9_odds_88 (fun _ => ?_) (fun _ => ?_)
  · refine v_iload 4 161 rfl dX9_odds_159 rfl ?_
    refine n_istore (fun x1 => [(1, .int a1), (2, .int a2), (3, .int a3), (4, .int a4), (5, .int a5), (6, .int a6), (7, .int x1)]) 163 rfl dX9_odds_161 (Nat.le_of_ble_eq_true rfl) rfl (fun _ => rfl) (fun x1 => ?_)
    refine v_iload 5 165 rfl dX9_odds_163 rfl ?_
    refine n_istore (fun x2 => [(1, .int a1), (2, .int a2), (3, .int a3), (4, .int a4), (5, .int a5), (6, .int a6), (7, .int x1), (8, .int x2)]) 167 rfl dX9_odds_165 (Nat.le_of_ble_eq_true rfl) rfl (fun _ => rfl) (fun x2 => ?_)
    refine v_sub [2, 4, 5, 6, 7] rfl ?_
    exact w9_odds_40_l167 hd jv_fuel a3 a5 a6 x1 x2 h
  · refine v_iload 6 93 rfl dX9_odds_91 rfl ?_
    refine n_calls [.int a7] [] (fun r => .int r :: []) 96 rfl (by omega) (Nat.le_of_ble_eq_true rfl) cb_X9_bits cs_X9_146 rfl (Nat.le_of_ble_eq_true rfl) dX9_odds_93 rfl (fun _ => rfl) (e9_bits (by omega) a7 h) (fun q3 => ?_)
    refine v_iload_n 1 97 rfl dX9_odds_96 rfl rfl ?_
    refine v_icmp_gt 104 100 rfl rfl dX9_odds_97 (fun _ => ?_) (fun _ => ?_)
    · refine v_iconst 105 rfl dX9_odds_104 ic_0 ?_
      exact b9_odds_40_b105 hd k82 hk82 a1 a2 a3 a4 a5 a6 a7 (0 : Int32) q3.2
    · refine v_iconst 101 rfl dX9_odds_100 ic_1 ?_
      refine v_goto 105 rfl dX9_odds_101 ?_
      exact b9_odds_40_b105 hd k82 hk82 a1 a2 a3 a4 a5 a6 a7 (1 : Int32) q3.2
def f9_odds_40_l82 : Nat → Int32 → Int32 → Int32 → Int32 → Int32 → Int32 → Int32 → jv_H → Option (Int32 × jv_H)
  | 0 => fun _ _ _ _ _ _ _ _ => none
  | n + 1 => fun a1 a2 a3 a4 a5 a6 a7 h => g9_odds_40_b82 (f9_odds_40_l82 n) a1 a2 a3 a4 a5 a6 a7 h
theorem w9_odds_40_l82 {l : Launch} {d : Nat} (hd : 2 ≤ d) : ∀ (n : Nat) (a1 : Int32) (a2 : Int32) (a3 : Int32) (a4 : Int32) (a5 : Int32) (a6 : Int32) (a7 : Int32) (h : jv_H), jv_V l RX9 cX9_odds 10 (some .int) d (SC ++ SM) jv_ri 82 [(1, .int a1), (2, .int a2), (3, .int a3), (4, .int a4), (5, .int a5), (6, .int a6), (7, .int a7)] [] h (f9_odds_40_l82 n a1 a2 a3 a4 a5 a6 a7 h) := by
  intro n
  induction n with
  | zero => intro a1 a2 a3 a4 a5 a6 a7 h; exact v_none
  | succ n ih => intro a1 a2 a3 a4 a5 a6 a7 h; exact b9_odds_40_b82 hd (f9_odds_40_l82 n) ih a1 a2 a3 a4 a5 a6 a7 h
def g9_odds_40_b59 (k59 : Int32 → Int32 → Int32 → Int32 → Int32 → Int32 → Int32 → jv_H → Option (Int32 × jv_H)) (a1 : Int32) (a2 : Int32) (a3 : Int32) (a4 : Int32) (a5 : Int32) (a6 : Int32) (a7 : Int32) (h : jv_H) : Option (Int32 × jv_H) := if a4 ≤ a7 then jv_let (0 : Int32) fun x1 => f9_odds_40_l82 jv_fuel a1 a2 a3 a4 a5 a6 x1 h else jv_let (a6 * (10 : Int32)) fun x2 => jv_let (a7 + (1 : Int32)) fun x3 => k59 a1 a2 a3 a4 a5 x2 x3 h
set_option maxRecDepth 20000 in
theorem b9_odds_40_b59 {l : Launch} {d : Nat} (hd : 2 ≤ d) (k59 : Int32 → Int32 → Int32 → Int32 → Int32 → Int32 → Int32 → jv_H → Option (Int32 × jv_H)) (hk59 : ∀ (a1 a2 a3 a4 a5 a6 a7 : Int32) (h : jv_H), jv_V l RX9 cX9_odds 10 (some .int) d (SC ++ SM) jv_ri 59 [(1, .int a1), (2, .int a2), (3, .int a3), (4, .int a4), (5, .int a5), (6, .int a6), (7, .int a7)] [] h (k59 a1 a2 a3 a4 a5 a6 a7 h)) : ∀ (a1 : Int32) (a2 : Int32) (a3 : Int32) (a4 : Int32) (a5 : Int32) (a6 : Int32) (a7 : Int32) (h : jv_H), jv_V l RX9 cX9_odds 10 (some .int) d (SC ++ SM) jv_ri 59 [(1, .int a1), (2, .int a2), (3, .int a3), (4, .int a4), (5, .int a5), (6, .int a6), (7, .int a7)] [] h (g9_odds_40_b59 k59 a1 a2 a3 a4 a5 a6 a7 h) := by
  intro a1 a2 a3 a4 a5 a6 a7 h
  unfold g9_odds_40_b59
  refine v_iload 6 61 rfl dX9_odds_59 rfl ?_
  refine v_iload 3 63 rfl dX9_odds_61 rfl ?_
  refine v_icmp_ge 79 66 rfl rfl dX9_odds_63 (fun _ => ?_) (fun _ => ?_)
  · refine v_iconst 80 rfl dX9_odds_79 ic_0 ?_
    refine n_istore (fun x1 => [(1, .int a1), (2, .int a2), (3, .int a3), (4, .int a4), (5, .int a5), (6, .int a6), (7, .int x1)]) 82 rfl dX9_odds_80 (Nat.le_of_ble_eq_true rfl) rfl (fun _ => rfl) (fun x1 => ?_)
    exact w9_odds_40_l82 hd jv_fuel a1 a2 a3 a4 a5 a6 x1 h
  · refine v_iload 5 68 rfl dX9_odds_66 rfl ?_
    refine v_bipush 70 rfl dX9_odds_68 bp_10 ?_
    refine v_imul 71 rfl dX9_odds_70 ?_
    refine n_istore (fun x2 => [(1, .int a1), (2, .int a2), (3, .int a3), (4, .int a4), (5, .int a5), (6, .int x2), (7, .int a7)]) 73 rfl dX9_odds_71 (Nat.le_of_ble_eq_true rfl) rfl (fun _ => rfl) (fun x2 => ?_)
    refine n_iinc (fun x3 => [(1, .int a1), (2, .int a2), (3, .int a3), (4, .int a4), (5, .int a5), (6, .int x2), (7, .int x3)]) 6 76 rfl dX9_odds_73 rfl ic_1 (Nat.le_of_ble_eq_true rfl) rfl (fun _ => rfl) (fun x3 => ?_)
    refine v_goto 59 rfl dX9_odds_76 ?_
    exact hk59 a1 a2 a3 a4 a5 x2 x3 h
def f9_odds_40_l59 : Nat → Int32 → Int32 → Int32 → Int32 → Int32 → Int32 → Int32 → jv_H → Option (Int32 × jv_H)
  | 0 => fun _ _ _ _ _ _ _ _ => none
  | n + 1 => fun a1 a2 a3 a4 a5 a6 a7 h => g9_odds_40_b59 (f9_odds_40_l59 n) a1 a2 a3 a4 a5 a6 a7 h
theorem w9_odds_40_l59 {l : Launch} {d : Nat} (hd : 2 ≤ d) : ∀ (n : Nat) (a1 : Int32) (a2 : Int32) (a3 : Int32) (a4 : Int32) (a5 : Int32) (a6 : Int32) (a7 : Int32) (h : jv_H), jv_V l RX9 cX9_odds 10 (some .int) d (SC ++ SM) jv_ri 59 [(1, .int a1), (2, .int a2), (3, .int a3), (4, .int a4), (5, .int a5), (6, .int a6), (7, .int a7)] [] h (f9_odds_40_l59 n a1 a2 a3 a4 a5 a6 a7 h) := by
  intro n
  induction n with
  | zero => intro a1 a2 a3 a4 a5 a6 a7 h; exact v_none
  | succ n ih => intro a1 a2 a3 a4 a5 a6 a7 h; exact b9_odds_40_b59 hd (f9_odds_40_l59 n) ih a1 a2 a3 a4 a5 a6 a7 h
def f9_odds_40 (a1 : Int32) (a2 : Int32) (a3 : Int32) (h : jv_H) : Option (Int32 × jv_H) := (f9_in (Int32.toInt64 a1) (0 : Int64) (10 : Int64) h).bind fun q1 => if q1.1 = 0 then some ((-1 : Int32), q1.2) else (f9_in (Int32.toInt64 a2) (0 : Int64) (6 : Int64) q1.2).bind fun q2 => if q2.1 = 0 then some ((-1 : Int32), q2.2) else (f9_in (Int32.toInt64 a3) (0 : Int64) (1 : Int64) q2.2).bind fun q3 => if q3.1 = 0 then some ((-1 : Int32), q3.2) else (f9_broken_40 q3.2).bind fun q4 => (f9_bits q4.1 q4.2).bind fun q5 => jv_let ((q3.2.1 40 0) - q5.1) fun x6 => jv_let (0 : Int32) fun x7 => jv_let (1 : Int32) fun x8 => jv_let (0 : Int32) fun x9 => f9_odds_40_l59 jv_fuel a1 a2 a3 x6 x7 x8 x9 q5.2
set_option maxRecDepth 20000 in
theorem e9_odds_40 {l : Launch} {d : Nat} (hd : 2 ≤ d) (a1 : Int32) (a2 : Int32) (a3 : Int32) (h : jv_H) : jv_E l yX9_odds cX9_odds 10 (some .int) d (SC ++ SM) jv_ri [.ref 40, .int a1, .int a2, .int a3] h (f9_odds_40 a1 a2 a3 h) := by
  refine e_of [(0, .ref 40), (1, .int a1), (2, .int a2), (3, .int a3)] rfl pn_X9 (fun _ => Nat.le_of_ble_eq_true rfl) (fun _ => rfl) ?_
  unfold f9_odds_40
  refine v_iload_n 1 1 rfl dX9_odds_0 rfl rfl ?_
  refine v_i2l 2 rfl dX9_odds_1 ?_
  refine v_lconst (v := (0 : Int64)) 3 rfl dX9_odds_2 rfl ?_
  refine v_ldc2 6 rfl mw_1106 dX9_odds_3 ?_
  refine n_calls [.long (Int32.toInt64 a1), .long (0 : Int64), .long (10 : Int64)] [] (fun r => .int r :: []) 9 rfl (by omega) (Nat.le_of_ble_eq_true rfl) cb_X9_in cs_X9_75 rfl (Nat.le_of_ble_eq_true rfl) dX9_odds_6 rfl (fun _ => rfl) (e9_in (by omega) (Int32.toInt64 a1) (0 : Int64) (10 : Int64) h) (fun q1 => ?_)
  refine v_if_eq 34 12 rfl rfl dX9_odds_9 (fun _ => ?_) (fun _ => ?_)
  · refine v_iconst 35 rfl dX9_odds_34 ic_m1 ?_
    exact v_iret rfl dX9_odds_35
  · refine v_iload_n 2 13 rfl dX9_odds_12 rfl rfl ?_
    refine v_i2l 14 rfl dX9_odds_13 ?_
    refine v_lconst (v := (0 : Int64)) 15 rfl dX9_odds_14 rfl ?_
    refine v_ldc2 18 rfl mw_969 dX9_odds_15 ?_
    refine n_calls [.long (Int32.toInt64 a2), .long (0 : Int64), .long (6 : Int64)] [] (fun r => .int r :: []) 21 rfl (by omega) (Nat.le_of_ble_eq_true rfl) cb_X9_in cs_X9_75 rfl (Nat.le_of_ble_eq_true rfl) dX9_odds_18 rfl (fun _ => rfl) (e9_in (by omega) (Int32.toInt64 a2) (0 : Int64) (6 : Int64) q1.2) (fun q2 => ?_)
    refine v_if_eq 34 24 rfl rfl dX9_odds_21 (fun _ => ?_) (fun _ => ?_)
    · refine v_iconst 35 rfl dX9_odds_34 ic_m1 ?_
      exact v_iret rfl dX9_odds_35
    · refine v_iload_n 3 25 rfl dX9_odds_24 rfl rfl ?_
      refine v_i2l 26 rfl dX9_odds_25 ?_
      refine v_lconst (v := (0 : Int64)) 27 rfl dX9_odds_26 rfl ?_
      refine v_lconst (v := (1 : Int64)) 28 rfl dX9_odds_27 rfl ?_
      refine n_calls [.long (Int32.toInt64 a3), .long (0 : Int64), .long (1 : Int64)] [] (fun r => .int r :: []) 31 rfl (by omega) (Nat.le_of_ble_eq_true rfl) cb_X9_in cs_X9_75 rfl (Nat.le_of_ble_eq_true rfl) dX9_odds_28 rfl (fun _ => rfl) (e9_in (by omega) (Int32.toInt64 a3) (0 : Int64) (1 : Int64) q2.2) (fun q3 => ?_)
      refine v_if_ne 36 34 rfl rfl dX9_odds_31 (fun _ => ?_) (fun _ => ?_)
      · refine v_aload_n 0 37 rfl dX9_odds_36 rfl rfl ?_
        refine v_geti 40 rfl fl_X9_71 sc_40 rfl dX9_odds_37 ?_
        refine v_aload_n 0 41 rfl dX9_odds_40 rfl rfl ?_
        refine n_callv [] [.int (q3.2.1 40 0)] (fun r => .int r :: [.int (q3.2.1 40 0)]) 44 rfl (by omega) (Nat.le_of_ble_eq_true rfl) cb_X9_broken cv_X9_179 sc_40 cn_X9 rfl (Nat.le_of_ble_eq_true rfl) dX9_odds_41 rfl (fun _ => rfl) (e9_broken_40 (by omega)  q3.2) (fun q4 => ?_)
        refine n_calls [.int q4.1] [.int (q3.2.1 40 0)] (fun r => .int r :: [.int (q3.2.1 40 0)]) 47 rfl (by omega) (Nat.le_of_ble_eq_true rfl) cb_X9_bits cs_X9_146 rfl (Nat.le_of_ble_eq_true rfl) dX9_odds_44 rfl (fun _ => rfl) (e9_bits (by omega) q4.1 q4.2) (fun q5 => ?_)
        refine v_isub 48 rfl dX9_odds_47 ?_
        refine n_istore (fun x6 => [(0, .ref 40), (1, .int a1), (2, .int a2), (3, .int a3), (4, .int x6)]) 50 rfl dX9_odds_48 (Nat.le_of_ble_eq_true rfl) rfl (fun _ => rfl) (fun x6 => ?_)
        refine v_iconst 51 rfl dX9_odds_50 ic_0 ?_
        refine n_istore (fun x7 => [(0, .ref 40), (1, .int a1), (2, .int a2), (3, .int a3), (4, .int x6), (5, .int x7)]) 53 rfl dX9_odds_51 (Nat.le_of_ble_eq_true rfl) rfl (fun _ => rfl) (fun x7 => ?_)
        refine v_iconst 54 rfl dX9_odds_53 ic_1 ?_
        refine n_istore (fun x8 => [(0, .ref 40), (1, .int a1), (2, .int a2), (3, .int a3), (4, .int x6), (5, .int x7), (6, .int x8)]) 56 rfl dX9_odds_54 (Nat.le_of_ble_eq_true rfl) rfl (fun _ => rfl) (fun x8 => ?_)
        refine v_iconst 57 rfl dX9_odds_56 ic_0 ?_
        refine n_istore (fun x9 => [(0, .ref 40), (1, .int a1), (2, .int a2), (3, .int a3), (4, .int x6), (5, .int x7), (6, .int x8), (7, .int x9)]) 59 rfl dX9_odds_57 (Nat.le_of_ble_eq_true rfl) rfl (fun _ => rfl) (fun x9 => ?_)
        refine v_sub [1, 2, 3, 4, 5, 6, 7] rfl ?_
        exact w9_odds_40_l59 hd jv_fuel a1 a2 a3 x6 x7 x8 x9 q5.2
      · refine v_iconst 35 rfl dX9_odds_34 ic_m1 ?_
        exact v_iret rfl dX9_odds_35
-- TemperNursesModel.hears(II)I at 40
def f9_hears_40 (a1 : Int32) (a2 : Int32) (h : jv_H) : Option (Int32 × jv_H) := (f9_in (Int32.toInt64 a1) (0 : Int64) (99 : Int64) h).bind fun q1 => if q1.1 = 0 then some ((-1 : Int32), q1.2) else (f9_in (Int32.toInt64 a2) (0 : Int64) (1 : Int64) q1.2).bind fun q2 => if q2.1 = 0 then some ((-1 : Int32), q2.2) else if (q2.2.1 40 13) = (4 : Int32) then some ((-3 : Int32), q2.2) else if jv_ix (q2.2.1 40 13) 4 then jv_let (jv_p q2.2 50 (Int32.toNatClampNeg (q2.2.1 40 13)) a1) fun h3 => if jv_ix (h3.1 40 13) 4 then jv_let (jv_p h3 51 (Int32.toNatClampNeg (h3.1 40 13)) a2) fun h4 => jv_let (jv_p h4 40 13 ((h4.1 40 13) + (1 : Int32))) fun h5 => some ((h5.1 40 13), h5) else none else none
set_option maxRecDepth 20000 in
theorem e9_hears_40 {l : Launch} {d : Nat} (hd : 1 ≤ d) (a1 : Int32) (a2 : Int32) (h : jv_H) : jv_E l yX9_hears cX9_hears 3 (some .int) d (SC ++ SM) jv_ri [.ref 40, .int a1, .int a2] h (f9_hears_40 a1 a2 h) := by
  refine e_of [(0, .ref 40), (1, .int a1), (2, .int a2)] rfl pn_X9 (fun _ => Nat.le_of_ble_eq_true rfl) (fun _ => rfl) ?_
  unfold f9_hears_40
  refine v_iload_n 1 1 rfl dX9_hears_0 rfl rfl ?_
  refine v_i2l 2 rfl dX9_hears_1 ?_
  refine v_lconst (v := (0 : Int64)) 3 rfl dX9_hears_2 rfl ?_
  refine v_ldc2 6 rfl mw_1068 dX9_hears_3 ?_
  refine n_calls [.long (Int32.toInt64 a1), .long (0 : Int64), .long (99 : Int64)] [] (fun r => .int r :: []) 9 rfl (by omega) (Nat.le_of_ble_eq_true rfl) cb_X9_in cs_X9_75 rfl (Nat.le_of_ble_eq_true rfl) dX9_hears_6 rfl (fun _ => rfl) (e9_in (by omega) (Int32.toInt64 a1) (0 : Int64) (99 : Int64) h) (fun q1 => ?_)
  refine v_if_eq 22 12 rfl rfl dX9_hears_9 (fun _ => ?_) (fun _ => ?_)
  · refine v_iconst 23 rfl dX9_hears_22 ic_m1 ?_
    exact v_iret rfl dX9_hears_23
  · refine v_iload_n 2 13 rfl dX9_hears_12 rfl rfl ?_
    refine v_i2l 14 rfl dX9_hears_13 ?_
    refine v_lconst (v := (0 : Int64)) 15 rfl dX9_hears_14 rfl ?_
    refine v_lconst (v := (1 : Int64)) 16 rfl dX9_hears_15 rfl ?_
    refine n_calls [.long (Int32.toInt64 a2), .long (0 : Int64), .long (1 : Int64)] [] (fun r => .int r :: []) 19 rfl (by omega) (Nat.le_of_ble_eq_true rfl) cb_X9_in cs_X9_75 rfl (Nat.le_of_ble_eq_true rfl) dX9_hears_16 rfl (fun _ => rfl) (e9_in (by omega) (Int32.toInt64 a2) (0 : Int64) (1 : Int64) q1.2) (fun q2 => ?_)
    refine v_if_ne 24 22 rfl rfl dX9_hears_19 (fun _ => ?_) (fun _ => ?_)
    · refine v_aload_n 0 25 rfl dX9_hears_24 rfl rfl ?_
      refine v_geti 28 rfl fl_X9_130 sc_40 rfl dX9_hears_25 ?_
      refine v_iconst 29 rfl dX9_hears_28 ic_4 ?_
      refine v_icmp_ne 35 32 rfl rfl dX9_hears_29 (fun _ => ?_) (fun _ => ?_)
      · refine v_aload_n 0 36 rfl dX9_hears_35 rfl rfl ?_
        refine v_getr 39 rfl fl_X9_38 sc_40 rfl dX9_hears_36 ?_
        refine v_aload_n 0 40 rfl dX9_hears_39 rfl rfl ?_
        refine v_geti 43 rfl fl_X9_130 sc_40 rfl dX9_hears_40 ?_
        refine v_iload_n 1 44 rfl dX9_hears_43 rfl rfl ?_
        refine n_iast 45 rfl sc_50 dX9_hears_44 (fun h3 => ?_)
        refine v_aload_n 0 46 rfl dX9_hears_45 rfl rfl ?_
        refine v_getr 49 rfl fl_X9_41 sc_40 rfl dX9_hears_46 ?_
        refine v_aload_n 0 50 rfl dX9_hears_49 rfl rfl ?_
        refine v_geti 53 rfl fl_X9_130 sc_40 rfl dX9_hears_50 ?_
        refine v_iload_n 2 54 rfl dX9_hears_53 rfl rfl ?_
        refine n_iast 55 rfl sc_51 dX9_hears_54 (fun h4 => ?_)
        refine v_aload_n 0 56 rfl dX9_hears_55 rfl rfl ?_
        refine v_dupr 57 rfl dX9_hears_56 ?_
        refine v_geti 60 rfl fl_X9_130 sc_40 rfl dX9_hears_57 ?_
        refine v_iconst 61 rfl dX9_hears_60 ic_1 ?_
        refine v_iadd 62 rfl dX9_hears_61 ?_
        refine n_puti 65 rfl fl_X9_130 sc_40 rfl dX9_hears_62 (fun h5 => ?_)
        refine v_aload_n 0 66 rfl dX9_hears_65 rfl rfl ?_
        refine v_geti 69 rfl fl_X9_130 sc_40 rfl dX9_hears_66 ?_
        exact v_iret rfl dX9_hears_69
      · refine v_bipush 34 rfl dX9_hears_32 bp_m3 ?_
        exact v_iret rfl dX9_hears_34
    · refine v_iconst 23 rfl dX9_hears_22 ic_m1 ?_
      exact v_iret rfl dX9_hears_23
-- TemperNursesModel.forget()I at 40
def f9_forget_40 (h : jv_H) : Option (Int32 × jv_H) := jv_let (h.1 40 13) fun x1 => jv_let (jv_p h 40 13 (0 : Int32)) fun h2 => some (x1, h2)
set_option maxRecDepth 20000 in
theorem e9_forget_40 {l : Launch} {d : Nat} (hd : 0 ≤ d) (h : jv_H) : jv_E l yX9_forget cX9_forget 2 (some .int) d (SC ++ SM) jv_ri [.ref 40] h (f9_forget_40  h) := by
  refine e_of [(0, .ref 40)] rfl pn_X9 (fun _ => Nat.le_of_ble_eq_true rfl) (fun _ => rfl) ?_
  unfold f9_forget_40
  refine v_aload_n 0 1 rfl dX9_forget_0 rfl rfl ?_
  refine v_geti 4 rfl fl_X9_130 sc_40 rfl dX9_forget_1 ?_
  refine n_istore_n (fun x1 => [(0, .ref 40), (1, .int x1)]) 5 rfl dX9_forget_4 rfl (Nat.le_of_ble_eq_true rfl) rfl (fun _ => rfl) (fun x1 => ?_)
  refine v_aload_n 0 6 rfl dX9_forget_5 rfl rfl ?_
  refine v_iconst 7 rfl dX9_forget_6 ic_0 ?_
  refine n_puti 10 rfl fl_X9_130 sc_40 rfl dX9_forget_7 (fun h2 => ?_)
  refine v_iload_n 1 11 rfl dX9_forget_10 rfl rfl ?_
  exact v_iret rfl dX9_forget_11
