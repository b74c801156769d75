-- TemperNurses.countLooseWays(II)I at 0
def g8_countLooseWays_0_b101 (k17 : Int32 → Int32 → Int32 → jv_H → Option (Int32 × jv_H)) (a1 : Int32) (a2 : Int32) (a3 : Int32) (h : jv_H) : Option (Int32 × jv_H) := jv_let (a3 + (1 : Int32)) fun x1 => k17 a1 a2 x1 h
set_option maxRecDepth 20000 in
theorem b8_countLooseWays_0_b101 {l : Launch} {d : Nat} {X : List jv_S} (hd : 2 ≤ d) (k17 : Int32 → Int32 → Int32 → jv_H → Option (Int32 × jv_H)) (hk17 : ∀ (a1 a2 a3 : Int32) (h : jv_H), jv_V l RX8 cX8_countLooseWays 5 (some .int) d (SC ++ X) jv_ri 17 [(0, .ref 0), (1, .int a1), (2, .int a2), (3, .int a3)] [] h (k17 a1 a2 a3 h)) : ∀ (a1 : Int32) (a2 : Int32) (a3 : Int32) (h : jv_H), jv_V l RX8 cX8_countLooseWays 5 (some .int) d (SC ++ X) jv_ri 101 [(0, .ref 0), (1, .int a1), (2, .int a2), (3, .int a3)] [] h (g8_countLooseWays_0_b101 k17 a1 a2 a3 h) := by
  intro a1 a2 a3 h
  unfold g8_countLooseWays_0_b101
  refine n_iinc (fun x1 => [(0, .ref 0), (1, .int a1), (2, .int a2), (3, .int x1)]) 3 104 rfl dX8_countLooseWays_101 rfl ic_1 (Nat.le_of_ble_eq_true rfl) rfl (fun _ => rfl) (fun x1 => ?_)
  refine v_goto 17 rfl dX8_countLooseWays_104 ?_
  exact hk17 a1 a2 x1 h
def g8_countLooseWays_0_b46 (k17 : Int32 → Int32 → Int32 → jv_H → Option (Int32 × jv_H)) (k46 : Int32 → Int32 → Int32 → Int32 → jv_H → Option (Int32 × jv_H)) (a1 : Int32) (a2 : Int32) (a3 : Int32) (a4 : Int32) (h : jv_H) : Option (Int32 × jv_H) := if a4 ≤ 0 then if jv_ix (0 : Int32) 7 then if jv_ix (0 : Int32) 7 then jv_let (jv_p h 39 (Int32.toNatClampNeg (0 : Int32)) ((h.1 39 (Int32.toNatClampNeg (0 : Int32))) * ((10 : Int32) - a1))) fun h1 => g8_countLooseWays_0_b101 k17 a1 a2 a3 h1 else none else none else if jv_ix a4 7 then if jv_ix (a4 - (1 : Int32)) 7 then if jv_ix a4 7 then jv_let (jv_p h 39 (Int32.toNatClampNeg a4) (((h.1 39 (Int32.toNatClampNeg a4)) * ((10 : Int32) - a1)) + ((h.1 39 (Int32.toNatClampNeg (a4 - (1 : Int32)))) * a1))) fun h2 => jv_let (a4 + (-1 : Int32)) fun x3 => k46 a1 a2 a3 x3 h2 else none else none else none
set_option maxRecDepth 20000 in
theorem b8_countLooseWays_0_b46 {l : Launch} {d : Nat} {X : List jv_S} (hd : 2 ≤ d) (k17 : Int32 → Int32 → Int32 → jv_H → Option (Int32 × jv_H)) (hk17 : ∀ (a1 a2 a3 : Int32) (h : jv_H), jv_V l RX8 cX8_countLooseWays 5 (some .int) d (SC ++ X) jv_ri 17 [(0, .ref 0), (1, .int a1), (2, .int a2), (3, .int a3)] [] h (k17 a1 a2 a3 h)) (k46 : Int32 → Int32 → Int32 → Int32 → jv_H → Option (Int32 × jv_H)) (hk46 : ∀ (a1 a2 a3 a4 : Int32) (h : jv_H), jv_V l RX8 cX8_countLooseWays 5 (some .int) d (SC ++ X) jv_ri 46 [(0, .ref 0), (1, .int a1), (2, .int a2), (3, .int a3), (4, .int a4)] [] h (k46 a1 a2 a3 a4 h)) : ∀ (a1 : Int32) (a2 : Int32) (a3 : Int32) (a4 : Int32) (h : jv_H), jv_V l RX8 cX8_countLooseWays 5 (some .int) d (SC ++ X) jv_ri 46 [(0, .ref 0), (1, .int a1), (2, .int a2), (3, .int a3), (4, .int a4)] [] h (g8_countLooseWays_0_b46 k17 k46 a1 a2 a3 a4 h) := by
  intro a1 a2 a3 a4 h
  unfold g8_countLooseWays_0_b46
  refine v_iload 4 48 rfl dX8_countLooseWays_46 rfl ?_
  refine v_if_le 88 51 rfl rfl dX8_countLooseWays_48 (fun _ => ?_) (fun _ => ?_)
  · refine v_aload_n 0 89 rfl dX8_countLooseWays_88 rfl rfl ?_
    refine v_getr 92 rfl fl_X8_75 sc_0 rfl dX8_countLooseWays_89 ?_
    refine v_iconst 93 rfl dX8_countLooseWays_92 ic_0 ?_
    refine v_dup2 94 rfl dX8_countLooseWays_93 ?_
    refine v_iald 95 rfl sc_39 dX8_countLooseWays_94 (fun _ => ?_)
    refine v_bipush 97 rfl dX8_countLooseWays_95 bp_10 ?_
    refine v_iload_n 1 98 rfl dX8_countLooseWays_97 rfl rfl ?_
    refine v_isub 99 rfl dX8_countLooseWays_98 ?_
    refine v_imul 100 rfl dX8_countLooseWays_99 ?_
    refine n_iast 101 rfl sc_39 dX8_countLooseWays_100 (fun h1 => ?_)
    refine v_sub [0, 1, 2, 3] rfl ?_
    exact b8_countLooseWays_0_b101 hd k17 hk17 a1 a2 a3 h1
  · refine v_aload_n 0 52 rfl dX8_countLooseWays_51 rfl rfl ?_
    refine v_getr 55 rfl fl_X8_75 sc_0 rfl dX8_countLooseWays_52 ?_
    refine v_iload 4 57 rfl dX8_countLooseWays_55 rfl ?_
    refine v_aload_n 0 58 rfl dX8_countLooseWays_57 rfl rfl ?_
    refine v_getr 61 rfl fl_X8_75 sc_0 rfl dX8_countLooseWays_58 ?_
    refine v_iload 4 63 rfl dX8_countLooseWays_61 rfl ?_
    refine v_iald 64 rfl sc_39 dX8_countLooseWays_63 (fun _ => ?_)
    refine v_bipush 66 rfl dX8_countLooseWays_64 bp_10 ?_
    refine v_iload_n 1 67 rfl dX8_countLooseWays_66 rfl rfl ?_
    refine v_isub 68 rfl dX8_countLooseWays_67 ?_
    refine v_imul 69 rfl dX8_countLooseWays_68 ?_
    refine v_aload_n 0 70 rfl dX8_countLooseWays_69 rfl rfl ?_
    refine v_getr 73 rfl fl_X8_75 sc_0 rfl dX8_countLooseWays_70 ?_
    refine v_iload 4 75 rfl dX8_countLooseWays_73 rfl ?_
    refine v_iconst 76 rfl dX8_countLooseWays_75 ic_1 ?_
    refine v_isub 77 rfl dX8_countLooseWays_76 ?_
    refine v_iald 78 rfl sc_39 dX8_countLooseWays_77 (fun _ => ?_)
    refine v_iload_n 1 79 rfl dX8_countLooseWays_78 rfl rfl ?_
    refine v_imul 80 rfl dX8_countLooseWays_79 ?_
    refine v_iadd 81 rfl dX8_countLooseWays_80 ?_
    refine n_iast 82 rfl sc_39 dX8_countLooseWays_81 (fun h2 => ?_)
    refine n_iinc (fun x3 => [(0, .ref 0), (1, .int a1), (2, .int a2), (3, .int a3), (4, .int x3)]) 4 85 rfl dX8_countLooseWays_82 rfl ic_m1 (Nat.le_of_ble_eq_true rfl) rfl (fun _ => rfl) (fun x3 => ?_)
    refine v_goto 46 rfl dX8_countLooseWays_85 ?_
    exact hk46 a1 a2 a3 x3 h2
def f8_countLooseWays_0_l46 (k17 : Int32 → Int32 → Int32 → jv_H → Option (Int32 × jv_H)) : Nat → Int32 → Int32 → Int32 → Int32 → jv_H → Option (Int32 × jv_H)
  | 0 => fun _ _ _ _ _ => none
  | n + 1 => fun a1 a2 a3 a4 h => g8_countLooseWays_0_b46 k17 (f8_countLooseWays_0_l46 k17 n) a1 a2 a3 a4 h
theorem w8_countLooseWays_0_l46 {l : Launch} {d : Nat} {X : List jv_S} (hd : 2 ≤ d) (k17 : Int32 → Int32 → Int32 → jv_H → Option (Int32 × jv_H)) (hk17 : ∀ (a1 a2 a3 : Int32) (h : jv_H), jv_V l RX8 cX8_countLooseWays 5 (some .int) d (SC ++ X) jv_ri 17 [(0, .ref 0), (1, .int a1), (2, .int a2), (3, .int a3)] [] h (k17 a1 a2 a3 h)) : ∀ (n : Nat) (a1 : Int32) (a2 : Int32) (a3 : Int32) (a4 : Int32) (h : jv_H), jv_V l RX8 cX8_countLooseWays 5 (some .int) d (SC ++ X) jv_ri 46 [(0, .ref 0), (1, .int a1), (2, .int a2), (3, .int a3), (4, .int a4)] [] h (f8_countLooseWays_0_l46 k17 n a1 a2 a3 a4 h) := by
  intro n
  induction n with
  | zero => intro a1 a2 a3 a4 h; exact v_none
  | succ n ih => intro a1 a2 a3 a4 h; exact b8_countLooseWays_0_b46 hd k17 hk17 (f8_countLooseWays_0_l46 k17 n) ih a1 a2 a3 a4 h
def g8_countLooseWays_0_b112 (k112 : Int32 → Int32 → Int32 → jv_H → Option (Int32 × jv_H)) (a2 : Int32) (a3 : Int32) (a4 : Int32) (h : jv_H) : Option (Int32 × jv_H) := if a2 < a4 then some (a3, h) else if (6 : Int32) < a4 then some (a3, h) else if jv_ix a4 7 then jv_let (a3 + (h.1 39 (Int32.toNatClampNeg a4))) fun x1 => jv_let (a4 + (1 : Int32)) fun x2 => k112 a2 x1 x2 h else none
set_option maxRecDepth 20000 in
theorem b8_countLooseWays_0_b112 {l : Launch} {d : Nat} {X : List jv_S} (hd : 2 ≤ d) (k112 : Int32 → Int32 → Int32 → jv_H → Option (Int32 × jv_H)) (hk112 : ∀ (a2 a3 a4 : Int32) (h : jv_H), jv_V l RX8 cX8_countLooseWays 5 (some .int) d (SC ++ X) jv_ri 112 [(0, .ref 0), (2, .int a2), (3, .int a3), (4, .int a4)] [] h (k112 a2 a3 a4 h)) : ∀ (a2 : Int32) (a3 : Int32) (a4 : Int32) (h : jv_H), jv_V l RX8 cX8_countLooseWays 5 (some .int) d (SC ++ X) jv_ri 112 [(0, .ref 0), (2, .int a2), (3, .int a3), (4, .int a4)] [] h (g8_countLooseWays_0_b112 k112 a2 a3 a4 h) := by
  intro a2 a3 a4 h
  unfold g8_countLooseWays_0_b112
  refine v_iload 3 114 rfl dX8_countLooseWays_112 rfl ?_
  refine v_iload_n 1 115 rfl dX8_countLooseWays_114 rfl rfl ?_
  refine v_icmp_gt 141 118 rfl rfl dX8_countLooseWays_115 (fun _ => ?_) (fun _ => ?_)
  · refine v_iload_n 2 142 rfl dX8_countLooseWays_141 rfl rfl ?_
    exact v_iret rfl dX8_countLooseWays_142
  · refine v_iload 3 120 rfl dX8_countLooseWays_118 rfl ?_
    refine v_bipush 122 rfl dX8_countLooseWays_120 bp_6 ?_
    refine v_icmp_gt 141 125 rfl rfl dX8_countLooseWays_122 (fun _ => ?_) (fun _ => ?_)
    · refine v_iload_n 2 142 rfl dX8_countLooseWays_141 rfl rfl ?_
      exact v_iret rfl dX8_countLooseWays_142
    · refine v_iload_n 2 126 rfl dX8_countLooseWays_125 rfl rfl ?_
      refine v_aload_n 0 127 rfl dX8_countLooseWays_126 rfl rfl ?_
      refine v_getr 130 rfl fl_X8_75 sc_0 rfl dX8_countLooseWays_127 ?_
      refine v_iload 3 132 rfl dX8_countLooseWays_130 rfl ?_
      refine v_iald 133 rfl sc_39 dX8_countLooseWays_132 (fun _ => ?_)
      refine v_iadd 134 rfl dX8_countLooseWays_133 ?_
      refine n_istore_n (fun x1 => [(0, .ref 0), (2, .int a2), (3, .int x1), (4, .int a4)]) 135 rfl dX8_countLooseWays_134 rfl (Nat.le_of_ble_eq_true rfl) rfl (fun _ => rfl) (fun x1 => ?_)
      refine n_iinc (fun x2 => [(0, .ref 0), (2, .int a2), (3, .int x1), (4, .int x2)]) 3 138 rfl dX8_countLooseWays_135 rfl ic_1 (Nat.le_of_ble_eq_true rfl) rfl (fun _ => rfl) (fun x2 => ?_)
      refine v_goto 112 rfl dX8_countLooseWays_138 ?_
      exact hk112 a2 x1 x2 h
def f8_countLooseWays_0_l112 : Nat → Int32 → Int32 → Int32 → jv_H → Option (Int32 × jv_H)
  | 0 => fun _ _ _ _ => none
  | n + 1 => fun a2 a3 a4 h => g8_countLooseWays_0_b112 (f8_countLooseWays_0_l112 n) a2 a3 a4 h
theorem w8_countLooseWays_0_l112 {l : Launch} {d : Nat} {X : List jv_S} (hd : 2 ≤ d) : ∀ (n : Nat) (a2 : Int32) (a3 : Int32) (a4 : Int32) (h : jv_H), jv_V l RX8 cX8_countLooseWays 5 (some .int) d (SC ++ X) jv_ri 112 [(0, .ref 0), (2, .int a2), (3, .int a3), (4, .int a4)] [] h (f8_countLooseWays_0_l112 n a2 a3 a4 h) := by
  intro n
  induction n with
  | zero => intro a2 a3 a4 h; exact v_none
  | succ n ih => intro a2 a3 a4 h; exact b8_countLooseWays_0_b112 hd (f8_countLooseWays_0_l112 n) ih a2 a3 a4 h
def g8_countLooseWays_0_b17 (k17 : Int32 → Int32 → Int32 → jv_H → Option (Int32 × jv_H)) (a1 : Int32) (a2 : Int32) (a3 : Int32) (h : jv_H) : Option (Int32 × jv_H) := if (h.1 1 0) ≤ a3 then jv_let (0 : Int32) fun x1 => jv_let (0 : Int32) fun x2 => f8_countLooseWays_0_l112 jv_fuel a2 x1 x2 h else (f1_heat_20 a3 h).bind fun q3 => if q3.1 = 0 then g8_countLooseWays_0_b101 k17 a1 a2 a3 q3.2 else jv_let (6 : Int32) fun x4 => f8_countLooseWays_0_l46 k17 jv_fuel a1 a2 a3 x4 q3.2
set_option maxRecDepth 20000 in
theorem b8_countLooseWays_0_b17 {l : Launch} {d : Nat} {X : List jv_S} (hd : 2 ≤ d) (k17 : Int32 → Int32 → Int32 → jv_H → Option (Int32 × jv_H)) (hk17 : ∀ (a1 a2 a3 : Int32) (h : jv_H), jv_V l RX8 cX8_countLooseWays 5 (some .int) d (SC ++ X) jv_ri 17 [(0, .ref 0), (1, .int a1), (2, .int a2), (3, .int a3)] [] h (k17 a1 a2 a3 h)) : ∀ (a1 : Int32) (a2 : Int32) (a3 : Int32) (h : jv_H), jv_V l RX8 cX8_countLooseWays 5 (some .int) d (SC ++ X) jv_ri 17 [(0, .ref 0), (1, .int a1), (2, .int a2), (3, .int a3)] [] h (g8_countLooseWays_0_b17 k17 a1 a2 a3 h) := by
  intro a1 a2 a3 h
  unfold g8_countLooseWays_0_b17
  refine v_iload_n 3 18 rfl dX8_countLooseWays_17 rfl rfl ?_
  refine v_aload_n 0 19 rfl dX8_countLooseWays_18 rfl rfl ?_
  refine v_getr 22 rfl fl_X8_10 sc_0 rfl dX8_countLooseWays_19 ?_
  refine v_geti 25 rfl fl_X8_177 sc_1 rfl dX8_countLooseWays_22 ?_
  refine v_icmp_ge 107 28 rfl rfl dX8_countLooseWays_25 (fun _ => ?_) (fun _ => ?_)
  · refine v_iconst 108 rfl dX8_countLooseWays_107 ic_0 ?_
    refine n_istore_n (fun x1 => [(0, .ref 0), (1, .int a1), (2, .int a2), (3, .int x1)]) 109 rfl dX8_countLooseWays_108 rfl (Nat.le_of_ble_eq_true rfl) rfl (fun _ => rfl) (fun x1 => ?_)
    refine v_iconst 110 rfl dX8_countLooseWays_109 ic_0 ?_
    refine n_istore (fun x2 => [(0, .ref 0), (1, .int a1), (2, .int a2), (3, .int x1), (4, .int x2)]) 112 rfl dX8_countLooseWays_110 (Nat.le_of_ble_eq_true rfl) rfl (fun _ => rfl) (fun x2 => ?_)
    refine v_sub [0, 2, 3, 4] rfl ?_
    exact w8_countLooseWays_0_l112 hd jv_fuel a2 x1 x2 h
  · refine v_aload_n 0 29 rfl dX8_countLooseWays_28 rfl rfl ?_
    refine v_getr 32 rfl fl_X8_26 sc_0 rfl dX8_countLooseWays_29 ?_
    refine v_iload_n 3 33 rfl dX8_countLooseWays_32 rfl rfl ?_
    refine n_callv [.int a3] [] (fun r => .int r :: []) 36 rfl (by omega) (Nat.le_of_ble_eq_true rfl) cb_X1_heat cv_X8_115 sc_20 cn_X1 rfl (Nat.le_of_ble_eq_true rfl) dX8_countLooseWays_33 rfl (fun _ => rfl) (e1_heat_20 (by omega) a3 h) (fun q3 => ?_)
    refine v_if_ne 42 39 rfl rfl dX8_countLooseWays_36 (fun _ => ?_) (fun _ => ?_)
    · refine v_bipush 44 rfl dX8_countLooseWays_42 bp_6 ?_
      refine n_istore (fun x4 => [(0, .ref 0), (1, .int a1), (2, .int a2), (3, .int a3), (4, .int x4)]) 46 rfl dX8_countLooseWays_44 (Nat.le_of_ble_eq_true rfl) rfl (fun _ => rfl) (fun x4 => ?_)
      exact w8_countLooseWays_0_l46 hd k17 hk17 jv_fuel a1 a2 a3 x4 q3.2
    · refine v_goto 101 rfl dX8_countLooseWays_39 ?_
      exact b8_countLooseWays_0_b101 hd k17 hk17 a1 a2 a3 q3.2
def f8_countLooseWays_0_l17 : Nat → Int32 → Int32 → Int32 → jv_H → Option (Int32 × jv_H)
  | 0 => fun _ _ _ _ => none
  | n + 1 => fun a1 a2 a3 h => g8_countLooseWays_0_b17 (f8_countLooseWays_0_l17 n) a1 a2 a3 h
theorem w8_countLooseWays_0_l17 {l : Launch} {d : Nat} {X : List jv_S} (hd : 2 ≤ d) : ∀ (n : Nat) (a1 : Int32) (a2 : Int32) (a3 : Int32) (h : jv_H), jv_V l RX8 cX8_countLooseWays 5 (some .int) d (SC ++ X) jv_ri 17 [(0, .ref 0), (1, .int a1), (2, .int a2), (3, .int a3)] [] h (f8_countLooseWays_0_l17 n a1 a2 a3 h) := by
  intro n
  induction n with
  | zero => intro a1 a2 a3 h; exact v_none
  | succ n ih => intro a1 a2 a3 h; exact b8_countLooseWays_0_b17 hd (f8_countLooseWays_0_l17 n) ih a1 a2 a3 h
def f8_countLooseWays_0 (a1 : Int32) (a2 : Int32) (h : jv_H) : Option (Int32 × jv_H) := (fj7_fill_53178_39 (0 : Int32) h).bind fun q1 => if jv_ix (0 : Int32) 7 then jv_let (jv_p q1.2 39 (Int32.toNatClampNeg (0 : Int32)) (1 : Int32)) fun h2 => jv_let (0 : Int32) fun x3 => f8_countLooseWays_0_l17 jv_fuel a1 a2 x3 h2 else none
set_option maxRecDepth 20000 in
theorem e8_countLooseWays_0 {l : Launch} {d : Nat} {X : List jv_S} (hd : 2 ≤ d) (a1 : Int32) (a2 : Int32) (h : jv_H) : jv_E l yX8_countLooseWays cX8_countLooseWays 5 (some .int) d (SC ++ X) jv_ri [.ref 0, .int a1, .int a2] h (f8_countLooseWays_0 a1 a2 h) := by
  refine e_of [(0, .ref 0), (1, .int a1), (2, .int a2)] rfl pn_X8 (fun _ => Nat.le_of_ble_eq_true rfl) (fun _ => rfl) ?_
  unfold f8_countLooseWays_0
  refine v_aload_n 0 1 rfl dX8_countLooseWays_0 rfl rfl ?_
  refine v_getr 4 rfl fl_X8_75 sc_0 rfl dX8_countLooseWays_1 ?_
  refine v_iconst 5 rfl dX8_countLooseWays_4 ic_0 ?_
  refine n_calls [.ref 39, .int (0 : Int32)] [] (fun _ => []) 8 rfl (by omega) (Nat.le_of_ble_eq_true rfl) cb_J7_fill_53178 cs_X8_283 rfl (Nat.le_of_ble_eq_true rfl) dX8_countLooseWays_5 rfl (fun _ => rfl) (ej7_fill_53178_39 (by omega) (0 : Int32) h) (fun q1 => ?_)
  refine v_aload_n 0 9 rfl dX8_countLooseWays_8 rfl rfl ?_
  refine v_getr 12 rfl fl_X8_75 sc_0 rfl dX8_countLooseWays_9 ?_
  refine v_iconst 13 rfl dX8_countLooseWays_12 ic_0 ?_
  refine v_iconst 14 rfl dX8_countLooseWays_13 ic_1 ?_
  refine n_iast 15 rfl sc_39 dX8_countLooseWays_14 (fun h2 => ?_)
  refine v_iconst 16 rfl dX8_countLooseWays_15 ic_0 ?_
  refine n_istore_n (fun x3 => [(0, .ref 0), (1, .int a1), (2, .int a2), (3, .int x3)]) 17 rfl dX8_countLooseWays_16 rfl (Nat.le_of_ble_eq_true rfl) rfl (fun _ => rfl) (fun x3 => ?_)
  exact w8_countLooseWays_0_l17 hd jv_fuel a1 a2 x3 h2
-- TemperNurses.commonDivisor(II)I
def g8_commonDivisor_b7 (k7 : Int32 → Int32 → Int32 → jv_H → Option (Int32 × jv_H)) (a2 : Int32) (a3 : Int32) (a4 : Int32) (h : jv_H) : Option (Int32 × jv_H) := if (64 : Int32) ≤ a4 then some (a2, h) else if a3 = 0 then some (a2, h) else if a3 = 0 then none else jv_let (a2 - a2 / a3 * a3) fun x1 => jv_let a3 fun x2 => jv_let x1 fun x3 => jv_let (a4 + (1 : Int32)) fun x4 => k7 x2 x3 x4 h
set_option maxRecDepth 20000 in
theorem b8_commonDivisor_b7 {l : Launch} {d : Nat} {X : List jv_S} (hd : 0 ≤ d) (k7 : Int32 → Int32 → Int32 → jv_H → Option (Int32 × jv_H)) (hk7 : ∀ (a2 a3 a4 : Int32) (h : jv_H), jv_V l RX8 cX8_commonDivisor 6 (some .int) d (SC ++ X) jv_ri 7 [(2, .int a2), (3, .int a3), (4, .int a4)] [] h (k7 a2 a3 a4 h)) : ∀ (a2 : Int32) (a3 : Int32) (a4 : Int32) (h : jv_H), jv_V l RX8 cX8_commonDivisor 6 (some .int) d (SC ++ X) jv_ri 7 [(2, .int a2), (3, .int a3), (4, .int a4)] [] h (g8_commonDivisor_b7 k7 a2 a3 a4 h) := by
  intro a2 a3 a4 h
  unfold g8_commonDivisor_b7
  refine v_iload 2 9 rfl dX8_commonDivisor_7 rfl ?_
  refine v_bipush 11 rfl dX8_commonDivisor_9 bp_64 ?_
  refine v_icmp_ge 34 14 rfl rfl dX8_commonDivisor_11 (fun _ => ?_) (fun _ => ?_)
  · refine v_iload_n 0 35 rfl dX8_commonDivisor_34 rfl rfl ?_
    exact v_iret rfl dX8_commonDivisor_35
  · refine v_iload_n 1 15 rfl dX8_commonDivisor_14 rfl rfl ?_
    refine v_if_eq 34 18 rfl rfl dX8_commonDivisor_15 (fun _ => ?_) (fun _ => ?_)
    · refine v_iload_n 0 35 rfl dX8_commonDivisor_34 rfl rfl ?_
      exact v_iret rfl dX8_commonDivisor_35
    · refine v_iload_n 0 19 rfl dX8_commonDivisor_18 rfl rfl ?_
      refine v_iload_n 1 20 rfl dX8_commonDivisor_19 rfl rfl ?_
      refine v_irem 21 rfl dX8_commonDivisor_20 (fun _ => ?_)
      refine n_istore (fun x1 => [(2, .int a2), (3, .int a3), (4, .int a4), (5, .int x1)]) 23 rfl dX8_commonDivisor_21 (Nat.le_of_ble_eq_true rfl) rfl (fun _ => rfl) (fun x1 => ?_)
      refine v_iload_n 1 24 rfl dX8_commonDivisor_23 rfl rfl ?_
      refine n_istore_n (fun x2 => [(2, .int x2), (3, .int a3), (4, .int a4), (5, .int x1)]) 25 rfl dX8_commonDivisor_24 rfl (Nat.le_of_ble_eq_true rfl) rfl (fun _ => rfl) (fun x2 => ?_)
      refine v_iload 3 27 rfl dX8_commonDivisor_25 rfl ?_
      refine n_istore_n (fun x3 => [(2, .int x2), (3, .int x3), (4, .int a4), (5, .int x1)]) 28 rfl dX8_commonDivisor_27 rfl (Nat.le_of_ble_eq_true rfl) rfl (fun _ => rfl) (fun x3 => ?_)
      refine n_iinc (fun x4 => [(2, .int x2), (3, .int x3), (4, .int x4), (5, .int x1)]) 2 31 rfl dX8_commonDivisor_28 rfl ic_1 (Nat.le_of_ble_eq_true rfl) rfl (fun _ => rfl) (fun x4 => ?_)
      refine v_goto 7 rfl dX8_commonDivisor_31 ?_
      refine v_sub [0, 1, 2] rfl ?_
      exact hk7 x2 x3 x4 h
def f8_commonDivisor_l7 : Nat → Int32 → Int32 → Int32 → jv_H → Option (Int32 × jv_H)
  | 0 => fun _ _ _ _ => none
  | n + 1 => fun a2 a3 a4 h => g8_commonDivisor_b7 (f8_commonDivisor_l7 n) a2 a3 a4 h
theorem w8_commonDivisor_l7 {l : Launch} {d : Nat} {X : List jv_S} (hd : 0 ≤ d) : ∀ (n : Nat) (a2 : Int32) (a3 : Int32) (a4 : Int32) (h : jv_H), jv_V l RX8 cX8_commonDivisor 6 (some .int) d (SC ++ X) jv_ri 7 [(2, .int a2), (3, .int a3), (4, .int a4)] [] h (f8_commonDivisor_l7 n a2 a3 a4 h) := by
  intro n
  induction n with
  | zero => intro a2 a3 a4 h; exact v_none
  | succ n ih => intro a2 a3 a4 h; exact b8_commonDivisor_b7 hd (f8_commonDivisor_l7 n) ih a2 a3 a4 h
def f8_commonDivisor (a0 : Int32) (a1 : Int32) (h : jv_H) : Option (Int32 × jv_H) := jv_let a0 fun x1 => jv_let a1 fun x2 => jv_let (0 : Int32) fun x3 => f8_commonDivisor_l7 jv_fuel x1 x2 x3 h
set_option maxRecDepth 20000 in
theorem e8_commonDivisor {l : Launch} {d : Nat} {X : List jv_S} (hd : 0 ≤ d) (a0 : Int32) (a1 : Int32) (h : jv_H) : jv_E l yX8_commonDivisor cX8_commonDivisor 6 (some .int) d (SC ++ X) jv_ri [.int a0, .int a1] h (f8_commonDivisor a0 a1 h) := by
  refine e_of [(0, .int a0), (1, .int a1)] rfl pn_X8 (fun _ => Nat.le_of_ble_eq_true rfl) (fun _ => rfl) ?_
  unfold f8_commonDivisor
  refine v_iload_n 0 1 rfl dX8_commonDivisor_0 rfl rfl ?_
  refine n_istore_n (fun x1 => [(0, .int a0), (1, .int a1), (2, .int x1)]) 2 rfl dX8_commonDivisor_1 rfl (Nat.le_of_ble_eq_true rfl) rfl (fun _ => rfl) (fun x1 => ?_)
  refine v_iload_n 1 3 rfl dX8_commonDivisor_2 rfl rfl ?_
  refine n_istore_n (fun x2 => [(0, .int a0), (1, .int a1), (2, .int x1), (3, .int x2)]) 4 rfl dX8_commonDivisor_3 rfl (Nat.le_of_ble_eq_true rfl) rfl (fun _ => rfl) (fun x2 => ?_)
  refine v_iconst 5 rfl dX8_commonDivisor_4 ic_0 ?_
  refine n_istore (fun x3 => [(0, .int a0), (1, .int a1), (2, .int x1), (3, .int x2), (4, .int x3)]) 7 rfl dX8_commonDivisor_5 (Nat.le_of_ble_eq_true rfl) rfl (fun _ => rfl) (fun x3 => ?_)
  refine v_sub [2, 3, 4] rfl ?_
  exact w8_commonDivisor_l7 hd jv_fuel x1 x2 x3 h
-- TemperNurses.odds(III)I at 0
def f8_odds_0 (a1 : Int32) (a2 : Int32) (a3 : Int32) (h : jv_H) : Option (Int32 × jv_H) := (f8_isWithin a1 (0 : Int32) (10 : Int32) h).bind fun q1 => if q1.1 = 0 then some ((-1 : Int32), q1.2) else (f8_isWithin a2 (0 : Int32) (6 : Int32) q1.2).bind fun q2 => if q2.1 = 0 then some ((-1 : Int32), q2.2) else (f8_isWithin a3 (0 : Int32) (1 : Int32) q2.2).bind fun q3 => if q3.1 = 0 then some ((-1 : Int32), q3.2) else (f8_countLooseWays_0 a1 a2 q3.2).bind fun q4 => jv_let q4.1 fun x5 => (f8_countLooseWays_0 a1 (6 : Int32) q4.2).bind fun q6 => jv_let q6.1 fun x7 => (f8_commonDivisor x5 x7 q6.2).bind fun q8 => jv_let q8.1 fun x9 => if x9 = 0 then some ((-1 : Int32), q8.2) else if a3 = 0 then if x9 = 0 then none else some ((x5 / x9), q8.2) else if x9 = 0 then none else some ((x7 / x9), q8.2)
set_option maxRecDepth 20000 in
theorem e8_odds_0 {l : Launch} {d : Nat} {X : List jv_S} (hd : 3 ≤ d) (a1 : Int32) (a2 : Int32) (a3 : Int32) (h : jv_H) : jv_E l yX8_odds cX8_odds 7 (some .int) d (SC ++ X) jv_ri [.ref 0, .int a1, .int a2, .int a3] h (f8_odds_0 a1 a2 a3 h) := by
  refine e_of [(0, .ref 0), (1, .int a1), (2, .int a2), (3, .int a3)] rfl pn_X8 (fun _ => Nat.le_of_ble_eq_true rfl) (fun _ => rfl) ?_
  unfold f8_odds_0
  refine v_iload_n 1 1 rfl dX8_odds_0 rfl rfl ?_
  refine v_iconst 2 rfl dX8_odds_1 ic_0 ?_
  refine v_bipush 4 rfl dX8_odds_2 bp_10 ?_
  refine n_calls [.int a1, .int (0 : Int32), .int (10 : Int32)] [] (fun r => .int r :: []) 7 rfl (by omega) (Nat.le_of_ble_eq_true rfl) cb_X8_isWithin cs_X8_83 rfl (Nat.le_of_ble_eq_true rfl) dX8_odds_4 rfl (fun _ => rfl) (e8_isWithin (by omega) a1 (0 : Int32) (10 : Int32) h) (fun q1 => ?_)
  refine v_if_eq 29 10 rfl rfl dX8_odds_7 (fun _ => ?_) (fun _ => ?_)
  · refine v_iconst 30 rfl dX8_odds_29 ic_m1 ?_
    exact v_iret rfl dX8_odds_30
  · refine v_iload_n 2 11 rfl dX8_odds_10 rfl rfl ?_
    refine v_iconst 12 rfl dX8_odds_11 ic_0 ?_
    refine v_bipush 14 rfl dX8_odds_12 bp_6 ?_
    refine n_calls [.int a2, .int (0 : Int32), .int (6 : Int32)] [] (fun r => .int r :: []) 17 rfl (by omega) (Nat.le_of_ble_eq_true rfl) cb_X8_isWithin cs_X8_83 rfl (Nat.le_of_ble_eq_true rfl) dX8_odds_14 rfl (fun _ => rfl) (e8_isWithin (by omega) a2 (0 : Int32) (6 : Int32) q1.2) (fun q2 => ?_)
    refine v_if_eq 29 20 rfl rfl dX8_odds_17 (fun _ => ?_) (fun _ => ?_)
    · refine v_iconst 30 rfl dX8_odds_29 ic_m1 ?_
      exact v_iret rfl dX8_odds_30
    · refine v_iload_n 3 21 rfl dX8_odds_20 rfl rfl ?_
      refine v_iconst 22 rfl dX8_odds_21 ic_0 ?_
      refine v_iconst 23 rfl dX8_odds_22 ic_1 ?_
      refine n_calls [.int a3, .int (0 : Int32), .int (1 : Int32)] [] (fun r => .int r :: []) 26 rfl (by omega) (Nat.le_of_ble_eq_true rfl) cb_X8_isWithin cs_X8_83 rfl (Nat.le_of_ble_eq_true rfl) dX8_odds_23 rfl (fun _ => rfl) (e8_isWithin (by omega) a3 (0 : Int32) (1 : Int32) q2.2) (fun q3 => ?_)
      refine v_if_ne 31 29 rfl rfl dX8_odds_26 (fun _ => ?_) (fun _ => ?_)
      · refine v_aload_n 0 32 rfl dX8_odds_31 rfl rfl ?_
        refine v_iload_n 1 33 rfl dX8_odds_32 rfl rfl ?_
        refine v_iload_n 2 34 rfl dX8_odds_33 rfl rfl ?_
        refine n_callv [.int a1, .int a2] [] (fun r => .int r :: []) 37 rfl (by omega) (Nat.le_of_ble_eq_true rfl) cb_X8_countLooseWays cv_X8_231 sc_0 cn_X8 rfl (Nat.le_of_ble_eq_true rfl) dX8_odds_34 rfl (fun _ => rfl) (e8_countLooseWays_0 (by omega) a1 a2 q3.2) (fun q4 => ?_)
        refine n_istore (fun x5 => [(0, .ref 0), (1, .int a1), (2, .int a2), (3, .int a3), (4, .int x5)]) 39 rfl dX8_odds_37 (Nat.le_of_ble_eq_true rfl) rfl (fun _ => rfl) (fun x5 => ?_)
        refine v_aload_n 0 40 rfl dX8_odds_39 rfl rfl ?_
        refine v_iload_n 1 41 rfl dX8_odds_40 rfl rfl ?_
        refine v_bipush 43 rfl dX8_odds_41 bp_6 ?_
        refine n_callv [.int a1, .int (6 : Int32)] [] (fun r => .int r :: []) 46 rfl (by omega) (Nat.le_of_ble_eq_true rfl) cb_X8_countLooseWays cv_X8_231 sc_0 cn_X8 rfl (Nat.le_of_ble_eq_true rfl) dX8_odds_43 rfl (fun _ => rfl) (e8_countLooseWays_0 (by omega) a1 (6 : Int32) q4.2) (fun q6 => ?_)
        refine n_istore (fun x7 => [(0, .ref 0), (1, .int a1), (2, .int a2), (3, .int a3), (4, .int x5), (5, .int x7)]) 48 rfl dX8_odds_46 (Nat.le_of_ble_eq_true rfl) rfl (fun _ => rfl) (fun x7 => ?_)
        refine v_iload 4 50 rfl dX8_odds_48 rfl ?_
        refine v_iload 5 52 rfl dX8_odds_50 rfl ?_
        refine n_calls [.int x5, .int x7] [] (fun r => .int r :: []) 55 rfl (by omega) (Nat.le_of_ble_eq_true rfl) cb_X8_commonDivisor cs_X8_234 rfl (Nat.le_of_ble_eq_true rfl) dX8_odds_52 rfl (fun _ => rfl) (e8_commonDivisor (by omega) x5 x7 q6.2) (fun q8 => ?_)
        refine n_istore (fun x9 => [(0, .ref 0), (1, .int a1), (2, .int a2), (3, .int a3), (4, .int x5), (5, .int x7), (6, .int x9)]) 57 rfl dX8_odds_55 (Nat.le_of_ble_eq_true rfl) rfl (fun _ => rfl) (fun x9 => ?_)
        refine v_iload 6 59 rfl dX8_odds_57 rfl ?_
        refine v_if_ne 64 62 rfl rfl dX8_odds_59 (fun _ => ?_) (fun _ => ?_)
        · refine v_iload_n 3 65 rfl dX8_odds_64 rfl rfl ?_
          refine v_if_ne 73 68 rfl rfl dX8_odds_65 (fun _ => ?_) (fun _ => ?_)
          · refine v_iload 5 75 rfl dX8_odds_73 rfl ?_
            refine v_iload 6 77 rfl dX8_odds_75 rfl ?_
            refine v_idiv 78 rfl dX8_odds_77 (fun _ => ?_)
            exact v_iret rfl dX8_odds_78
          · refine v_iload 4 70 rfl dX8_odds_68 rfl ?_
            refine v_goto 75 rfl dX8_odds_70 ?_
            refine v_iload 6 77 rfl dX8_odds_75 rfl ?_
            refine v_idiv 78 rfl dX8_odds_77 (fun _ => ?_)
            exact v_iret rfl dX8_odds_78
        · refine v_iconst 63 rfl dX8_odds_62 ic_m1 ?_
          exact v_iret rfl dX8_odds_63
      · refine v_iconst 30 rfl dX8_odds_29 ic_m1 ?_
        exact v_iret rfl dX8_odds_30
-- TemperNurses$Listener.append(II)Z at 31
def f5_append_31 (a1 : Int32) (a2 : Int32) (h : jv_H) : Option (Int32 × jv_H) := if (h.1 31 3) < (4 : Int32) then if jv_ix (h.1 31 3) 4 then jv_let (jv_p h 32 (Int32.toNatClampNeg (h.1 31 3)) a1) fun h1 => if jv_ix (h1.1 31 3) 4 then jv_let (jv_p h1 33 (Int32.toNatClampNeg (h1.1 31 3)) a2) fun h2 => jv_let (jv_p h2 31 3 ((h2.1 31 3) + (1 : Int32))) fun h3 => some ((1 : Int32), h3) else none else none else some ((0 : Int32), h)
set_option maxRecDepth 20000 in
theorem e5_append_31 {l : Launch} {d : Nat} {X : List jv_S} (hd : 0 ≤ d) (a1 : Int32) (a2 : Int32) (h : jv_H) : jv_E l yX5_append cX5_append 3 (some .boolean) d (SC ++ X) jv_ri [.ref 31, .int a1, .int a2] h (f5_append_31 a1 a2 h) := by
  refine e_of [(0, .ref 31), (1, .int a1), (2, .int a2)] rfl pn_X5 (fun _ => Nat.le_of_ble_eq_true rfl) (fun _ => rfl) ?_
  unfold f5_append_31
  refine v_aload_n 0 1 rfl dX5_append_0 rfl rfl ?_
  refine v_geti 4 rfl fl_X5_22 sc_31 rfl dX5_append_1 ?_
  refine v_iconst 5 rfl dX5_append_4 ic_4 ?_
  refine v_icmp_lt 10 8 rfl rfl dX5_append_5 (fun _ => ?_) (fun _ => ?_)
  · refine v_aload_n 0 11 rfl dX5_append_10 rfl rfl ?_
    refine v_getr 14 rfl fl_X5_9 sc_31 rfl dX5_append_11 ?_
    refine v_aload_n 0 15 rfl dX5_append_14 rfl rfl ?_
    refine v_geti 18 rfl fl_X5_22 sc_31 rfl dX5_append_15 ?_
    refine v_iload_n 1 19 rfl dX5_append_18 rfl rfl ?_
    refine n_iast 20 rfl sc_32 dX5_append_19 (fun h1 => ?_)
    refine v_aload_n 0 21 rfl dX5_append_20 rfl rfl ?_
    refine v_getr 24 rfl fl_X5_15 sc_31 rfl dX5_append_21 ?_
    refine v_aload_n 0 25 rfl dX5_append_24 rfl rfl ?_
    refine v_geti 28 rfl fl_X5_22 sc_31 rfl dX5_append_25 ?_
    refine v_iload_n 2 29 rfl dX5_append_28 rfl rfl ?_
    refine n_iast 30 rfl sc_33 dX5_append_29 (fun h2 => ?_)
    refine v_aload_n 0 31 rfl dX5_append_30 rfl rfl ?_
    refine v_dupr 32 rfl dX5_append_31 ?_
    refine v_geti 35 rfl fl_X5_22 sc_31 rfl dX5_append_32 ?_
    refine v_iconst 36 rfl dX5_append_35 ic_1 ?_
    refine v_iadd 37 rfl dX5_append_36 ?_
    refine n_puti 40 rfl fl_X5_22 sc_31 rfl dX5_append_37 (fun h3 => ?_)
    refine v_iconst 41 rfl dX5_append_40 ic_1 ?_
    exact v_zr1 dX5_append_41
  · refine v_iconst 9 rfl dX5_append_8 ic_0 ?_
    exact v_zr0 dX5_append_9
-- TemperNurses.hears(II)I at 0
def f8_hears_0 (a1 : Int32) (a2 : Int32) (h : jv_H) : Option (Int32 × jv_H) := (f8_isWithin a1 (0 : Int32) (99 : Int32) h).bind fun q1 => if q1.1 = 0 then some ((-1 : Int32), q1.2) else (f8_isWithin a2 (0 : Int32) (1 : Int32) q1.2).bind fun q2 => if q2.1 = 0 then some ((-1 : Int32), q2.2) else (f5_append_31 a1 a2 q2.2).bind fun q3 => if q3.1 = 0 then some ((-3 : Int32), q3.2) else some ((q3.2.1 31 3), q3.2)
set_option maxRecDepth 20000 in
theorem e8_hears_0 {l : Launch} {d : Nat} {X : List jv_S} (hd : 1 ≤ d) (a1 : Int32) (a2 : Int32) (h : jv_H) : jv_E l yX8_hears cX8_hears 3 (some .int) d (SC ++ X) jv_ri [.ref 0, .int a1, .int a2] h (f8_hears_0 a1 a2 h) := by
  refine e_of [(0, .ref 0), (1, .int a1), (2, .int a2)] rfl pn_X8 (fun _ => Nat.le_of_ble_eq_true rfl) (fun _ => rfl) ?_
  unfold f8_hears_0
  refine v_iload_n 1 1 rfl dX8_hears_0 rfl rfl ?_
  refine v_iconst 2 rfl dX8_hears_1 ic_0 ?_
  refine v_bipush 4 rfl dX8_hears_2 bp_99 ?_
  refine n_calls [.int a1, .int (0 : Int32), .int (99 : Int32)] [] (fun r => .int r :: []) 7 rfl (by omega) (Nat.le_of_ble_eq_true rfl) cb_X8_isWithin cs_X8_83 rfl (Nat.le_of_ble_eq_true rfl) dX8_hears_4 rfl (fun _ => rfl) (e8_isWithin (by omega) a1 (0 : Int32) (99 : Int32) h) (fun q1 => ?_)
  refine v_if_eq 19 10 rfl rfl dX8_hears_7 (fun _ => ?_) (fun _ => ?_)
  · refine v_iconst 20 rfl dX8_hears_19 ic_m1 ?_
    exact v_iret rfl dX8_hears_20
  · refine v_iload_n 2 11 rfl dX8_hears_10 rfl rfl ?_
    refine v_iconst 12 rfl dX8_hears_11 ic_0 ?_
    refine v_iconst 13 rfl dX8_hears_12 ic_1 ?_
    refine n_calls [.int a2, .int (0 : Int32), .int (1 : Int32)] [] (fun r => .int r :: []) 16 rfl (by omega) (Nat.le_of_ble_eq_true rfl) cb_X8_isWithin cs_X8_83 rfl (Nat.le_of_ble_eq_true rfl) dX8_hears_13 rfl (fun _ => rfl) (e8_isWithin (by omega) a2 (0 : Int32) (1 : Int32) q1.2) (fun q2 => ?_)
    refine v_if_ne 21 19 rfl rfl dX8_hears_16 (fun _ => ?_) (fun _ => ?_)
    · refine v_aload_n 0 22 rfl dX8_hears_21 rfl rfl ?_
      refine v_getr 25 rfl fl_X8_58 sc_0 rfl dX8_hears_22 ?_
      refine v_iload_n 1 26 rfl dX8_hears_25 rfl rfl ?_
      refine v_iload_n 2 27 rfl dX8_hears_26 rfl rfl ?_
      refine n_callv [.int a1, .int a2] [] (fun r => .int r :: []) 30 rfl (by omega) (Nat.le_of_ble_eq_true rfl) cb_X5_append cv_X8_237 sc_31 cn_X5 rfl (Nat.le_of_ble_eq_true rfl) dX8_hears_27 rfl (fun _ => rfl) (e5_append_31 (by omega) a1 a2 q2.2) (fun q3 => ?_)
      refine v_if_eq 43 33 rfl rfl dX8_hears_30 (fun _ => ?_) (fun _ => ?_)
      · refine v_bipush 45 rfl dX8_hears_43 bp_m3 ?_
        exact v_iret rfl dX8_hears_45
      · refine v_aload_n 0 34 rfl dX8_hears_33 rfl rfl ?_
        refine v_getr 37 rfl fl_X8_58 sc_0 rfl dX8_hears_34 ?_
        refine v_geti 40 rfl fl_X8_239 sc_31 rfl dX8_hears_37 ?_
        refine v_goto 45 rfl dX8_hears_40 ?_
        exact v_iret rfl dX8_hears_45
    · refine v_iconst 20 rfl dX8_hears_19 ic_m1 ?_
      exact v_iret rfl dX8_hears_20
-- TemperNurses.forget()I at 0
def f8_forget_0 (h : jv_H) : Option (Int32 × jv_H) := (f5_empty_31 h).bind fun q1 => some (q1.1, q1.2)
set_option maxRecDepth 20000 in
theorem e8_forget_0 {l : Launch} {d : Nat} {X : List jv_S} (hd : 1 ≤ d) (h : jv_H) : jv_E l yX8_forget cX8_forget 1 (some .int) d (SC ++ X) jv_ri [.ref 0] h (f8_forget_0  h) := by
  refine e_of [(0, .ref 0)] rfl pn_X8 (fun _ => Nat.le_of_ble_eq_true rfl) (fun _ => rfl) ?_
  unfold f8_forget_0
  refine v_aload_n 0 1 rfl dX8_forget_0 rfl rfl ?_
  refine v_getr 4 rfl fl_X8_58 sc_0 rfl dX8_forget_1 ?_
  refine n_callv [] [] (fun r => .int r :: []) 7 rfl (by omega) (Nat.le_of_ble_eq_true rfl) cb_X5_empty cv_X8_108 sc_31 cn_X5 rfl (Nat.le_of_ble_eq_true rfl) dX8_forget_4 rfl (fun _ => rfl) (e5_empty_31 (by omega)  h) (fun q1 => ?_)
  exact v_iret rfl dX8_forget_7
-- TemperNurses$Listener.isAsHeard(I)Z at 31
def g5_isAsHeard_31_b47 (k2 : Int32 → Int32 → jv_H → Option (Int32 × jv_H)) (a1 : Int32) (a2 : Int32) (s0 : Int32) (s1 : Int32) (h : jv_H) : Option (Int32 × jv_H) := if s0 = s1 then jv_let (a2 + (1 : Int32)) fun x1 => k2 a1 x1 h else some ((0 : Int32), h)
set_option maxRecDepth 20000 in
theorem b5_isAsHeard_31_b47 {l : Launch} {d : Nat} {X : List jv_S} (hd : 0 ≤ d) (k2 : Int32 → Int32 → jv_H → Option (Int32 × jv_H)) (hk2 : ∀ (a1 a2 : Int32) (h : jv_H), jv_V l RX5 cX5_isAsHeard 4 (some .boolean) d (SC ++ X) jv_ri 2 [(0, .ref 31), (1, .int a1), (2, .int a2)] [] h (k2 a1 a2 h)) : ∀ (a1 : Int32) (a2 : Int32) (s0 : Int32) (s1 : Int32) (h : jv_H), jv_V l RX5 cX5_isAsHeard 4 (some .boolean) d (SC ++ X) jv_ri 47 [(0, .ref 31), (1, .int a1), (2, .int a2)] [.int s1, .int s0] h (g5_isAsHeard_31_b47 k2 a1 a2 s0 s1 h) := by
  intro a1 a2 s0 s1 h
  unfold g5_isAsHeard_31_b47
  refine v_icmp_eq 52 50 rfl rfl dX5_isAsHeard_47 (fun _ => ?_) (fun _ => ?_)
  · refine n_iinc (fun x1 => [(0, .ref 31), (1, .int a1), (2, .int x1)]) 2 55 rfl dX5_isAsHeard_52 rfl ic_1 (Nat.le_of_ble_eq_true rfl) rfl (fun _ => rfl) (fun x1 => ?_)
    refine v_goto 2 rfl dX5_isAsHeard_55 ?_
    exact hk2 a1 x1 h
  · refine v_iconst 51 rfl dX5_isAsHeard_50 ic_0 ?_
    exact v_zr0 dX5_isAsHeard_51
def g5_isAsHeard_31_b30 (k2 : Int32 → Int32 → jv_H → Option (Int32 × jv_H)) (a1 : Int32) (a2 : Int32) (s0 : Int32) (h : jv_H) : Option (Int32 × jv_H) := jv_let s0 fun x1 => if jv_ix a2 4 then if (h.1 33 (Int32.toNatClampNeg a2)) = (1 : Int32) then g5_isAsHeard_31_b47 k2 a1 a2 x1 (1 : Int32) h else g5_isAsHeard_31_b47 k2 a1 a2 x1 (0 : Int32) h else none
set_option maxRecDepth 20000 in
theorem b5_isAsHeard_31_b30 {l : Launch} {d : Nat} {X : List jv_S} (hd : 0 ≤ d) (k2 : Int32 → Int32 → jv_H → Option (Int32 × jv_H)) (hk2 : ∀ (a1 a2 : Int32) (h : jv_H), jv_V l RX5 cX5_isAsHeard 4 (some .boolean) d (SC ++ X) jv_ri 2 [(0, .ref 31), (1, .int a1), (2, .int a2)] [] h (k2 a1 a2 h)) : ∀ (a1 : Int32) (a2 : Int32) (s0 : Int32) (h : jv_H), jv_V l RX5 cX5_isAsHeard 4 (some .boolean) d (SC ++ X) jv_ri 30 [(0, .ref 31), (1, .int a1), (2, .int a2)] [.int s0] h (g5_isAsHeard_31_b30 k2 a1 a2 s0 h) := by
  intro a1 a2 s0 h
  unfold g5_isAsHeard_31_b30
  refine n_istore_n (fun x1 => [(0, .ref 31), (1, .int a1), (2, .int a2), (3, .int x1)]) 31 rfl dX5_isAsHeard_30 rfl (Nat.le_of_ble_eq_true rfl) rfl (fun _ => rfl) (fun x1 => ?_)
  refine v_iload_n 3 32 rfl dX5_isAsHeard_31 rfl rfl ?_
  refine v_aload_n 0 33 rfl dX5_isAsHeard_32 rfl rfl ?_
  refine v_getr 36 rfl fl_X5_15 sc_31 rfl dX5_isAsHeard_33 ?_
  refine v_iload_n 2 37 rfl dX5_isAsHeard_36 rfl rfl ?_
  refine v_iald 38 rfl sc_33 dX5_isAsHeard_37 (fun _ => ?_)
  refine v_iconst 39 rfl dX5_isAsHeard_38 ic_1 ?_
  refine v_icmp_ne 46 42 rfl rfl dX5_isAsHeard_39 (fun _ => ?_) (fun _ => ?_)
  · refine v_iconst 47 rfl dX5_isAsHeard_46 ic_0 ?_
    refine v_sub [0, 1, 2] rfl ?_
    exact b5_isAsHeard_31_b47 hd k2 hk2 a1 a2 x1 (0 : Int32) h
  · refine v_iconst 43 rfl dX5_isAsHeard_42 ic_1 ?_
    refine v_goto 47 rfl dX5_isAsHeard_43 ?_
    refine v_sub [0, 1, 2] rfl ?_
    exact b5_isAsHeard_31_b47 hd k2 hk2 a1 a2 x1 (1 : Int32) h
def g5_isAsHeard_31_b2 (k2 : Int32 → Int32 → jv_H → Option (Int32 × jv_H)) (a1 : Int32) (a2 : Int32) (h : jv_H) : Option (Int32 × jv_H) := if (h.1 31 3) ≤ a2 then some ((1 : Int32), h) else if (4 : Int32) ≤ a2 then some ((1 : Int32), h) else if jv_ix a2 4 then if a1 < (h.1 32 (Int32.toNatClampNeg a2)) then g5_isAsHeard_31_b30 k2 a1 a2 (0 : Int32) h else g5_isAsHeard_31_b30 k2 a1 a2 (1 : Int32) h else none
set_option maxRecDepth 20000 in
theorem b5_isAsHeard_31_b2 {l : Launch} {d : Nat} {X : List jv_S} (hd : 0 ≤ d) (k2 : Int32 → Int32 → jv_H → Option (Int32 × jv_H)) (hk2 : ∀ (a1 a2 : Int32) (h : jv_H), jv_V l RX5 cX5_isAsHeard 4 (some .boolean) d (SC ++ X) jv_ri 2 [(0, .ref 31), (1, .int a1), (2, .int a2)] [] h (k2 a1 a2 h)) : ∀ (a1 : Int32) (a2 : Int32) (h : jv_H), jv_V l RX5 cX5_isAsHeard 4 (some .boolean) d (SC ++ X) jv_ri 2 [(0, .ref 31), (1, .int a1), (2, .int a2)] [] h (g5_isAsHeard_31_b2 k2 a1 a2 h) := by
  intro a1 a2 h
  unfold g5_isAsHeard_31_b2
  refine v_iload_n 2 3 rfl dX5_isAsHeard_2 rfl rfl ?_
  refine v_aload_n 0 4 rfl dX5_isAsHeard_3 rfl rfl ?_
  refine v_geti 7 rfl fl_X5_22 sc_31 rfl dX5_isAsHeard_4 ?_
  refine v_icmp_ge 58 10 rfl rfl dX5_isAsHeard_7 (fun _ => ?_) (fun _ => ?_)
  · refine v_iconst 59 rfl dX5_isAsHeard_58 ic_1 ?_
    exact v_zr1 dX5_isAsHeard_59
  · refine v_iload_n 2 11 rfl dX5_isAsHeard_10 rfl rfl ?_
    refine v_iconst 12 rfl dX5_isAsHeard_11 ic_4 ?_
    refine v_icmp_ge 58 15 rfl rfl dX5_isAsHeard_12 (fun _ => ?_) (fun _ => ?_)
    · refine v_iconst 59 rfl dX5_isAsHeard_58 ic_1 ?_
      exact v_zr1 dX5_isAsHeard_59
    · refine v_iload_n 1 16 rfl dX5_isAsHeard_15 rfl rfl ?_
      refine v_aload_n 0 17 rfl dX5_isAsHeard_16 rfl rfl ?_
      refine v_getr 20 rfl fl_X5_9 sc_31 rfl dX5_isAsHeard_17 ?_
      refine v_iload_n 2 21 rfl dX5_isAsHeard_20 rfl rfl ?_
      refine v_iald 22 rfl sc_32 dX5_isAsHeard_21 (fun _ => ?_)
      refine v_icmp_lt 29 25 rfl rfl dX5_isAsHeard_22 (fun _ => ?_) (fun _ => ?_)
      · refine v_iconst 30 rfl dX5_isAsHeard_29 ic_0 ?_
        exact b5_isAsHeard_31_b30 hd k2 hk2 a1 a2 (0 : Int32) h
      · refine v_iconst 26 rfl dX5_isAsHeard_25 ic_1 ?_
        refine v_goto 30 rfl dX5_isAsHeard_26 ?_
        exact b5_isAsHeard_31_b30 hd k2 hk2 a1 a2 (1 : Int32) h
def f5_isAsHeard_31_l2 : Nat → Int32 → Int32 → jv_H → Option (Int32 × jv_H)
  | 0 => fun _ _ _ => none
  | n + 1 => fun a1 a2 h => g5_isAsHeard_31_b2 (f5_isAsHeard_31_l2 n) a1 a2 h
theorem w5_isAsHeard_31_l2 {l : Launch} {d : Nat} {X : List jv_S} (hd : 0 ≤ d) : ∀ (n : Nat) (a1 : Int32) (a2 : Int32) (h : jv_H), jv_V l RX5 cX5_isAsHeard 4 (some .boolean) d (SC ++ X) jv_ri 2 [(0, .ref 31), (1, .int a1), (2, .int a2)] [] h (f5_isAsHeard_31_l2 n a1 a2 h) := by
  intro n
  induction n with
  | zero => intro a1 a2 h; exact v_none
  | succ n ih => intro a1 a2 h; exact b5_isAsHeard_31_b2 hd (f5_isAsHeard_31_l2 n) ih a1 a2 h
def f5_isAsHeard_31 (a1 : Int32) (h : jv_H) : Option (Int32 × jv_H) := jv_let (0 : Int32) fun x1 => f5_isAsHeard_31_l2 jv_fuel a1 x1 h
set_option maxRecDepth 20000 in
theorem e5_isAsHeard_31 {l : Launch} {d : Nat} {X : List jv_S} (hd : 0 ≤ d) (a1 : Int32) (h : jv_H) : jv_E l yX5_isAsHeard cX5_isAsHeard 4 (some .boolean) d (SC ++ X) jv_ri [.ref 31, .int a1] h (f5_isAsHeard_31 a1 h) := by
  refine e_of [(0, .ref 31), (1, .int a1)] rfl pn_X5 (fun _ => Nat.le_of_ble_eq_true rfl) (fun _ => rfl) ?_
  unfold f5_isAsHeard_31
  refine v_iconst 1 rfl dX5_isAsHeard_0 ic_0 ?_
  refine n_istore_n (fun x1 => [(0, .ref 31), (1, .int a1), (2, .int x1)]) 2 rfl dX5_isAsHeard_1 rfl (Nat.le_of_ble_eq_true rfl) rfl (fun _ => rfl) (fun x1 => ?_)
  exact w5_isAsHeard_31_l2 hd jv_fuel a1 x1 h
-- TemperNurses$Listener.suspects()I at 31
def g5_suspects_31_b43 (k4 : Int32 → Int32 → jv_H → Option (Int32 × jv_H)) (a1 : Int32) (a2 : Int32) (h : jv_H) : Option (Int32 × jv_H) := jv_let (a2 + (1 : Int32)) fun x1 => k4 a1 x1 h
set_option maxRecDepth 20000 in
theorem b5_suspects_31_b43 {l : Launch} {d : Nat} {X : List jv_S} (hd : 2 ≤ d) (k4 : Int32 → Int32 → jv_H → Option (Int32 × jv_H)) (hk4 : ∀ (a1 a2 : Int32) (h : jv_H), jv_V l RX5 cX5_suspects 3 (some .int) d (SC ++ X) jv_ri 4 [(0, .ref 31), (1, .int a1), (2, .int a2)] [] h (k4 a1 a2 h)) : ∀ (a1 : Int32) (a2 : Int32) (h : jv_H), jv_V l RX5 cX5_suspects 3 (some .int) d (SC ++ X) jv_ri 43 [(0, .ref 31), (1, .int a1), (2, .int a2)] [] h (g5_suspects_31_b43 k4 a1 a2 h) := by
  intro a1 a2 h
  unfold g5_suspects_31_b43
  refine n_iinc (fun x1 => [(0, .ref 31), (1, .int a1), (2, .int x1)]) 2 46 rfl dX5_suspects_43 rfl ic_1 (Nat.le_of_ble_eq_true rfl) rfl (fun _ => rfl) (fun x1 => ?_)
  refine v_goto 4 rfl dX5_suspects_46 ?_
  exact hk4 a1 x1 h
def g5_suspects_31_b4 (k4 : Int32 → Int32 → jv_H → Option (Int32 × jv_H)) (a1 : Int32) (a2 : Int32) (h : jv_H) : Option (Int32 × jv_H) := if (h.1 1 0) ≤ a2 then some (a1, h) else (f1_heat_20 a2 h).bind fun q1 => (f5_isAsHeard_31 q1.1 q1.2).bind fun q2 => if q2.1 = 0 then g5_suspects_31_b43 k4 a1 a2 q2.2 else (f8_bit a2 q2.2).bind fun q3 => jv_let (a1 ||| q3.1) fun x4 => g5_suspects_31_b43 k4 x4 a2 q3.2
set_option maxRecDepth 20000 in
theorem b5_suspects_31_b4 {l : Launch} {d : Nat} {X : List jv_S} (hd : 2 ≤ d) (k4 : Int32 → Int32 → jv_H → Option (Int32 × jv_H)) (hk4 : ∀ (a1 a2 : Int32) (h : jv_H), jv_V l RX5 cX5_suspects 3 (some .int) d (SC ++ X) jv_ri 4 [(0, .ref 31), (1, .int a1), (2, .int a2)] [] h (k4 a1 a2 h)) : ∀ (a1 : Int32) (a2 : Int32) (h : jv_H), jv_V l RX5 cX5_suspects 3 (some .int) d (SC ++ X) jv_ri 4 [(0, .ref 31), (1, .int a1), (2, .int a2)] [] h (g5_suspects_31_b4 k4 a1 a2 h) := by
  intro a1 a2 h
  unfold g5_suspects_31_b4
  refine v_iload_n 2 5 rfl dX5_suspects_4 rfl rfl ?_
  refine v_aload_n 0 6 rfl dX5_suspects_5 rfl rfl ?_
  refine v_getr 9 rfl fl_X5_18 sc_31 rfl dX5_suspects_6 ?_
  refine v_getr 12 rfl fl_X5_26 sc_22 rfl dX5_suspects_9 ?_
  refine v_geti 15 rfl fl_X5_32 sc_1 rfl dX5_suspects_12 ?_
  refine v_icmp_ge 49 18 rfl rfl dX5_suspects_15 (fun _ => ?_) (fun _ => ?_)
  · refine v_iload_n 1 50 rfl dX5_suspects_49 rfl rfl ?_
    exact v_iret rfl dX5_suspects_50
  · refine v_aload_n 0 19 rfl dX5_suspects_18 rfl rfl ?_
    refine v_aload_n 0 20 rfl dX5_suspects_19 rfl rfl ?_
    refine v_getr 23 rfl fl_X5_18 sc_31 rfl dX5_suspects_20 ?_
    refine v_getr 26 rfl fl_X5_37 sc_22 rfl dX5_suspects_23 ?_
    refine v_iload_n 2 27 rfl dX5_suspects_26 rfl rfl ?_
    refine n_callv [.int a2] [.ref 31] (fun r => .int r :: [.ref 31]) 30 rfl (by omega) (Nat.le_of_ble_eq_true rfl) cb_X1_heat cv_X5_41 sc_20 cn_X1 rfl (Nat.le_of_ble_eq_true rfl) dX5_suspects_27 rfl (fun _ => rfl) (e1_heat_20 (by omega) a2 h) (fun q1 => ?_)
    refine n_callv [.int q1.1] [] (fun r => .int r :: []) 33 rfl (by omega) (Nat.le_of_ble_eq_true rfl) cb_X5_isAsHeard cv_X5_47 sc_31 cn_X5 rfl (Nat.le_of_ble_eq_true rfl) dX5_suspects_30 rfl (fun _ => rfl) (e5_isAsHeard_31 (by omega) q1.1 q1.2) (fun q2 => ?_)
    refine v_if_eq 43 36 rfl rfl dX5_suspects_33 (fun _ => ?_) (fun _ => ?_)
    · exact b5_suspects_31_b43 hd k4 hk4 a1 a2 q2.2
    · refine v_iload_n 1 37 rfl dX5_suspects_36 rfl rfl ?_
      refine v_iload_n 2 38 rfl dX5_suspects_37 rfl rfl ?_
      refine n_calln [.int a2] [.int a1] (fun r => .int r :: [.int a1]) 41 rfl (by omega) (Nat.le_of_ble_eq_true rfl) cb_X8_bit cn_X5_51 rfl (Nat.le_of_ble_eq_true rfl) dX5_suspects_38 rfl (fun _ => rfl) (e8_bit (by omega) a2 q2.2) (fun q3 => ?_)
      refine v_ior 42 rfl dX5_suspects_41 ?_
      refine n_istore_n (fun x4 => [(0, .ref 31), (1, .int x4), (2, .int a2)]) 43 rfl dX5_suspects_42 rfl (Nat.le_of_ble_eq_true rfl) rfl (fun _ => rfl) (fun x4 => ?_)
      exact b5_suspects_31_b43 hd k4 hk4 x4 a2 q3.2
def f5_suspects_31_l4 : Nat → Int32 → Int32 → jv_H → Option (Int32 × jv_H)
  | 0 => fun _ _ _ => none
  | n + 1 => fun a1 a2 h => g5_suspects_31_b4 (f5_suspects_31_l4 n) a1 a2 h
theorem w5_suspects_31_l4 {l : Launch} {d : Nat} {X : List jv_S} (hd : 2 ≤ d) : ∀ (n : Nat) (a1 : Int32) (a2 : Int32) (h : jv_H), jv_V l RX5 cX5_suspects 3 (some .int) d (SC ++ X) jv_ri 4 [(0, .ref 31), (1, .int a1), (2, .int a2)] [] h (f5_suspects_31_l4 n a1 a2 h) := by
  intro n
  induction n with
  | zero => intro a1 a2 h; exact v_none
  | succ n ih => intro a1 a2 h; exact b5_suspects_31_b4 hd (f5_suspects_31_l4 n) ih a1 a2 h
def f5_suspects_31 (h : jv_H) : Option (Int32 × jv_H) := jv_let (0 : Int32) fun x1 => jv_let (0 : Int32) fun x2 => f5_suspects_31_l4 jv_fuel x1 x2 h
set_option maxRecDepth 20000 in
theorem e5_suspects_31 {l : Launch} {d : Nat} {X : List jv_S} (hd : 2 ≤ d) (h : jv_H) : jv_E l yX5_suspects cX5_suspects 3 (some .int) d (SC ++ X) jv_ri [.ref 31] h (f5_suspects_31  h) := by
  refine e_of [(0, .ref 31)] rfl pn_X5 (fun _ => Nat.le_of_ble_eq_true rfl) (fun _ => rfl) ?_
  unfold f5_suspects_31
  refine v_iconst 1 rfl dX5_suspects_0 ic_0 ?_
  refine n_istore_n (fun x1 => [(0, .ref 31), (1, .int x1)]) 2 rfl dX5_suspects_1 rfl (Nat.le_of_ble_eq_true rfl) rfl (fun _ => rfl) (fun x1 => ?_)
  refine v_iconst 3 rfl dX5_suspects_2 ic_0 ?_
  refine n_istore_n (fun x2 => [(0, .ref 31), (1, .int x1), (2, .int x2)]) 4 rfl dX5_suspects_3 rfl (Nat.le_of_ble_eq_true rfl) rfl (fun _ => rfl) (fun x2 => ?_)
  exact w5_suspects_31_l4 hd jv_fuel x1 x2 h
-- TemperNurses.whose()I at 0
def f8_whose_0 (h : jv_H) : Option (Int32 × jv_H) := (f5_suspects_31 h).bind fun q1 => some (q1.1, q1.2)
set_option maxRecDepth 20000 in
theorem e8_whose_0 {l : Launch} {d : Nat} {X : List jv_S} (hd : 3 ≤ d) (h : jv_H) : jv_E l yX8_whose cX8_whose 1 (some .int) d (SC ++ X) jv_ri [.ref 0] h (f8_whose_0  h) := by
  refine e_of [(0, .ref 0)] rfl pn_X8 (fun _ => Nat.le_of_ble_eq_true rfl) (fun _ => rfl) ?_
  unfold f8_whose_0
  refine v_aload_n 0 1 rfl dX8_whose_0 rfl rfl ?_
  refine v_getr 4 rfl fl_X8_58 sc_0 rfl dX8_whose_1 ?_
  refine n_callv [] [] (fun r => .int r :: []) 7 rfl (by omega) (Nat.le_of_ble_eq_true rfl) cb_X5_suspects cv_X8_242 sc_31 cn_X5 rfl (Nat.le_of_ble_eq_true rfl) dX8_whose_4 rfl (fun _ => rfl) (e5_suspects_31 (by omega)  h) (fun q1 => ?_)
  exact v_iret rfl dX8_whose_7
-- TemperNurses$Listener.countBanging(II)I at 31
def g5_countBanging_31_b49 (k5 : Int32 → Int32 → Int32 → Int32 → jv_H → Option (Int32 × jv_H)) (a1 : Int32) (a2 : Int32) (a3 : Int32) (a4 : Int32) (h : jv_H) : Option (Int32 × jv_H) := jv_let (a4 + (1 : Int32)) fun x1 => k5 a1 a2 a3 x1 h
set_option maxRecDepth 20000 in
theorem b5_countBanging_31_b49 {l : Launch} {d : Nat} {X : List jv_S} (hd : 2 ≤ d) (k5 : Int32 → Int32 → Int32 → Int32 → jv_H → Option (Int32 × jv_H)) (hk5 : ∀ (a1 a2 a3 a4 : Int32) (h : jv_H), jv_V l RX5 cX5_countBanging 5 (some .int) d (SC ++ X) jv_ri 5 [(0, .ref 31), (1, .int a1), (2, .int a2), (3, .int a3), (4, .int a4)] [] h (k5 a1 a2 a3 a4 h)) : ∀ (a1 : Int32) (a2 : Int32) (a3 : Int32) (a4 : Int32) (h : jv_H), jv_V l RX5 cX5_countBanging 5 (some .int) d (SC ++ X) jv_ri 49 [(0, .ref 31), (1, .int a1), (2, .int a2), (3, .int a3), (4, .int a4)] [] h (g5_countBanging_31_b49 k5 a1 a2 a3 a4 h) := by
  intro a1 a2 a3 a4 h
  unfold g5_countBanging_31_b49
  refine n_iinc (fun x1 => [(0, .ref 31), (1, .int a1), (2, .int a2), (3, .int a3), (4, .int x1)]) 4 52 rfl dX5_countBanging_49 rfl ic_1 (Nat.le_of_ble_eq_true rfl) rfl (fun _ => rfl) (fun x1 => ?_)
  refine v_goto 5 rfl dX5_countBanging_52 ?_
  exact hk5 a1 a2 a3 x1 h
def g5_countBanging_31_b5 (k5 : Int32 → Int32 → Int32 → Int32 → jv_H → Option (Int32 × jv_H)) (a1 : Int32) (a2 : Int32) (a3 : Int32) (a4 : Int32) (h : jv_H) : Option (Int32 × jv_H) := if (h.1 1 0) ≤ a4 then some (a3, h) else (f8_bit a4 h).bind fun q1 => if (a1 &&& q1.1) = 0 then g5_countBanging_31_b49 k5 a1 a2 a3 a4 q1.2 else (f1_heat_20 a4 q1.2).bind fun q2 => if q2.1 < a2 then g5_countBanging_31_b49 k5 a1 a2 a3 a4 q2.2 else jv_let (a3 + (1 : Int32)) fun x3 => g5_countBanging_31_b49 k5 a1 a2 x3 a4 q2.2
set_option maxRecDepth 20000 in
theorem b5_countBanging_31_b5 {l : Launch} {d : Nat} {X : List jv_S} (hd : 2 ≤ d) (k5 : Int32 → Int32 → Int32 → Int32 → jv_H → Option (Int32 × jv_H)) (hk5 : ∀ (a1 a2 a3 a4 : Int32) (h : jv_H), jv_V l RX5 cX5_countBanging 5 (some .int) d (SC ++ X) jv_ri 5 [(0, .ref 31), (1, .int a1), (2, .int a2), (3, .int a3), (4, .int a4)] [] h (k5 a1 a2 a3 a4 h)) : ∀ (a1 : Int32) (a2 : Int32) (a3 : Int32) (a4 : Int32) (h : jv_H), jv_V l RX5 cX5_countBanging 5 (some .int) d (SC ++ X) jv_ri 5 [(0, .ref 31), (1, .int a1), (2, .int a2), (3, .int a3), (4, .int a4)] [] h (g5_countBanging_31_b5 k5 a1 a2 a3 a4 h) := by
  intro a1 a2 a3 a4 h
  unfold g5_countBanging_31_b5
  refine v_iload 4 7 rfl dX5_countBanging_5 rfl ?_
  refine v_aload_n 0 8 rfl dX5_countBanging_7 rfl rfl ?_
  refine v_getr 11 rfl fl_X5_18 sc_31 rfl dX5_countBanging_8 ?_
  refine v_getr 14 rfl fl_X5_26 sc_22 rfl dX5_countBanging_11 ?_
  refine v_geti 17 rfl fl_X5_32 sc_1 rfl dX5_countBanging_14 ?_
  refine v_icmp_ge 55 20 rfl rfl dX5_countBanging_17 (fun _ => ?_) (fun _ => ?_)
  · refine v_iload_n 3 56 rfl dX5_countBanging_55 rfl rfl ?_
    exact v_iret rfl dX5_countBanging_56
  · refine v_iload_n 1 21 rfl dX5_countBanging_20 rfl rfl ?_
    refine v_iload 4 23 rfl dX5_countBanging_21 rfl ?_
    refine n_calln [.int a4] [.int a1] (fun r => .int r :: [.int a1]) 26 rfl (by omega) (Nat.le_of_ble_eq_true rfl) cb_X8_bit cn_X5_51 rfl (Nat.le_of_ble_eq_true rfl) dX5_countBanging_23 rfl (fun _ => rfl) (e8_bit (by omega) a4 h) (fun q1 => ?_)
    refine v_iand 27 rfl dX5_countBanging_26 ?_
    refine v_if_eq 49 30 rfl rfl dX5_countBanging_27 (fun _ => ?_) (fun _ => ?_)
    · exact b5_countBanging_31_b49 hd k5 hk5 a1 a2 a3 a4 q1.2
    · refine v_aload_n 0 31 rfl dX5_countBanging_30 rfl rfl ?_
      refine v_getr 34 rfl fl_X5_18 sc_31 rfl dX5_countBanging_31 ?_
      refine v_getr 37 rfl fl_X5_37 sc_22 rfl dX5_countBanging_34 ?_
      refine v_iload 4 39 rfl dX5_countBanging_37 rfl ?_
      refine n_callv [.int a4] [] (fun r => .int r :: []) 42 rfl (by omega) (Nat.le_of_ble_eq_true rfl) cb_X1_heat cv_X5_41 sc_20 cn_X1 rfl (Nat.le_of_ble_eq_true rfl) dX5_countBanging_39 rfl (fun _ => rfl) (e1_heat_20 (by omega) a4 q1.2) (fun q2 => ?_)
      refine v_iload_n 2 43 rfl dX5_countBanging_42 rfl rfl ?_
      refine v_icmp_lt 49 46 rfl rfl dX5_countBanging_43 (fun _ => ?_) (fun _ => ?_)
      · exact b5_countBanging_31_b49 hd k5 hk5 a1 a2 a3 a4 q2.2
      · refine n_iinc (fun x3 => [(0, .ref 31), (1, .int a1), (2, .int a2), (3, .int x3), (4, .int a4)]) 3 49 rfl dX5_countBanging_46 rfl ic_1 (Nat.le_of_ble_eq_true rfl) rfl (fun _ => rfl) (fun x3 => ?_)
        exact b5_countBanging_31_b49 hd k5 hk5 a1 a2 x3 a4 q2.2
def f5_countBanging_31_l5 : Nat → Int32 → Int32 → Int32 → Int32 → jv_H → Option (Int32 × jv_H)
  | 0 => fun _ _ _ _ _ => none
  | n + 1 => fun a1 a2 a3 a4 h => g5_countBanging_31_b5 (f5_countBanging_31_l5 n) a1 a2 a3 a4 h
theorem w5_countBanging_31_l5 {l : Launch} {d : Nat} {X : List jv_S} (hd : 2 ≤ d) : ∀ (n : Nat) (a1 : Int32) (a2 : Int32) (a3 : Int32) (a4 : Int32) (h : jv_H), jv_V l RX5 cX5_countBanging 5 (some .int) d (SC ++ X) jv_ri 5 [(0, .ref 31), (1, .int a1), (2, .int a2), (3, .int a3), (4, .int a4)] [] h (f5_countBanging_31_l5 n a1 a2 a3 a4 h) := by
  intro n
  induction n with
  | zero => intro a1 a2 a3 a4 h; exact v_none
  | succ n ih => intro a1 a2 a3 a4 h; exact b5_countBanging_31_b5 hd (f5_countBanging_31_l5 n) ih a1 a2 a3 a4 h
def f5_countBanging_31 (a1 : Int32) (a2 : Int32) (h : jv_H) : Option (Int32 × jv_H) := jv_let (0 : Int32) fun x1 => jv_let (0 : Int32) fun x2 => f5_countBanging_31_l5 jv_fuel a1 a2 x1 x2 h
set_option maxRecDepth 20000 in
theorem e5_countBanging_31 {l : Launch} {d : Nat} {X : List jv_S} (hd : 2 ≤ d) (a1 : Int32) (a2 : Int32) (h : jv_H) : jv_E l yX5_countBanging cX5_countBanging 5 (some .int) d (SC ++ X) jv_ri [.ref 31, .int a1, .int a2] h (f5_countBanging_31 a1 a2 h) := by
  refine e_of [(0, .ref 31), (1, .int a1), (2, .int a2)] rfl pn_X5 (fun _ => Nat.le_of_ble_eq_true rfl) (fun _ => rfl) ?_
  unfold f5_countBanging_31
  refine v_iconst 1 rfl dX5_countBanging_0 ic_0 ?_
  refine n_istore_n (fun x1 => [(0, .ref 31), (1, .int a1), (2, .int a2), (3, .int x1)]) 2 rfl dX5_countBanging_1 rfl (Nat.le_of_ble_eq_true rfl) rfl (fun _ => rfl) (fun x1 => ?_)
  refine v_iconst 3 rfl dX5_countBanging_2 ic_0 ?_
  refine n_istore (fun x2 => [(0, .ref 31), (1, .int a1), (2, .int a2), (3, .int x1), (4, .int x2)]) 5 rfl dX5_countBanging_3 (Nat.le_of_ble_eq_true rfl) rfl (fun _ => rfl) (fun x2 => ?_)
  exact w5_countBanging_31_l5 hd jv_fuel a1 a2 x1 x2 h
-- TemperNurses$Listener.nextBang()I at 31
def g5_nextBang_31_b59 (k19 : Int32 → Int32 → Int32 → Int32 → Int32 → jv_H → Option (Int32 × jv_H)) (a1 : Int32) (a2 : Int32) (a3 : Int32) (a4 : Int32) (a5 : Int32) (h : jv_H) : Option (Int32 × jv_H) := jv_let (a5 + (1 : Int32)) fun x1 => k19 a1 a2 a3 a4 x1 h
set_option maxRecDepth 20000 in
theorem b5_nextBang_31_b59 {l : Launch} {d : Nat} {X : List jv_S} (hd : 3 ≤ d) (k19 : Int32 → Int32 → Int32 → Int32 → Int32 → jv_H → Option (Int32 × jv_H)) (hk19 : ∀ (a1 a2 a3 a4 a5 : Int32) (h : jv_H), jv_V l RX5 cX5_nextBang 8 (some .int) d (SC ++ X) jv_ri 19 [(0, .ref 31), (1, .int a1), (2, .int a2), (3, .int a3), (4, .int a4), (5, .int a5)] [] h (k19 a1 a2 a3 a4 a5 h)) : ∀ (a1 : Int32) (a2 : Int32) (a3 : Int32) (a4 : Int32) (a5 : Int32) (h : jv_H), jv_V l RX5 cX5_nextBang 8 (some .int) d (SC ++ X) jv_ri 59 [(0, .ref 31), (1, .int a1), (2, .int a2), (3, .int a3), (4, .int a4), (5, .int a5)] [] h (g5_nextBang_31_b59 k19 a1 a2 a3 a4 a5 h) := by
  intro a1 a2 a3 a4 a5 h
  unfold g5_nextBang_31_b59
  refine n_iinc (fun x1 => [(0, .ref 31), (1, .int a1), (2, .int a2), (3, .int a3), (4, .int a4), (5, .int x1)]) 5 62 rfl dX5_nextBang_59 rfl ic_1 (Nat.le_of_ble_eq_true rfl) rfl (fun _ => rfl) (fun x1 => ?_)
  refine v_goto 19 rfl dX5_nextBang_62 ?_
  exact hk19 a1 a2 a3 a4 x1 h
def g5_nextBang_31_b19 (k19 : Int32 → Int32 → Int32 → Int32 → Int32 → jv_H → Option (Int32 × jv_H)) (a1 : Int32) (a2 : Int32) (a3 : Int32) (a4 : Int32) (a5 : Int32) (h : jv_H) : Option (Int32 × jv_H) := if (99 : Int32) < a5 then some (a4, h) else (f5_countBanging_31 a1 a5 h).bind fun q1 => jv_let q1.1 fun x2 => jv_let (if x2 < (a2 - x2) then (a2 - x2) else x2) fun x3 => if a3 ≤ x3 then g5_nextBang_31_b59 k19 a1 a2 a3 a4 a5 q1.2 else jv_let x3 fun x4 => jv_let a5 fun x5 => g5_nextBang_31_b59 k19 a1 a2 x4 x5 a5 q1.2
set_option maxRecDepth 20000 in
theorem b5_nextBang_31_b19 {l : Launch} {d : Nat} {X : List jv_S} (hd : 3 ≤ d) (k19 : Int32 → Int32 → Int32 → Int32 → Int32 → jv_H → Option (Int32 × jv_H)) (hk19 : ∀ (a1 a2 a3 a4 a5 : Int32) (h : jv_H), jv_V l RX5 cX5_nextBang 8 (some .int) d (SC ++ X) jv_ri 19 [(0, .ref 31), (1, .int a1), (2, .int a2), (3, .int a3), (4, .int a4), (5, .int a5)] [] h (k19 a1 a2 a3 a4 a5 h)) : ∀ (a1 : Int32) (a2 : Int32) (a3 : Int32) (a4 : Int32) (a5 : Int32) (h : jv_H), jv_V l RX5 cX5_nextBang 8 (some .int) d (SC ++ X) jv_ri 19 [(0, .ref 31), (1, .int a1), (2, .int a2), (3, .int a3), (4, .int a4), (5, .int a5)] [] h (g5_nextBang_31_b19 k19 a1 a2 a3 a4 a5 h) := by
  intro a1 a2 a3 a4 a5 h
  unfold g5_nextBang_31_b19
  refine v_iload 5 21 rfl dX5_nextBang_19 rfl ?_
  refine v_bipush 23 rfl dX5_nextBang_21 bp_99 ?_
  refine v_icmp_gt 65 26 rfl rfl dX5_nextBang_23 (fun _ => ?_) (fun _ => ?_)
  · refine v_iload 4 67 rfl dX5_nextBang_65 rfl ?_
    exact v_iret rfl dX5_nextBang_67
  · refine v_aload_n 0 27 rfl dX5_nextBang_26 rfl rfl ?_
    refine v_iload_n 1 28 rfl dX5_nextBang_27 rfl rfl ?_
    refine v_iload 5 30 rfl dX5_nextBang_28 rfl ?_
    refine n_callv [.int a1, .int a5] [] (fun r => .int r :: []) 33 rfl (by omega) (Nat.le_of_ble_eq_true rfl) cb_X5_countBanging cv_X5_63 sc_31 cn_X5 rfl (Nat.le_of_ble_eq_true rfl) dX5_nextBang_30 rfl (fun _ => rfl) (e5_countBanging_31 (by omega) a1 a5 h) (fun q1 => ?_)
    refine n_istore (fun x2 => [(0, .ref 31), (1, .int a1), (2, .int a2), (3, .int a3), (4, .int a4), (5, .int a5), (6, .int x2)]) 35 rfl dX5_nextBang_33 (Nat.le_of_ble_eq_true rfl) rfl (fun _ => rfl) (fun x2 => ?_)
    refine v_iload 6 37 rfl dX5_nextBang_35 rfl ?_
    refine v_iload_n 2 38 rfl dX5_nextBang_37 rfl rfl ?_
    refine v_iload 6 40 rfl dX5_nextBang_38 rfl ?_
    refine v_isub 41 rfl dX5_nextBang_40 ?_
    refine v_mmax 44 rfl (by omega) (Nat.le_of_ble_eq_true rfl) mw_741 mw_596 mw_66 mw_597 dX5_nextBang_41 ?_
    refine n_istore (fun x3 => [(0, .ref 31), (1, .int a1), (2, .int a2), (3, .int a3), (4, .int a4), (5, .int a5), (6, .int x2), (7, .int x3)]) 46 rfl dX5_nextBang_44 (Nat.le_of_ble_eq_true rfl) rfl (fun _ => rfl) (fun x3 => ?_)
    refine v_iload 7 48 rfl dX5_nextBang_46 rfl ?_
    refine v_iload_n 3 49 rfl dX5_nextBang_48 rfl rfl ?_
    refine v_icmp_ge 59 52 rfl rfl dX5_nextBang_49 (fun _ => ?_) (fun _ => ?_)
    · refine v_sub [0, 1, 2, 3, 4, 5] rfl ?_
      exact b5_nextBang_31_b59 hd k19 hk19 a1 a2 a3 a4 a5 q1.2
    · refine v_iload 7 54 rfl dX5_nextBang_52 rfl ?_
      refine n_istore_n (fun x4 => [(0, .ref 31), (1, .int a1), (2, .int a2), (3, .int x4), (4, .int a4), (5, .int a5), (6, .int x2), (7, .int x3)]) 55 rfl dX5_nextBang_54 rfl (Nat.le_of_ble_eq_true rfl) rfl (fun _ => rfl) (fun x4 => ?_)
      refine v_iload 5 57 rfl dX5_nextBang_55 rfl ?_
      refine n_istore (fun x5 => [(0, .ref 31), (1, .int a1), (2, .int a2), (3, .int x4), (4, .int x5), (5, .int a5), (6, .int x2), (7, .int x3)]) 59 rfl dX5_nextBang_57 (Nat.le_of_ble_eq_true rfl) rfl (fun _ => rfl) (fun x5 => ?_)
      refine v_sub [0, 1, 2, 3, 4, 5] rfl ?_
      exact b5_nextBang_31_b59 hd k19 hk19 a1 a2 x4 x5 a5 q1.2
def f5_nextBang_31_l19 : Nat → Int32 → Int32 → Int32 → Int32 → Int32 → jv_H → Option (Int32 × jv_H)
  | 0 => fun _ _ _ _ _ _ => none
  | n + 1 => fun a1 a2 a3 a4 a5 h => g5_nextBang_31_b19 (f5_nextBang_31_l19 n) a1 a2 a3 a4 a5 h
theorem w5_nextBang_31_l19 {l : Launch} {d : Nat} {X : List jv_S} (hd : 3 ≤ d) : ∀ (n : Nat) (a1 : Int32) (a2 : Int32) (a3 : Int32) (a4 : Int32) (a5 : Int32) (h : jv_H), jv_V l RX5 cX5_nextBang 8 (some .int) d (SC ++ X) jv_ri 19 [(0, .ref 31), (1, .int a1), (2, .int a2), (3, .int a3), (4, .int a4), (5, .int a5)] [] h (f5_nextBang_31_l19 n a1 a2 a3 a4 a5 h) := by
  intro n
  induction n with
  | zero => intro a1 a2 a3 a4 a5 h; exact v_none
  | succ n ih => intro a1 a2 a3 a4 a5 h; exact b5_nextBang_31_b19 hd (f5_nextBang_31_l19 n) ih a1 a2 a3 a4 a5 h
def f5_nextBang_31 (h : jv_H) : Option (Int32 × jv_H) := (f5_suspects_31 h).bind fun q1 => jv_let q1.1 fun x2 => (fj6_bitCount_0f7a4 x2 q1.2).bind fun q3 => jv_let q3.1 fun x4 => jv_let x4 fun x5 => jv_let (-9 : Int32) fun x6 => jv_let (0 : Int32) fun x7 => f5_nextBang_31_l19 jv_fuel x2 x4 x5 x6 x7 q3.2
set_option maxRecDepth 20000 in
theorem e5_nextBang_31 {l : Launch} {d : Nat} {X : List jv_S} (hd : 3 ≤ d) (h : jv_H) : jv_E l yX5_nextBang cX5_nextBang 8 (some .int) d (SC ++ X) jv_ri [.ref 31] h (f5_nextBang_31  h) := by
  refine e_of [(0, .ref 31)] rfl pn_X5 (fun _ => Nat.le_of_ble_eq_true rfl) (fun _ => rfl) ?_
  unfold f5_nextBang_31
  refine v_aload_n 0 1 rfl dX5_nextBang_0 rfl rfl ?_
  refine n_callv [] [] (fun r => .int r :: []) 4 rfl (by omega) (Nat.le_of_ble_eq_true rfl) cb_X5_suspects cv_X5_54 sc_31 cn_X5 rfl (Nat.le_of_ble_eq_true rfl) dX5_nextBang_1 rfl (fun _ => rfl) (e5_suspects_31 (by omega)  h) (fun q1 => ?_)
  refine n_istore_n (fun x2 => [(0, .ref 31), (1, .int x2)]) 5 rfl dX5_nextBang_4 rfl (Nat.le_of_ble_eq_true rfl) rfl (fun _ => rfl) (fun x2 => ?_)
  refine v_iload_n 1 6 rfl dX5_nextBang_5 rfl rfl ?_
  refine n_calls [.int x2] [] (fun r => .int r :: []) 9 rfl (by omega) (Nat.le_of_ble_eq_true rfl) cb_J6_bitCount_0f7a4 cs_X5_58 rfl (Nat.le_of_ble_eq_true rfl) dX5_nextBang_6 rfl (fun _ => rfl) (ej6_bitCount_0f7a4 (by omega) x2 q1.2) (fun q3 => ?_)
  refine n_istore_n (fun x4 => [(0, .ref 31), (1, .int x2), (2, .int x4)]) 10 rfl dX5_nextBang_9 rfl (Nat.le_of_ble_eq_true rfl) rfl (fun _ => rfl) (fun x4 => ?_)
  refine v_iload_n 2 11 rfl dX5_nextBang_10 rfl rfl ?_
  refine n_istore_n (fun x5 => [(0, .ref 31), (1, .int x2), (2, .int x4), (3, .int x5)]) 12 rfl dX5_nextBang_11 rfl (Nat.le_of_ble_eq_true rfl) rfl (fun _ => rfl) (fun x5 => ?_)
  refine v_bipush 14 rfl dX5_nextBang_12 bp_m9 ?_
  refine n_istore (fun x6 => [(0, .ref 31), (1, .int x2), (2, .int x4), (3, .int x5), (4, .int x6)]) 16 rfl dX5_nextBang_14 (Nat.le_of_ble_eq_true rfl) rfl (fun _ => rfl) (fun x6 => ?_)
  refine v_iconst 17 rfl dX5_nextBang_16 ic_0 ?_
  refine n_istore (fun x7 => [(0, .ref 31), (1, .int x2), (2, .int x4), (3, .int x5), (4, .int x6), (5, .int x7)]) 19 rfl dX5_nextBang_17 (Nat.le_of_ble_eq_true rfl) rfl (fun _ => rfl) (fun x7 => ?_)
  exact w5_nextBang_31_l19 hd jv_fuel x2 x4 x5 x6 x7 q3.2
-- TemperNurses.ask()I at 0
def f8_ask_0 (h : jv_H) : Option (Int32 × jv_H) := (f5_nextBang_31 h).bind fun q1 => some (q1.1, q1.2)
set_option maxRecDepth 20000 in
theorem e8_ask_0 {l : Launch} {d : Nat} {X : List jv_S} (hd : 4 ≤ d) (h : jv_H) : jv_E l yX8_ask cX8_ask 1 (some .int) d (SC ++ X) jv_ri [.ref 0] h (f8_ask_0  h) := by
  refine e_of [(0, .ref 0)] rfl pn_X8 (fun _ => Nat.le_of_ble_eq_true rfl) (fun _ => rfl) ?_
  unfold f8_ask_0
  refine v_aload_n 0 1 rfl dX8_ask_0 rfl rfl ?_
  refine v_getr 4 rfl fl_X8_58 sc_0 rfl dX8_ask_1 ?_
  refine n_callv [] [] (fun r => .int r :: []) 7 rfl (by omega) (Nat.le_of_ble_eq_true rfl) cb_X5_nextBang cv_X8_245 sc_31 cn_X5 rfl (Nat.le_of_ble_eq_true rfl) dX8_ask_4 rfl (fun _ => rfl) (e5_nextBang_31 (by omega)  h) (fun q1 => ?_)
  exact v_iret rfl dX8_ask_7
-- TemperNurses$Kinds.asTemper(I)I at 34
def f4_asTemper_34 (a1 : Int32) (h : jv_H) : Option (Int32 × jv_H) := jv_let (jv_l h 34 1 ((h.2 34 1) + (1 : Int64))) fun h1 => (f1_heat_20 a1 h1).bind fun q2 => some (q2.1, q2.2)
set_option maxRecDepth 20000 in
theorem e4_asTemper_34 {l : Launch} {d : Nat} {X : List jv_S} (hd : 2 ≤ d) (a1 : Int32) (h : jv_H) : jv_E l yX4_asTemper cX4_asTemper 2 (some .int) d (SC ++ X) jv_ri [.ref 34, .int a1] h (f4_asTemper_34 a1 h) := by
  refine e_of [(0, .ref 34), (1, .int a1)] rfl pn_X4 (fun _ => Nat.le_of_ble_eq_true rfl) (fun _ => rfl) ?_
  unfold f4_asTemper_34
  refine v_aload_n 0 1 rfl dX4_asTemper_0 rfl rfl ?_
  refine v_dupr 2 rfl dX4_asTemper_1 ?_
  refine v_getl 5 rfl fl_X4_13 sc_34 rfl dX4_asTemper_2 ?_
  refine v_lconst (v := (1 : Int64)) 6 rfl dX4_asTemper_5 rfl ?_
  refine v_ladd 7 rfl dX4_asTemper_6 ?_
  refine n_putl 10 rfl fl_X4_13 sc_34 rfl dX4_asTemper_7 (fun h1 => ?_)
  refine v_aload_n 0 11 rfl dX4_asTemper_10 rfl rfl ?_
  refine v_getr 14 rfl fl_X4_7 sc_34 rfl dX4_asTemper_11 ?_
  refine v_getr 17 rfl fl_X4_17 sc_22 rfl dX4_asTemper_14 ?_
  refine v_iload_n 1 18 rfl dX4_asTemper_17 rfl rfl ?_
  refine n_callv [.int a1] [] (fun r => .int r :: []) 21 rfl (by omega) (Nat.le_of_ble_eq_true rfl) cb_X1_heat cv_X4_23 sc_20 cn_X1 rfl (Nat.le_of_ble_eq_true rfl) dX4_asTemper_18 rfl (fun _ => rfl) (e1_heat_20 (by omega) a1 h1) (fun q2 => ?_)
  exact v_iret rfl dX4_asTemper_21
-- TemperNurses$Kinds.asRage(I)I at 34
def f4_asRage_34 (a1 : Int32) (h : jv_H) : Option (Int32 × jv_H) := jv_let (jv_l h 34 1 ((h.2 34 1) + (10 : Int64))) fun h1 => (f4_asTemper_34 a1 h1).bind fun q2 => (f2_hasTemper_1 a1 q2.2).bind fun q3 => if q3.1 = 0 then some ((q2.1 + (0 : Int32)), q3.2) else if jv_ix a1 6 then some ((q2.1 + (q3.2.1 3 (Int32.toNatClampNeg a1))), q3.2) else none
set_option maxRecDepth 20000 in
theorem e4_asRage_34 {l : Launch} {d : Nat} {X : List jv_S} (hd : 3 ≤ d) (a1 : Int32) (h : jv_H) : jv_E l yX4_asRage cX4_asRage 2 (some .int) d (SC ++ X) jv_ri [.ref 34, .int a1] h (f4_asRage_34 a1 h) := by
  refine e_of [(0, .ref 34), (1, .int a1)] rfl pn_X4 (fun _ => Nat.le_of_ble_eq_true rfl) (fun _ => rfl) ?_
  unfold f4_asRage_34
  refine v_aload_n 0 1 rfl dX4_asRage_0 rfl rfl ?_
  refine v_dupr 2 rfl dX4_asRage_1 ?_
  refine v_getl 5 rfl fl_X4_13 sc_34 rfl dX4_asRage_2 ?_
  refine v_ldc2 8 rfl mw_755 dX4_asRage_5 ?_
  refine v_ladd 9 rfl dX4_asRage_8 ?_
  refine n_putl 12 rfl fl_X4_13 sc_34 rfl dX4_asRage_9 (fun h1 => ?_)
  refine v_aload_n 0 13 rfl dX4_asRage_12 rfl rfl ?_
  refine v_iload_n 1 14 rfl dX4_asRage_13 rfl rfl ?_
  refine n_callv [.int a1] [] (fun r => .int r :: []) 17 rfl (by omega) (Nat.le_of_ble_eq_true rfl) cb_X4_asTemper cv_X4_31 sc_34 cn_X4 rfl (Nat.le_of_ble_eq_true rfl) dX4_asRage_14 rfl (fun _ => rfl) (e4_asTemper_34 (by omega) a1 h1) (fun q2 => ?_)
  refine v_aload_n 0 18 rfl dX4_asRage_17 rfl rfl ?_
  refine v_getr 21 rfl fl_X4_7 sc_34 rfl dX4_asRage_18 ?_
  refine v_getr 24 rfl fl_X4_34 sc_22 rfl dX4_asRage_21 ?_
  refine v_iload_n 1 25 rfl dX4_asRage_24 rfl rfl ?_
  refine n_callv [.int a1] [.int q2.1] (fun r => .int r :: [.int q2.1]) 28 rfl (by omega) (Nat.le_of_ble_eq_true rfl) cb_X2_hasTemper cv_X4_38 sc_1 cn_X2 rfl (Nat.le_of_ble_eq_true rfl) dX4_asRage_25 rfl (fun _ => rfl) (e2_hasTemper_1 (by omega) a1 q2.2) (fun q3 => ?_)
  refine v_if_eq 46 31 rfl rfl dX4_asRage_28 (fun _ => ?_) (fun _ => ?_)
  · refine v_iconst 47 rfl dX4_asRage_46 ic_0 ?_
    refine v_iadd 48 rfl dX4_asRage_47 ?_
    exact v_iret rfl dX4_asRage_48
  · refine v_aload_n 0 32 rfl dX4_asRage_31 rfl rfl ?_
    refine v_getr 35 rfl fl_X4_7 sc_34 rfl dX4_asRage_32 ?_
    refine v_getr 38 rfl fl_X4_34 sc_22 rfl dX4_asRage_35 ?_
    refine v_getr 41 rfl fl_X4_44 sc_1 rfl dX4_asRage_38 ?_
    refine v_iload_n 1 42 rfl dX4_asRage_41 rfl rfl ?_
    refine v_iald 43 rfl sc_3 dX4_asRage_42 (fun _ => ?_)
    refine v_goto 47 rfl dX4_asRage_43 ?_
    refine v_iadd 48 rfl dX4_asRage_47 ?_
    exact v_iret rfl dX4_asRage_48
-- TemperNurses$Kinds.asSulk(I)I at 34
def f4_asSulk_34 (a1 : Int32) (h : jv_H) : Option (Int32 × jv_H) := jv_let (jv_l h 34 1 ((h.2 34 1) + (100 : Int64))) fun h1 => (f4_asTemper_34 a1 h1).bind fun q2 => (f3_broken_22 q2.2).bind fun q3 => (fj6_bitCount_0f7a4 q3.1 q3.2).bind fun q4 => some ((q2.1 - q4.1), q4.2)
set_option maxRecDepth 20000 in
theorem e4_asSulk_34 {l : Launch} {d : Nat} {X : List jv_S} (hd : 3 ≤ d) (a1 : Int32) (h : jv_H) : jv_E l yX4_asSulk cX4_asSulk 2 (some .int) d (SC ++ X) jv_ri [.ref 34, .int a1] h (f4_asSulk_34 a1 h) := by
  refine e_of [(0, .ref 34), (1, .int a1)] rfl pn_X4 (fun _ => Nat.le_of_ble_eq_true rfl) (fun _ => rfl) ?_
  unfold f4_asSulk_34
  refine v_aload_n 0 1 rfl dX4_asSulk_0 rfl rfl ?_
  refine v_dupr 2 rfl dX4_asSulk_1 ?_
  refine v_getl 5 rfl fl_X4_13 sc_34 rfl dX4_asSulk_2 ?_
  refine v_ldc2 8 rfl mw_762 dX4_asSulk_5 ?_
  refine v_ladd 9 rfl dX4_asSulk_8 ?_
  refine n_putl 12 rfl fl_X4_13 sc_34 rfl dX4_asSulk_9 (fun h1 => ?_)
  refine v_aload_n 0 13 rfl dX4_asSulk_12 rfl rfl ?_
  refine v_iload_n 1 14 rfl dX4_asSulk_13 rfl rfl ?_
  refine n_callv [.int a1] [] (fun r => .int r :: []) 17 rfl (by omega) (Nat.le_of_ble_eq_true rfl) cb_X4_asTemper cv_X4_31 sc_34 cn_X4 rfl (Nat.le_of_ble_eq_true rfl) dX4_asSulk_14 rfl (fun _ => rfl) (e4_asTemper_34 (by omega) a1 h1) (fun q2 => ?_)
  refine v_aload_n 0 18 rfl dX4_asSulk_17 rfl rfl ?_
  refine v_getr 21 rfl fl_X4_7 sc_34 rfl dX4_asSulk_18 ?_
  refine n_callv [] [.int q2.1] (fun r => .int r :: [.int q2.1]) 24 rfl (by omega) (Nat.le_of_ble_eq_true rfl) cb_X3_broken cv_X4_50 sc_22 cn_X3 rfl (Nat.le_of_ble_eq_true rfl) dX4_asSulk_21 rfl (fun _ => rfl) (e3_broken_22 (by omega)  q2.2) (fun q3 => ?_)
  refine n_calls [.int q3.1] [.int q2.1] (fun r => .int r :: [.int q2.1]) 27 rfl (by omega) (Nat.le_of_ble_eq_true rfl) cb_J6_bitCount_0f7a4 cs_X4_54 rfl (Nat.le_of_ble_eq_true rfl) dX4_asSulk_24 rfl (fun _ => rfl) (ej6_bitCount_0f7a4 (by omega) q3.1 q3.2) (fun q4 => ?_)
  refine v_isub 28 rfl dX4_asSulk_27 ?_
  exact v_iret rfl dX4_asSulk_28
-- TemperNurses$Kinds.asStorm(I)I at 34
def f4_asStorm_34 (a1 : Int32) (h : jv_H) : Option (Int32 × jv_H) := jv_let (jv_l h 34 1 ((h.2 34 1) + (1000 : Int64))) fun h1 => (f4_asRage_34 a1 h1).bind fun q2 => some ((q2.1 * (2 : Int32)), q2.2)
set_option maxRecDepth 20000 in
theorem e4_asStorm_34 {l : Launch} {d : Nat} {X : List jv_S} (hd : 4 ≤ d) (a1 : Int32) (h : jv_H) : jv_E l yX4_asStorm cX4_asStorm 2 (some .int) d (SC ++ X) jv_ri [.ref 34, .int a1] h (f4_asStorm_34 a1 h) := by
  refine e_of [(0, .ref 34), (1, .int a1)] rfl pn_X4 (fun _ => Nat.le_of_ble_eq_true rfl) (fun _ => rfl) ?_
  unfold f4_asStorm_34
  refine v_aload_n 0 1 rfl dX4_asStorm_0 rfl rfl ?_
  refine v_dupr 2 rfl dX4_asStorm_1 ?_
  refine v_getl 5 rfl fl_X4_13 sc_34 rfl dX4_asStorm_2 ?_
  refine v_ldc2 8 rfl mw_769 dX4_asStorm_5 ?_
  refine v_ladd 9 rfl dX4_asStorm_8 ?_
  refine n_putl 12 rfl fl_X4_13 sc_34 rfl dX4_asStorm_9 (fun h1 => ?_)
  refine v_aload_n 0 13 rfl dX4_asStorm_12 rfl rfl ?_
  refine v_iload_n 1 14 rfl dX4_asStorm_13 rfl rfl ?_
  refine n_callv [.int a1] [] (fun r => .int r :: []) 17 rfl (by omega) (Nat.le_of_ble_eq_true rfl) cb_X4_asRage cv_X4_61 sc_34 cn_X4 rfl (Nat.le_of_ble_eq_true rfl) dX4_asStorm_14 rfl (fun _ => rfl) (e4_asRage_34 (by omega) a1 h1) (fun q2 => ?_)
  refine v_iconst 18 rfl dX4_asStorm_17 ic_2 ?_
  refine v_imul 19 rfl dX4_asStorm_18 ?_
  exact v_iret rfl dX4_asStorm_19
-- TemperNurses$Kinds.asGrudge(I)I at 34
def f4_asGrudge_34 (a1 : Int32) (h : jv_H) : Option (Int32 × jv_H) := jv_let (jv_l h 34 1 ((h.2 34 1) + (10000 : Int64))) fun h1 => (f4_asSulk_34 a1 h1).bind fun q2 => some ((q2.1 + a1), q2.2)
set_option maxRecDepth 20000 in
theorem e4_asGrudge_34 {l : Launch} {d : Nat} {X : List jv_S} (hd : 4 ≤ d) (a1 : Int32) (h : jv_H) : jv_E l yX4_asGrudge cX4_asGrudge 2 (some .int) d (SC ++ X) jv_ri [.ref 34, .int a1] h (f4_asGrudge_34 a1 h) := by
  refine e_of [(0, .ref 34), (1, .int a1)] rfl pn_X4 (fun _ => Nat.le_of_ble_eq_true rfl) (fun _ => rfl) ?_
  unfold f4_asGrudge_34
  refine v_aload_n 0 1 rfl dX4_asGrudge_0 rfl rfl ?_
  refine v_dupr 2 rfl dX4_asGrudge_1 ?_
  refine v_getl 5 rfl fl_X4_13 sc_34 rfl dX4_asGrudge_2 ?_
  refine v_ldc2 8 rfl mw_775 dX4_asGrudge_5 ?_
  refine v_ladd 9 rfl dX4_asGrudge_8 ?_
  refine n_putl 12 rfl fl_X4_13 sc_34 rfl dX4_asGrudge_9 (fun h1 => ?_)
  refine v_aload_n 0 13 rfl dX4_asGrudge_12 rfl rfl ?_
  refine v_iload_n 1 14 rfl dX4_asGrudge_13 rfl rfl ?_
  refine n_callv [.int a1] [] (fun r => .int r :: []) 17 rfl (by omega) (Nat.le_of_ble_eq_true rfl) cb_X4_asSulk cv_X4_66 sc_34 cn_X4 rfl (Nat.le_of_ble_eq_true rfl) dX4_asGrudge_14 rfl (fun _ => rfl) (e4_asSulk_34 (by omega) a1 h1) (fun q2 => ?_)
  refine v_iload_n 1 18 rfl dX4_asGrudge_17 rfl rfl ?_
  refine v_iadd 19 rfl dX4_asGrudge_18 ?_
  exact v_iret rfl dX4_asGrudge_19
-- TemperNurses$Kinds.asPet(I)I at 34
def f4_asPet_34 (a1 : Int32) (h : jv_H) : Option (Int32 × jv_H) := jv_let (jv_l h 34 1 ((h.2 34 1) + (100000 : Int64))) fun h1 => (f4_asTemper_34 a1 h1).bind fun q2 => (f1_year_20 q2.2).bind fun q3 => some ((q2.1 + q3.1), q3.2)
set_option maxRecDepth 20000 in
theorem e4_asPet_34 {l : Launch} {d : Nat} {X : List jv_S} (hd : 3 ≤ d) (a1 : Int32) (h : jv_H) : jv_E l yX4_asPet cX4_asPet 2 (some .int) d (SC ++ X) jv_ri [.ref 34, .int a1] h (f4_asPet_34 a1 h) := by
  refine e_of [(0, .ref 34), (1, .int a1)] rfl pn_X4 (fun _ => Nat.le_of_ble_eq_true rfl) (fun _ => rfl) ?_
  unfold f4_asPet_34
  refine v_aload_n 0 1 rfl dX4_asPet_0 rfl rfl ?_
  refine v_dupr 2 rfl dX4_asPet_1 ?_
  refine v_getl 5 rfl fl_X4_13 sc_34 rfl dX4_asPet_2 ?_
  refine v_ldc2 8 rfl mw_781 dX4_asPet_5 ?_
  refine v_ladd 9 rfl dX4_asPet_8 ?_
  refine n_putl 12 rfl fl_X4_13 sc_34 rfl dX4_asPet_9 (fun h1 => ?_)
  refine v_aload_n 0 13 rfl dX4_asPet_12 rfl rfl ?_
  refine v_iload_n 1 14 rfl dX4_asPet_13 rfl rfl ?_
  refine n_callv [.int a1] [] (fun r => .int r :: []) 17 rfl (by omega) (Nat.le_of_ble_eq_true rfl) cb_X4_asTemper cv_X4_31 sc_34 cn_X4 rfl (Nat.le_of_ble_eq_true rfl) dX4_asPet_14 rfl (fun _ => rfl) (e4_asTemper_34 (by omega) a1 h1) (fun q2 => ?_)
  refine v_aload_n 0 18 rfl dX4_asPet_17 rfl rfl ?_
  refine v_getr 21 rfl fl_X4_7 sc_34 rfl dX4_asPet_18 ?_
  refine v_getr 24 rfl fl_X4_17 sc_22 rfl dX4_asPet_21 ?_
  refine n_callv [] [.int q2.1] (fun r => .int r :: [.int q2.1]) 27 rfl (by omega) (Nat.le_of_ble_eq_true rfl) cb_X1_year cv_X4_71 sc_20 cn_X1 rfl (Nat.le_of_ble_eq_true rfl) dX4_asPet_24 rfl (fun _ => rfl) (e1_year_20 (by omega)  q2.2) (fun q3 => ?_)
  refine v_iadd 28 rfl dX4_asPet_27 ?_
  exact v_iret rfl dX4_asPet_28
-- TemperNurses.mark(II)I at 0
def f8_mark_0 (a1 : Int32) (a2 : Int32) (h : jv_H) : Option (Int32 × jv_H) := (f2_hasTemper_1 a2 h).bind fun q1 => if q1.1 = 0 then some ((-1000000 : Int32), q1.2) else if a1 = 0 then (f4_asTemper_34 a2 q1.2).bind fun q2 => some (q2.1, q2.2) else if a1 = 1 then (f4_asRage_34 a2 q1.2).bind fun q4 => some (q4.1, q4.2) else if a1 = 2 then (f4_asSulk_34 a2 q1.2).bind fun q6 => some (q6.1, q6.2) else if a1 = 3 then (f4_asStorm_34 a2 q1.2).bind fun q8 => some (q8.1, q8.2) else if a1 = 4 then (f4_asGrudge_34 a2 q1.2).bind fun q10 => some (q10.1, q10.2) else if a1 = 5 then (f4_asPet_34 a2 q1.2).bind fun q12 => some (q12.1, q12.2) else some ((-1000000 : Int32), q1.2)
set_option maxRecDepth 20000 in
theorem e8_mark_0 {l : Launch} {d : Nat} {X : List jv_S} (hd : 5 ≤ d) (a1 : Int32) (a2 : Int32) (h : jv_H) : jv_E l yX8_mark cX8_mark 3 (some .int) d (SC ++ X) jv_ri [.ref 0, .int a1, .int a2] h (f8_mark_0 a1 a2 h) := by
  refine e_of [(0, .ref 0), (1, .int a1), (2, .int a2)] rfl pn_X8 (fun _ => Nat.le_of_ble_eq_true rfl) (fun _ => rfl) ?_
  unfold f8_mark_0
  refine v_aload_n 0 1 rfl dX8_mark_0 rfl rfl ?_
  refine v_getr 4 rfl fl_X8_10 sc_0 rfl dX8_mark_1 ?_
  refine v_iload_n 2 5 rfl dX8_mark_4 rfl rfl ?_
  refine n_callv [.int a2] [] (fun r => .int r :: []) 8 rfl (by omega) (Nat.le_of_ble_eq_true rfl) cb_X2_hasTemper cv_X8_112 sc_1 cn_X2 rfl (Nat.le_of_ble_eq_true rfl) dX8_mark_5 rfl (fun _ => rfl) (e2_hasTemper_1 (by omega) a2 h) (fun q1 => ?_)
  refine v_if_ne 14 11 rfl rfl dX8_mark_8 (fun _ => ?_) (fun _ => ?_)
  · refine v_iload_n 1 15 rfl dX8_mark_14 rfl rfl ?_
    refine v_tabc (0 : Int32) (off := 37) 52 dX8_mark_15 (by decide +kernel) rfl (fun _ => ?_) (fun c3 => ?_)
    · refine v_aload_n 0 53 rfl dX8_mark_52 rfl rfl ?_
      refine v_getr 56 rfl fl_X8_65 sc_0 rfl dX8_mark_53 ?_
      refine v_iload_n 2 57 rfl dX8_mark_56 rfl rfl ?_
      refine n_callv [.int a2] [] (fun r => .int r :: []) 60 rfl (by omega) (Nat.le_of_ble_eq_true rfl) cb_X4_asTemper cv_X8_248 sc_34 cn_X4 rfl (Nat.le_of_ble_eq_true rfl) dX8_mark_57 rfl (fun _ => rfl) (e4_asTemper_34 (by omega) a2 q1.2) (fun q2 => ?_)
      exact v_iret rfl dX8_mark_60
    refine v_tabc (1 : Int32) (off := 46) 61 dX8_mark_15 (by decide +kernel) rfl (fun _ => ?_) (fun c5 => ?_)
    · refine v_aload_n 0 62 rfl dX8_mark_61 rfl rfl ?_
      refine v_getr 65 rfl fl_X8_65 sc_0 rfl dX8_mark_62 ?_
      refine v_iload_n 2 66 rfl dX8_mark_65 rfl rfl ?_
      refine n_callv [.int a2] [] (fun r => .int r :: []) 69 rfl (by omega) (Nat.le_of_ble_eq_true rfl) cb_X4_asRage cv_X8_251 sc_34 cn_X4 rfl (Nat.le_of_ble_eq_true rfl) dX8_mark_66 rfl (fun _ => rfl) (e4_asRage_34 (by omega) a2 q1.2) (fun q4 => ?_)
      exact v_iret rfl dX8_mark_69
    refine v_tabc (2 : Int32) (off := 55) 70 dX8_mark_15 (by decide +kernel) rfl (fun _ => ?_) (fun c7 => ?_)
    · refine v_aload_n 0 71 rfl dX8_mark_70 rfl rfl ?_
      refine v_getr 74 rfl fl_X8_65 sc_0 rfl dX8_mark_71 ?_
      refine v_iload_n 2 75 rfl dX8_mark_74 rfl rfl ?_
      refine n_callv [.int a2] [] (fun r => .int r :: []) 78 rfl (by omega) (Nat.le_of_ble_eq_true rfl) cb_X4_asSulk cv_X8_254 sc_34 cn_X4 rfl (Nat.le_of_ble_eq_true rfl) dX8_mark_75 rfl (fun _ => rfl) (e4_asSulk_34 (by omega) a2 q1.2) (fun q6 => ?_)
      exact v_iret rfl dX8_mark_78
    refine v_tabc (3 : Int32) (off := 64) 79 dX8_mark_15 (by decide +kernel) rfl (fun _ => ?_) (fun c9 => ?_)
    · refine v_aload_n 0 80 rfl dX8_mark_79 rfl rfl ?_
      refine v_getr 83 rfl fl_X8_65 sc_0 rfl dX8_mark_80 ?_
      refine v_iload_n 2 84 rfl dX8_mark_83 rfl rfl ?_
      refine n_callv [.int a2] [] (fun r => .int r :: []) 87 rfl (by omega) (Nat.le_of_ble_eq_true rfl) cb_X4_asStorm cv_X8_257 sc_34 cn_X4 rfl (Nat.le_of_ble_eq_true rfl) dX8_mark_84 rfl (fun _ => rfl) (e4_asStorm_34 (by omega) a2 q1.2) (fun q8 => ?_)
      exact v_iret rfl dX8_mark_87
    refine v_tabc (4 : Int32) (off := 73) 88 dX8_mark_15 (by decide +kernel) rfl (fun _ => ?_) (fun c11 => ?_)
    · refine v_aload_n 0 89 rfl dX8_mark_88 rfl rfl ?_
      refine v_getr 92 rfl fl_X8_65 sc_0 rfl dX8_mark_89 ?_
      refine v_iload_n 2 93 rfl dX8_mark_92 rfl rfl ?_
      refine n_callv [.int a2] [] (fun r => .int r :: []) 96 rfl (by omega) (Nat.le_of_ble_eq_true rfl) cb_X4_asGrudge cv_X8_260 sc_34 cn_X4 rfl (Nat.le_of_ble_eq_true rfl) dX8_mark_93 rfl (fun _ => rfl) (e4_asGrudge_34 (by omega) a2 q1.2) (fun q10 => ?_)
      exact v_iret rfl dX8_mark_96
    refine v_tabc (5 : Int32) (off := 82) 97 dX8_mark_15 (by decide +kernel) rfl (fun _ => ?_) (fun c13 => ?_)
    · refine v_aload_n 0 98 rfl dX8_mark_97 rfl rfl ?_
      refine v_getr 101 rfl fl_X8_65 sc_0 rfl dX8_mark_98 ?_
      refine v_iload_n 2 102 rfl dX8_mark_101 rfl rfl ?_
      refine n_callv [.int a2] [] (fun r => .int r :: []) 105 rfl (by omega) (Nat.le_of_ble_eq_true rfl) cb_X4_asPet cv_X8_263 sc_34 cn_X4 rfl (Nat.le_of_ble_eq_true rfl) dX8_mark_102 rfl (fun _ => rfl) (e4_asPet_34 (by omega) a2 q1.2) (fun q12 => ?_)
      exact v_iret rfl dX8_mark_105
    refine v_tabd 106 dX8_mark_15 (by have := lv_neT (a := 0) c3 rfl; have := lv_neT (a := 1) c5 rfl; have := lv_neT (a := 2) c7 rfl; have := lv_neT (a := 3) c9 rfl; have := lv_neT (a := 4) c11 rfl; have := lv_neT (a := 5) c13 rfl; omega) rfl ?_
    refine v_ldc 108 rfl mw_662 dX8_mark_106 ?_
    exact v_iret rfl dX8_mark_108
  · refine v_ldc 13 rfl mw_662 dX8_mark_11 ?_
    exact v_iret rfl dX8_mark_13
-- TemperNurses.imageOf(I)LTemperNurses$Course; at 0
def f8_imageOf_0 (a1 : Int32) (h : jv_H) : Option (Nat × jv_H) := if a1 = 0 then some (35, h) else some (37, h)
set_option maxRecDepth 20000 in
theorem e8_imageOf_0 {l : Launch} {d : Nat} {X : List jv_S} (hd : 0 ≤ d) (a1 : Int32) (h : jv_H) : jv_E l yX8_imageOf cX8_imageOf 2 (some (.object "TemperNurses$Course")) d (SC ++ X) jv_rr [.ref 0, .int a1] h (f8_imageOf_0 a1 h) := by
  refine e_of [(0, .ref 0), (1, .int a1)] rfl pn_X8 (fun _ => Nat.le_of_ble_eq_true rfl) (fun _ => rfl) ?_
  unfold f8_imageOf_0
  refine v_iload_n 1 1 rfl dX8_imageOf_0 rfl rfl ?_
  refine v_if_ne 11 4 rfl rfl dX8_imageOf_1 (fun _ => ?_) (fun _ => ?_)
  · refine v_aload_n 0 12 rfl dX8_imageOf_11 rfl rfl ?_
    refine v_getr 15 rfl fl_X8_72 sc_0 rfl dX8_imageOf_12 ?_
    exact v_aret rfl dX8_imageOf_15
  · refine v_aload_n 0 5 rfl dX8_imageOf_4 rfl rfl ?_
    refine v_getr 8 rfl fl_X8_69 sc_0 rfl dX8_imageOf_5 ?_
    refine v_goto 15 rfl dX8_imageOf_8 ?_
    exact v_aret rfl dX8_imageOf_15
-- TemperNurses$Course.take(LTemperNurses$Course;)V at 35, 20
def f1_take_35_20 (h : jv_H) : Option (Unit × jv_H) := jv_let (jv_p h 35 1 (h.1 20 1)) fun h1 => if jv_cp (0 : Int32) (0 : Int32) (209 : Int32) 209 209 then jv_let (jv_y h1 21 36 (0 : Int32) (0 : Int32) (209 : Int32)) fun h2 => some ((), h2) else none
set_option maxRecDepth 20000 in
theorem e1_take_35_20 {l : Launch} {d : Nat} {X : List jv_S} (hd : 1 ≤ d) (h : jv_H) : jv_E l yX1_take cX1_take 2 none d (SC ++ X) jv_rv [.ref 35, .ref 20] h (f1_take_35_20  h) := by
  refine e_of [(0, .ref 35), (1, .ref 20)] rfl pn_X1 (fun _ => Nat.le_of_ble_eq_true rfl) (fun _ => rfl) ?_
  unfold f1_take_35_20
  refine v_aload_n 0 1 rfl dX1_take_0 rfl rfl ?_
  refine v_aload_n 1 2 rfl dX1_take_1 rfl rfl ?_
  refine v_geti 5 rfl fl_X1_15 sc_20 rfl dX1_take_2 ?_
  refine n_puti 8 rfl fl_X1_15 sc_35 rfl dX1_take_5 (fun h1 => ?_)
  refine v_aload_n 1 9 rfl dX1_take_8 rfl rfl ?_
  refine v_getr 12 rfl fl_X1_11 sc_20 rfl dX1_take_9 ?_
  refine v_iconst 13 rfl dX1_take_12 ic_0 ?_
  refine v_aload_n 0 14 rfl dX1_take_13 rfl rfl ?_
  refine v_getr 17 rfl fl_X1_11 sc_35 rfl dX1_take_14 ?_
  refine v_iconst 18 rfl dX1_take_17 ic_0 ?_
  refine v_aload_n 0 19 rfl dX1_take_18 rfl rfl ?_
  refine v_getr 22 rfl fl_X1_11 sc_35 rfl dX1_take_19 ?_
  refine v_alen (v := (209 : Int32)) 23 rfl sc_36 rfl dX1_take_22 ?_
  refine n_copy 26 rfl (by omega) (Nat.le_of_ble_eq_true rfl) sc_21 sc_36 mw_552 mw_476 mw_475 mw_64 dX1_take_23 (fun h2 => ?_)
  exact v_vret rfl dX1_take_26
-- TemperNurses$Course.take(LTemperNurses$Course;)V at 37, 20
def f1_take_37_20 (h : jv_H) : Option (Unit × jv_H) := jv_let (jv_p h 37 1 (h.1 20 1)) fun h1 => if jv_cp (0 : Int32) (0 : Int32) (209 : Int32) 209 209 then jv_let (jv_y h1 21 38 (0 : Int32) (0 : Int32) (209 : Int32)) fun h2 => some ((), h2) else none
set_option maxRecDepth 20000 in
theorem e1_take_37_20 {l : Launch} {d : Nat} {X : List jv_S} (hd : 1 ≤ d) (h : jv_H) : jv_E l yX1_take cX1_take 2 none d (SC ++ X) jv_rv [.ref 37, .ref 20] h (f1_take_37_20  h) := by
  refine e_of [(0, .ref 37), (1, .ref 20)] rfl pn_X1 (fun _ => Nat.le_of_ble_eq_true rfl) (fun _ => rfl) ?_
  unfold f1_take_37_20
  refine v_aload_n 0 1 rfl dX1_take_0 rfl rfl ?_
  refine v_aload_n 1 2 rfl dX1_take_1 rfl rfl ?_
  refine v_geti 5 rfl fl_X1_15 sc_20 rfl dX1_take_2 ?_
  refine n_puti 8 rfl fl_X1_15 sc_37 rfl dX1_take_5 (fun h1 => ?_)
  refine v_aload_n 1 9 rfl dX1_take_8 rfl rfl ?_
  refine v_getr 12 rfl fl_X1_11 sc_20 rfl dX1_take_9 ?_
  refine v_iconst 13 rfl dX1_take_12 ic_0 ?_
  refine v_aload_n 0 14 rfl dX1_take_13 rfl rfl ?_
  refine v_getr 17 rfl fl_X1_11 sc_37 rfl dX1_take_14 ?_
  refine v_iconst 18 rfl dX1_take_17 ic_0 ?_
  refine v_aload_n 0 19 rfl dX1_take_18 rfl rfl ?_
  refine v_getr 22 rfl fl_X1_11 sc_37 rfl dX1_take_19 ?_
  refine v_alen (v := (209 : Int32)) 23 rfl sc_38 rfl dX1_take_22 ?_
  refine n_copy 26 rfl (by omega) (Nat.le_of_ble_eq_true rfl) sc_21 sc_38 mw_552 mw_476 mw_475 mw_64 dX1_take_23 (fun h2 => ?_)
  exact v_vret rfl dX1_take_26
-- TemperNurses.keep(I)I at 0
def f8_keep_0 (a1 : Int32) (h : jv_H) : Option (Int32 × jv_H) := (f8_isWithin a1 (0 : Int32) (1 : Int32) h).bind fun q1 => if q1.1 = 0 then some ((-1 : Int32), q1.2) else (f8_imageOf_0 a1 q1.2).bind fun q2 => if q2.1 = 35 then (f1_take_35_20 q2.2).bind fun q3 => (f8_bit a1 q3.2).bind fun q4 => jv_let (jv_p q4.2 0 11 ((q3.2.1 0 11) ||| q4.1)) fun h5 => (f1_year_20 h5).bind fun q6 => some (q6.1, q6.2) else if q2.1 = 37 then (f1_take_37_20 q2.2).bind fun q7 => (f8_bit a1 q7.2).bind fun q8 => jv_let (jv_p q8.2 0 11 ((q7.2.1 0 11) ||| q8.1)) fun h9 => (f1_year_20 h9).bind fun q10 => some (q10.1, q10.2) else none
set_option maxRecDepth 20000 in
theorem e8_keep_0 {l : Launch} {d : Nat} {X : List jv_S} (hd : 2 ≤ d) (a1 : Int32) (h : jv_H) : jv_E l yX8_keep cX8_keep 2 (some .int) d (SC ++ X) jv_ri [.ref 0, .int a1] h (f8_keep_0 a1 h) := by
  refine e_of [(0, .ref 0), (1, .int a1)] rfl pn_X8 (fun _ => Nat.le_of_ble_eq_true rfl) (fun _ => rfl) ?_
  unfold f8_keep_0
  refine v_iload_n 1 1 rfl dX8_keep_0 rfl rfl ?_
  refine v_iconst 2 rfl dX8_keep_1 ic_0 ?_
  refine v_iconst 3 rfl dX8_keep_2 ic_1 ?_
  refine n_calls [.int a1, .int (0 : Int32), .int (1 : Int32)] [] (fun r => .int r :: []) 6 rfl (by omega) (Nat.le_of_ble_eq_true rfl) cb_X8_isWithin cs_X8_83 rfl (Nat.le_of_ble_eq_true rfl) dX8_keep_3 rfl (fun _ => rfl) (e8_isWithin (by omega) a1 (0 : Int32) (1 : Int32) h) (fun q1 => ?_)
  refine v_if_ne 11 9 rfl rfl dX8_keep_6 (fun _ => ?_) (fun _ => ?_)
  · refine v_aload_n 0 12 rfl dX8_keep_11 rfl rfl ?_
    refine v_iload_n 1 13 rfl dX8_keep_12 rfl rfl ?_
    refine n_callv [.int a1] [] (fun r => .ref r :: []) 16 rfl (by omega) (Nat.le_of_ble_eq_true rfl) cb_X8_imageOf cv_X8_266 sc_0 cn_X8 rfl (Nat.le_of_ble_eq_true rfl) dX8_keep_13 rfl (fun _ => rfl) (e8_imageOf_0 (by omega) a1 q1.2) (fun q2 => ?_)
    refine n_ref (fun r => .ref r :: []) 35 ?_ ?_
    · refine v_aload_n 0 17 rfl dX8_keep_16 rfl rfl ?_
      refine v_getr 20 rfl fl_X8_26 sc_0 rfl dX8_keep_17 ?_
      refine n_callv [.ref 20] [] (fun _ => []) 23 rfl (by omega) (Nat.le_of_ble_eq_true rfl) cb_X1_take cv_X8_270 sc_35 cn_X1 rfl (Nat.le_of_ble_eq_true rfl) dX8_keep_20 rfl (fun _ => rfl) (e1_take_35_20 (by omega)  q2.2) (fun q3 => ?_)
      refine v_aload_n 0 24 rfl dX8_keep_23 rfl rfl ?_
      refine v_dupr 25 rfl dX8_keep_24 ?_
      refine v_geti 28 rfl fl_X8_109 sc_0 rfl dX8_keep_25 ?_
      refine v_iload_n 1 29 rfl dX8_keep_28 rfl rfl ?_
      refine n_calls [.int a1] [.int (q3.2.1 0 11), .ref 0] (fun r => .int r :: [.int (q3.2.1 0 11), .ref 0]) 32 rfl (by omega) (Nat.le_of_ble_eq_true rfl) cb_X8_bit cs_X8_273 rfl (Nat.le_of_ble_eq_true rfl) dX8_keep_29 rfl (fun _ => rfl) (e8_bit (by omega) a1 q3.2) (fun q4 => ?_)
      refine v_ior 33 rfl dX8_keep_32 ?_
      refine n_puti 36 rfl fl_X8_109 sc_0 rfl dX8_keep_33 (fun h5 => ?_)
      refine v_aload_n 0 37 rfl dX8_keep_36 rfl rfl ?_
      refine v_getr 40 rfl fl_X8_26 sc_0 rfl dX8_keep_37 ?_
      refine n_callv [] [] (fun r => .int r :: []) 43 rfl (by omega) (Nat.le_of_ble_eq_true rfl) cb_X1_year cv_X8_183 sc_20 cn_X1 rfl (Nat.le_of_ble_eq_true rfl) dX8_keep_40 rfl (fun _ => rfl) (e1_year_20 (by omega)  h5) (fun q6 => ?_)
      exact v_iret rfl dX8_keep_43
    refine n_ref (fun r => .ref r :: []) 37 ?_ ?_
    · refine v_aload_n 0 17 rfl dX8_keep_16 rfl rfl ?_
      refine v_getr 20 rfl fl_X8_26 sc_0 rfl dX8_keep_17 ?_
      refine n_callv [.ref 20] [] (fun _ => []) 23 rfl (by omega) (Nat.le_of_ble_eq_true rfl) cb_X1_take cv_X8_270 sc_37 cn_X1 rfl (Nat.le_of_ble_eq_true rfl) dX8_keep_20 rfl (fun _ => rfl) (e1_take_37_20 (by omega)  q2.2) (fun q7 => ?_)
      refine v_aload_n 0 24 rfl dX8_keep_23 rfl rfl ?_
      refine v_dupr 25 rfl dX8_keep_24 ?_
      refine v_geti 28 rfl fl_X8_109 sc_0 rfl dX8_keep_25 ?_
      refine v_iload_n 1 29 rfl dX8_keep_28 rfl rfl ?_
      refine n_calls [.int a1] [.int (q7.2.1 0 11), .ref 0] (fun r => .int r :: [.int (q7.2.1 0 11), .ref 0]) 32 rfl (by omega) (Nat.le_of_ble_eq_true rfl) cb_X8_bit cs_X8_273 rfl (Nat.le_of_ble_eq_true rfl) dX8_keep_29 rfl (fun _ => rfl) (e8_bit (by omega) a1 q7.2) (fun q8 => ?_)
      refine v_ior 33 rfl dX8_keep_32 ?_
      refine n_puti 36 rfl fl_X8_109 sc_0 rfl dX8_keep_33 (fun h9 => ?_)
      refine v_aload_n 0 37 rfl dX8_keep_36 rfl rfl ?_
      refine v_getr 40 rfl fl_X8_26 sc_0 rfl dX8_keep_37 ?_
      refine n_callv [] [] (fun r => .int r :: []) 43 rfl (by omega) (Nat.le_of_ble_eq_true rfl) cb_X1_year cv_X8_183 sc_20 cn_X1 rfl (Nat.le_of_ble_eq_true rfl) dX8_keep_40 rfl (fun _ => rfl) (e1_year_20 (by omega)  h9) (fun q10 => ?_)
      exact v_iret rfl dX8_keep_43
    exact v_none
  · refine v_iconst 10 rfl dX8_keep_9 ic_m1 ?_
    exact v_iret rfl dX8_keep_10
