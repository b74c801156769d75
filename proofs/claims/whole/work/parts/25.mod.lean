-- TemperNursesModel.whose()I at 40
def g9_whose_40_b74 (k4 : Int32 → Int32 → jv_H → Option (Int32 × jv_H)) (k17 : Int32 → Int32 → Int32 → Int32 → jv_H → Option (Int32 × jv_H)) (a1 : Int32) (a2 : Int32) (a4 : Int32) (s0 : Int32) (h : jv_H) : Option (Int32 × jv_H) := jv_let s0 fun x1 => jv_let (a4 + (1 : Int32)) fun x2 => k17 a1 a2 x1 x2 h
set_option maxRecDepth 20000 in
theorem b9_whose_40_b74 {l : Launch} {d : Nat} (hd : 1 ≤ d) (k4 : Int32 → Int32 → jv_H → Option (Int32 × jv_H)) (hk4 : ∀ (a1 a2 : Int32) (h : jv_H), jv_V l RX9 cX9_whose 5 (some .int) d (SC ++ SM) jv_ri 4 [(0, .ref 40), (1, .int a1), (2, .int a2)] [] h (k4 a1 a2 h)) (k17 : Int32 → Int32 → Int32 → Int32 → jv_H → Option (Int32 × jv_H)) (hk17 : ∀ (a1 a2 a3 a4 : Int32) (h : jv_H), jv_V l RX9 cX9_whose 5 (some .int) d (SC ++ SM) jv_ri 17 [(0, .ref 40), (1, .int a1), (2, .int a2), (3, .int a3), (4, .int a4)] [] h (k17 a1 a2 a3 a4 h)) : ∀ (a1 : Int32) (a2 : Int32) (a4 : Int32) (s0 : Int32) (h : jv_H), jv_V l RX9 cX9_whose 5 (some .int) d (SC ++ SM) jv_ri 74 [(0, .ref 40), (1, .int a1), (2, .int a2), (4, .int a4)] [.int s0] h (g9_whose_40_b74 k4 k17 a1 a2 a4 s0 h) := by
  intro a1 a2 a4 s0 h
  unfold g9_whose_40_b74
  refine n_istore_n (fun x1 => [(0, .ref 40), (1, .int a1), (2, .int a2), (4, .int a4), (3, .int x1)]) 75 rfl dX9_whose_74 rfl (Nat.le_of_ble_eq_true rfl) rfl (fun _ => rfl) (fun x1 => ?_)
  refine n_iinc (fun x2 => [(0, .ref 40), (1, .int a1), (2, .int a2), (4, .int x2), (3, .int x1)]) 3 78 rfl dX9_whose_75 rfl ic_1 (Nat.le_of_ble_eq_true rfl) rfl (fun _ => rfl) (fun x2 => ?_)
  refine v_goto 17 rfl dX9_whose_78 ?_
  refine v_sub [0, 1, 2, 4, 3] rfl ?_
  exact hk17 a1 a2 x1 x2 h
def g9_whose_40_b73 (k4 : Int32 → Int32 → jv_H → Option (Int32 × jv_H)) (k17 : Int32 → Int32 → Int32 → Int32 → jv_H → Option (Int32 × jv_H)) (a1 : Int32) (a2 : Int32) (a4 : Int32) (h : jv_H) : Option (Int32 × jv_H) := g9_whose_40_b74 k4 k17 a1 a2 a4 (0 : Int32) h
set_option maxRecDepth 20000 in
theorem b9_whose_40_b73 {l : Launch} {d : Nat} (hd : 1 ≤ d) (k4 : Int32 → Int32 → jv_H → Option (Int32 × jv_H)) (hk4 : ∀ (a1 a2 : Int32) (h : jv_H), jv_V l RX9 cX9_whose 5 (some .int) d (SC ++ SM) jv_ri 4 [(0, .ref 40), (1, .int a1), (2, .int a2)] [] h (k4 a1 a2 h)) (k17 : Int32 → Int32 → Int32 → Int32 → jv_H → Option (Int32 × jv_H)) (hk17 : ∀ (a1 a2 a3 a4 : Int32) (h : jv_H), jv_V l RX9 cX9_whose 5 (some .int) d (SC ++ SM) jv_ri 17 [(0, .ref 40), (1, .int a1), (2, .int a2), (3, .int a3), (4, .int a4)] [] h (k17 a1 a2 a3 a4 h)) : ∀ (a1 : Int32) (a2 : Int32) (a4 : Int32) (h : jv_H), jv_V l RX9 cX9_whose 5 (some .int) d (SC ++ SM) jv_ri 73 [(0, .ref 40), (1, .int a1), (2, .int a2), (4, .int a4)] [] h (g9_whose_40_b73 k4 k17 a1 a2 a4 h) := by
  intro a1 a2 a4 h
  unfold g9_whose_40_b73
  refine v_iconst 74 rfl dX9_whose_73 ic_0 ?_
  exact b9_whose_40_b74 hd k4 hk4 k17 hk17 a1 a2 a4 (0 : Int32) h
def g9_whose_40_b66 (k4 : Int32 → Int32 → jv_H → Option (Int32 × jv_H)) (k17 : Int32 → Int32 → Int32 → Int32 → jv_H → Option (Int32 × jv_H)) (a1 : Int32) (a2 : Int32) (a4 : Int32) (s0 : Int32) (s1 : Int32) (h : jv_H) : Option (Int32 × jv_H) := if s0 = s1 then g9_whose_40_b74 k4 k17 a1 a2 a4 (1 : Int32) h else g9_whose_40_b73 k4 k17 a1 a2 a4 h
set_option maxRecDepth 20000 in
theorem b9_whose_40_b66 {l : Launch} {d : Nat} (hd : 1 ≤ d) (k4 : Int32 → Int32 → jv_H → Option (Int32 × jv_H)) (hk4 : ∀ (a1 a2 : Int32) (h : jv_H), jv_V l RX9 cX9_whose 5 (some .int) d (SC ++ SM) jv_ri 4 [(0, .ref 40), (1, .int a1), (2, .int a2)] [] h (k4 a1 a2 h)) (k17 : Int32 → Int32 → Int32 → Int32 → jv_H → Option (Int32 × jv_H)) (hk17 : ∀ (a1 a2 a3 a4 : Int32) (h : jv_H), jv_V l RX9 cX9_whose 5 (some .int) d (SC ++ SM) jv_ri 17 [(0, .ref 40), (1, .int a1), (2, .int a2), (3, .int a3), (4, .int a4)] [] h (k17 a1 a2 a3 a4 h)) : ∀ (a1 : Int32) (a2 : Int32) (a4 : Int32) (s0 : Int32) (s1 : Int32) (h : jv_H), jv_V l RX9 cX9_whose 5 (some .int) d (SC ++ SM) jv_ri 66 [(0, .ref 40), (1, .int a1), (2, .int a2), (4, .int a4)] [.int s1, .int s0] h (g9_whose_40_b66 k4 k17 a1 a2 a4 s0 s1 h) := by
  intro a1 a2 a4 s0 s1 h
  unfold g9_whose_40_b66
  refine v_icmp_ne 73 69 rfl rfl dX9_whose_66 (fun _ => ?_) (fun _ => ?_)
  · exact b9_whose_40_b73 hd k4 hk4 k17 hk17 a1 a2 a4 h
  · refine v_iconst 70 rfl dX9_whose_69 ic_1 ?_
    refine v_goto 74 rfl dX9_whose_70 ?_
    exact b9_whose_40_b74 hd k4 hk4 k17 hk17 a1 a2 a4 (1 : Int32) h
def g9_whose_40_b50 (k4 : Int32 → Int32 → jv_H → Option (Int32 × jv_H)) (k17 : Int32 → Int32 → Int32 → Int32 → jv_H → Option (Int32 × jv_H)) (a1 : Int32) (a2 : Int32) (a4 : Int32) (s0 : Int32) (h : jv_H) : Option (Int32 × jv_H) := if jv_ix a4 4 then if (h.1 51 (Int32.toNatClampNeg a4)) = (1 : Int32) then g9_whose_40_b66 k4 k17 a1 a2 a4 s0 (1 : Int32) h else g9_whose_40_b66 k4 k17 a1 a2 a4 s0 (0 : Int32) h else none
set_option maxRecDepth 20000 in
theorem b9_whose_40_b50 {l : Launch} {d : Nat} (hd : 1 ≤ d) (k4 : Int32 → Int32 → jv_H → Option (Int32 × jv_H)) (hk4 : ∀ (a1 a2 : Int32) (h : jv_H), jv_V l RX9 cX9_whose 5 (some .int) d (SC ++ SM) jv_ri 4 [(0, .ref 40), (1, .int a1), (2, .int a2)] [] h (k4 a1 a2 h)) (k17 : Int32 → Int32 → Int32 → Int32 → jv_H → Option (Int32 × jv_H)) (hk17 : ∀ (a1 a2 a3 a4 : Int32) (h : jv_H), jv_V l RX9 cX9_whose 5 (some .int) d (SC ++ SM) jv_ri 17 [(0, .ref 40), (1, .int a1), (2, .int a2), (3, .int a3), (4, .int a4)] [] h (k17 a1 a2 a3 a4 h)) : ∀ (a1 : Int32) (a2 : Int32) (a4 : Int32) (s0 : Int32) (h : jv_H), jv_V l RX9 cX9_whose 5 (some .int) d (SC ++ SM) jv_ri 50 [(0, .ref 40), (1, .int a1), (2, .int a2), (4, .int a4)] [.int s0] h (g9_whose_40_b50 k4 k17 a1 a2 a4 s0 h) := by
  intro a1 a2 a4 s0 h
  unfold g9_whose_40_b50
  refine v_aload_n 0 51 rfl dX9_whose_50 rfl rfl ?_
  refine v_getr 54 rfl fl_X9_41 sc_40 rfl dX9_whose_51 ?_
  refine v_iload 3 56 rfl dX9_whose_54 rfl ?_
  refine v_iald 57 rfl sc_51 dX9_whose_56 (fun _ => ?_)
  refine v_iconst 58 rfl dX9_whose_57 ic_1 ?_
  refine v_icmp_ne 65 61 rfl rfl dX9_whose_58 (fun _ => ?_) (fun _ => ?_)
  · refine v_iconst 66 rfl dX9_whose_65 ic_0 ?_
    exact b9_whose_40_b66 hd k4 hk4 k17 hk17 a1 a2 a4 s0 (0 : Int32) h
  · refine v_iconst 62 rfl dX9_whose_61 ic_1 ?_
    refine v_goto 66 rfl dX9_whose_62 ?_
    exact b9_whose_40_b66 hd k4 hk4 k17 hk17 a1 a2 a4 s0 (1 : Int32) h
def g9_whose_40_b93 (k4 : Int32 → Int32 → jv_H → Option (Int32 × jv_H)) (a2 : Int32) (s0 : Int32) (s1 : Int32) (h : jv_H) : Option (Int32 × jv_H) := jv_let (s0 ||| s1) fun x1 => jv_let (a2 + (1 : Int32)) fun x2 => k4 x1 x2 h
set_option maxRecDepth 20000 in
theorem b9_whose_40_b93 {l : Launch} {d : Nat} (hd : 1 ≤ d) (k4 : Int32 → Int32 → jv_H → Option (Int32 × jv_H)) (hk4 : ∀ (a1 a2 : Int32) (h : jv_H), jv_V l RX9 cX9_whose 5 (some .int) d (SC ++ SM) jv_ri 4 [(0, .ref 40), (1, .int a1), (2, .int a2)] [] h (k4 a1 a2 h)) : ∀ (a2 : Int32) (s0 : Int32) (s1 : Int32) (h : jv_H), jv_V l RX9 cX9_whose 5 (some .int) d (SC ++ SM) jv_ri 93 [(0, .ref 40), (2, .int a2)] [.int s1, .int s0] h (g9_whose_40_b93 k4 a2 s0 s1 h) := by
  intro a2 s0 s1 h
  unfold g9_whose_40_b93
  refine v_ior 94 rfl dX9_whose_93 ?_
  refine n_istore_n (fun x1 => [(0, .ref 40), (2, .int a2), (1, .int x1)]) 95 rfl dX9_whose_94 rfl (Nat.le_of_ble_eq_true rfl) rfl (fun _ => rfl) (fun x1 => ?_)
  refine n_iinc (fun x2 => [(0, .ref 40), (2, .int x2), (1, .int x1)]) 1 98 rfl dX9_whose_95 rfl ic_1 (Nat.le_of_ble_eq_true rfl) rfl (fun _ => rfl) (fun x2 => ?_)
  refine v_goto 4 rfl dX9_whose_98 ?_
  refine v_sub [0, 2, 1] rfl ?_
  exact hk4 x1 x2 h
def g9_whose_40_b17 (k4 : Int32 → Int32 → jv_H → Option (Int32 × jv_H)) (k17 : Int32 → Int32 → Int32 → Int32 → jv_H → Option (Int32 × jv_H)) (a1 : Int32) (a2 : Int32) (a3 : Int32) (a4 : Int32) (h : jv_H) : Option (Int32 × jv_H) := if (h.1 40 13) ≤ a4 then if a3 = 0 then g9_whose_40_b93 k4 a2 a1 (0 : Int32) h else g9_whose_40_b93 k4 a2 a1 ((1 : Int32) <<< (a2 &&& 31)) h else if a3 = 0 then g9_whose_40_b73 k4 k17 a1 a2 a4 h else (f9_heat_40 a2 h).bind fun q1 => if jv_ix a4 4 then if q1.1 < (q1.2.1 50 (Int32.toNatClampNeg a4)) then g9_whose_40_b50 k4 k17 a1 a2 a4 (0 : Int32) q1.2 else g9_whose_40_b50 k4 k17 a1 a2 a4 (1 : Int32) q1.2 else none
set_option maxRecDepth 20000 in
theorem b9_whose_40_b17 {l : Launch} {d : Nat} (hd : 1 ≤ d) (k4 : Int32 → Int32 → jv_H → Option (Int32 × jv_H)) (hk4 : ∀ (a1 a2 : Int32) (h : jv_H), jv_V l RX9 cX9_whose 5 (some .int) d (SC ++ SM) jv_ri 4 [(0, .ref 40), (1, .int a1), (2, .int a2)] [] h (k4 a1 a2 h)) (k17 : Int32 → Int32 → Int32 → Int32 → jv_H → Option (Int32 × jv_H)) (hk17 : ∀ (a1 a2 a3 a4 : Int32) (h : jv_H), jv_V l RX9 cX9_whose 5 (some .int) d (SC ++ SM) jv_ri 17 [(0, .ref 40), (1, .int a1), (2, .int a2), (3, .int a3), (4, .int a4)] [] h (k17 a1 a2 a3 a4 h)) : ∀ (a1 : Int32) (a2 : Int32) (a3 : Int32) (a4 : Int32) (h : jv_H), jv_V l RX9 cX9_whose 5 (some .int) d (SC ++ SM) jv_ri 17 [(0, .ref 40), (1, .int a1), (2, .int a2), (3, .int a3), (4, .int a4)] [] h (g9_whose_40_b17 k4 k17 a1 a2 a3 a4 h) := by
  intro a1 a2 a3 a4 h
  unfold g9_whose_40_b17
  refine v_iload 4 19 rfl dX9_whose_17 rfl ?_
  refine v_aload_n 0 20 rfl dX9_whose_19 rfl rfl ?_
  refine v_geti 23 rfl fl_X9_130 sc_40 rfl dX9_whose_20 ?_
  refine v_icmp_ge 81 26 rfl rfl dX9_whose_23 (fun _ => ?_) (fun _ => ?_)
  · refine v_iload_n 1 82 rfl dX9_whose_81 rfl rfl ?_
    refine v_iload_n 3 83 rfl dX9_whose_82 rfl rfl ?_
    refine v_if_eq 92 86 rfl rfl dX9_whose_83 (fun _ => ?_) (fun _ => ?_)
    · refine v_iconst 93 rfl dX9_whose_92 ic_0 ?_
      refine v_sub [0, 2] rfl ?_
      exact b9_whose_40_b93 hd k4 hk4 a2 a1 (0 : Int32) h
    · refine v_iconst 87 rfl dX9_whose_86 ic_1 ?_
      refine v_iload_n 2 88 rfl dX9_whose_87 rfl rfl ?_
      refine v_ishl 89 rfl dX9_whose_88 ?_
      refine v_goto 93 rfl dX9_whose_89 ?_
      refine v_sub [0, 2] rfl ?_
      exact b9_whose_40_b93 hd k4 hk4 a2 a1 ((1 : Int32) <<< (a2 &&& 31)) h
  · refine v_iload_n 3 27 rfl dX9_whose_26 rfl rfl ?_
    refine v_if_eq 73 30 rfl rfl dX9_whose_27 (fun _ => ?_) (fun _ => ?_)
    · refine v_sub [0, 1, 2, 4] rfl ?_
      exact b9_whose_40_b73 hd k4 hk4 k17 hk17 a1 a2 a4 h
    · refine v_aload_n 0 31 rfl dX9_whose_30 rfl rfl ?_
      refine v_iload_n 2 32 rfl dX9_whose_31 rfl rfl ?_
      refine n_callv [.int a2] [] (fun r => .int r :: []) 35 rfl (by omega) (Nat.le_of_ble_eq_true rfl) cb_X9_heat cv_X9_143 sc_40 cn_X9 rfl (Nat.le_of_ble_eq_true rfl) dX9_whose_32 rfl (fun _ => rfl) (e9_heat_40 (by omega) a2 h) (fun q1 => ?_)
      refine v_aload_n 0 36 rfl dX9_whose_35 rfl rfl ?_
      refine v_getr 39 rfl fl_X9_38 sc_40 rfl dX9_whose_36 ?_
      refine v_iload 4 41 rfl dX9_whose_39 rfl ?_
      refine v_iald 42 rfl sc_50 dX9_whose_41 (fun _ => ?_)
      refine v_icmp_lt 49 45 rfl rfl dX9_whose_42 (fun _ => ?_) (fun _ => ?_)
      · refine v_iconst 50 rfl dX9_whose_49 ic_0 ?_
        refine v_sub [0, 1, 2, 4] rfl ?_
        exact b9_whose_40_b50 hd k4 hk4 k17 hk17 a1 a2 a4 (0 : Int32) q1.2
      · refine v_iconst 46 rfl dX9_whose_45 ic_1 ?_
        refine v_goto 50 rfl dX9_whose_46 ?_
        refine v_sub [0, 1, 2, 4] rfl ?_
        exact b9_whose_40_b50 hd k4 hk4 k17 hk17 a1 a2 a4 (1 : Int32) q1.2
def f9_whose_40_l17 (k4 : Int32 → Int32 → jv_H → Option (Int32 × jv_H)) : Nat → Int32 → Int32 → Int32 → Int32 → jv_H → Option (Int32 × jv_H)
  | 0 => fun _ _ _ _ _ => none
  | n + 1 => fun a1 a2 a3 a4 h => g9_whose_40_b17 k4 (f9_whose_40_l17 k4 n) a1 a2 a3 a4 h
theorem w9_whose_40_l17 {l : Launch} {d : Nat} (hd : 1 ≤ d) (k4 : Int32 → Int32 → jv_H → Option (Int32 × jv_H)) (hk4 : ∀ (a1 a2 : Int32) (h : jv_H), jv_V l RX9 cX9_whose 5 (some .int) d (SC ++ SM) jv_ri 4 [(0, .ref 40), (1, .int a1), (2, .int a2)] [] h (k4 a1 a2 h)) : ∀ (n : Nat) (a1 : Int32) (a2 : Int32) (a3 : Int32) (a4 : Int32) (h : jv_H), jv_V l RX9 cX9_whose 5 (some .int) d (SC ++ SM) jv_ri 17 [(0, .ref 40), (1, .int a1), (2, .int a2), (3, .int a3), (4, .int a4)] [] h (f9_whose_40_l17 k4 n a1 a2 a3 a4 h) := by
  intro n
  induction n with
  | zero => intro a1 a2 a3 a4 h; exact v_none
  | succ n ih => intro a1 a2 a3 a4 h; exact b9_whose_40_b17 hd k4 hk4 (f9_whose_40_l17 k4 n) ih a1 a2 a3 a4 h
def g9_whose_40_b4 (k4 : Int32 → Int32 → jv_H → Option (Int32 × jv_H)) (a1 : Int32) (a2 : Int32) (h : jv_H) : Option (Int32 × jv_H) := if (h.1 40 0) ≤ a2 then some (a1, h) else jv_let (1 : Int32) fun x1 => jv_let (0 : Int32) fun x2 => f9_whose_40_l17 k4 jv_fuel a1 a2 x1 x2 h
set_option maxRecDepth 20000 in
theorem b9_whose_40_b4 {l : Launch} {d : Nat} (hd : 1 ≤ d) (k4 : Int32 → Int32 → jv_H → Option (Int32 × jv_H)) (hk4 : ∀ (a1 a2 : Int32) (h : jv_H), jv_V l RX9 cX9_whose 5 (some .int) d (SC ++ SM) jv_ri 4 [(0, .ref 40), (1, .int a1), (2, .int a2)] [] h (k4 a1 a2 h)) : ∀ (a1 : Int32) (a2 : Int32) (h : jv_H), jv_V l RX9 cX9_whose 5 (some .int) d (SC ++ SM) jv_ri 4 [(0, .ref 40), (1, .int a1), (2, .int a2)] [] h (g9_whose_40_b4 k4 a1 a2 h) := by
  intro a1 a2 h
  unfold g9_whose_40_b4
  refine v_iload_n 2 5 rfl dX9_whose_4 rfl rfl ?_
  refine v_aload_n 0 6 rfl dX9_whose_5 rfl rfl ?_
  refine v_geti 9 rfl fl_X9_71 sc_40 rfl dX9_whose_6 ?_
  refine v_icmp_ge 101 12 rfl rfl dX9_whose_9 (fun _ => ?_) (fun _ => ?_)
  · refine v_iload_n 1 102 rfl dX9_whose_101 rfl rfl ?_
    exact v_iret rfl dX9_whose_102
  · refine v_iconst 13 rfl dX9_whose_12 ic_1 ?_
    refine n_istore_n (fun x1 => [(0, .ref 40), (1, .int a1), (2, .int a2), (3, .int x1)]) 14 rfl dX9_whose_13 rfl (Nat.le_of_ble_eq_true rfl) rfl (fun _ => rfl) (fun x1 => ?_)
    refine v_iconst 15 rfl dX9_whose_14 ic_0 ?_
    refine n_istore (fun x2 => [(0, .ref 40), (1, .int a1), (2, .int a2), (3, .int x1), (4, .int x2)]) 17 rfl dX9_whose_15 (Nat.le_of_ble_eq_true rfl) rfl (fun _ => rfl) (fun x2 => ?_)
    exact w9_whose_40_l17 hd k4 hk4 jv_fuel a1 a2 x1 x2 h
def f9_whose_40_l4 : Nat → Int32 → Int32 → jv_H → Option (Int32 × jv_H)
  | 0 => fun _ _ _ => none
  | n + 1 => fun a1 a2 h => g9_whose_40_b4 (f9_whose_40_l4 n) a1 a2 h
theorem w9_whose_40_l4 {l : Launch} {d : Nat} (hd : 1 ≤ d) : ∀ (n : Nat) (a1 : Int32) (a2 : Int32) (h : jv_H), jv_V l RX9 cX9_whose 5 (some .int) d (SC ++ SM) jv_ri 4 [(0, .ref 40), (1, .int a1), (2, .int a2)] [] h (f9_whose_40_l4 n a1 a2 h) := by
  intro n
  induction n with
  | zero => intro a1 a2 h; exact v_none
  | succ n ih => intro a1 a2 h; exact b9_whose_40_b4 hd (f9_whose_40_l4 n) ih a1 a2 h
def f9_whose_40 (h : jv_H) : Option (Int32 × jv_H) := jv_let (0 : Int32) fun x1 => jv_let (0 : Int32) fun x2 => f9_whose_40_l4 jv_fuel x1 x2 h
set_option maxRecDepth 20000 in
theorem e9_whose_40 {l : Launch} {d : Nat} (hd : 1 ≤ d) (h : jv_H) : jv_E l yX9_whose cX9_whose 5 (some .int) d (SC ++ SM) jv_ri [.ref 40] h (f9_whose_40  h) := by
  refine e_of [(0, .ref 40)] rfl pn_X9 (fun _ => Nat.le_of_ble_eq_true rfl) (fun _ => rfl) ?_
  unfold f9_whose_40
  refine v_iconst 1 rfl dX9_whose_0 ic_0 ?_
  refine n_istore_n (fun x1 => [(0, .ref 40), (1, .int x1)]) 2 rfl dX9_whose_1 rfl (Nat.le_of_ble_eq_true rfl) rfl (fun _ => rfl) (fun x1 => ?_)
  refine v_iconst 3 rfl dX9_whose_2 ic_0 ?_
  refine n_istore_n (fun x2 => [(0, .ref 40), (1, .int x1), (2, .int x2)]) 4 rfl dX9_whose_3 rfl (Nat.le_of_ble_eq_true rfl) rfl (fun _ => rfl) (fun x2 => ?_)
  exact w9_whose_40_l4 hd jv_fuel x1 x2 h
-- TemperNursesModel.ask()I at 40
def g9_ask_40_b68 (k19 : Int32 → Int32 → Int32 → Int32 → Int32 → jv_H → Option (Int32 × jv_H)) (k32 : Int32 → Int32 → Int32 → Int32 → Int32 → Int32 → Int32 → jv_H → Option (Int32 × jv_H)) (a1 : Int32) (a2 : Int32) (a3 : Int32) (a4 : Int32) (a5 : Int32) (a7 : Int32) (s0 : Int32) (s1 : Int32) (h : jv_H) : Option (Int32 × jv_H) := jv_let (s0 + s1) fun x1 => jv_let (a7 + (1 : Int32)) fun x2 => k32 a1 a2 a3 a4 a5 x1 x2 h
set_option maxRecDepth 20000 in
theorem b9_ask_40_b68 {l : Launch} {d : Nat} (hd : 2 ≤ d) (k19 : Int32 → Int32 → Int32 → Int32 → Int32 → jv_H → Option (Int32 × jv_H)) (hk19 : ∀ (a1 a2 a3 a4 a5 : Int32) (h : jv_H), jv_V l RX9 cX9_ask 8 (some .int) d (SC ++ SM) jv_ri 19 [(0, .ref 40), (1, .int a1), (2, .int a2), (3, .int a3), (4, .int a4), (5, .int a5)] [] h (k19 a1 a2 a3 a4 a5 h)) (k32 : Int32 → Int32 → Int32 → Int32 → Int32 → Int32 → Int32 → jv_H → Option (Int32 × jv_H)) (hk32 : ∀ (a1 a2 a3 a4 a5 a6 a7 : Int32) (h : jv_H), jv_V l RX9 cX9_ask 8 (some .int) d (SC ++ SM) jv_ri 32 [(0, .ref 40), (1, .int a1), (2, .int a2), (3, .int a3), (4, .int a4), (5, .int a5), (6, .int a6), (7, .int a7)] [] h (k32 a1 a2 a3 a4 a5 a6 a7 h)) : ∀ (a1 : Int32) (a2 : Int32) (a3 : Int32) (a4 : Int32) (a5 : Int32) (a7 : Int32) (s0 : Int32) (s1 : Int32) (h : jv_H), jv_V l RX9 cX9_ask 8 (some .int) d (SC ++ SM) jv_ri 68 [(0, .ref 40), (1, .int a1), (2, .int a2), (3, .int a3), (4, .int a4), (5, .int a5), (7, .int a7)] [.int s1, .int s0] h (g9_ask_40_b68 k19 k32 a1 a2 a3 a4 a5 a7 s0 s1 h) := by
  intro a1 a2 a3 a4 a5 a7 s0 s1 h
  unfold g9_ask_40_b68
  refine v_iadd 69 rfl dX9_ask_68 ?_
  refine n_istore (fun x1 => [(0, .ref 40), (1, .int a1), (2, .int a2), (3, .int a3), (4, .int a4), (5, .int a5), (7, .int a7), (6, .int x1)]) 71 rfl dX9_ask_69 (Nat.le_of_ble_eq_true rfl) rfl (fun _ => rfl) (fun x1 => ?_)
  refine n_iinc (fun x2 => [(0, .ref 40), (1, .int a1), (2, .int a2), (3, .int a3), (4, .int a4), (5, .int a5), (7, .int x2), (6, .int x1)]) 6 74 rfl dX9_ask_71 rfl ic_1 (Nat.le_of_ble_eq_true rfl) rfl (fun _ => rfl) (fun x2 => ?_)
  refine v_goto 32 rfl dX9_ask_74 ?_
  refine v_sub [0, 1, 2, 3, 4, 5, 7, 6] rfl ?_
  exact hk32 a1 a2 a3 a4 a5 x1 x2 h
def g9_ask_40_b67 (k19 : Int32 → Int32 → Int32 → Int32 → Int32 → jv_H → Option (Int32 × jv_H)) (k32 : Int32 → Int32 → Int32 → Int32 → Int32 → Int32 → Int32 → jv_H → Option (Int32 × jv_H)) (a1 : Int32) (a2 : Int32) (a3 : Int32) (a4 : Int32) (a5 : Int32) (a7 : Int32) (s0 : Int32) (h : jv_H) : Option (Int32 × jv_H) := g9_ask_40_b68 k19 k32 a1 a2 a3 a4 a5 a7 s0 (0 : Int32) h
set_option maxRecDepth 20000 in
theorem b9_ask_40_b67 {l : Launch} {d : Nat} (hd : 2 ≤ d) (k19 : Int32 → Int32 → Int32 → Int32 → Int32 → jv_H → Option (Int32 × jv_H)) (hk19 : ∀ (a1 a2 a3 a4 a5 : Int32) (h : jv_H), jv_V l RX9 cX9_ask 8 (some .int) d (SC ++ SM) jv_ri 19 [(0, .ref 40), (1, .int a1), (2, .int a2), (3, .int a3), (4, .int a4), (5, .int a5)] [] h (k19 a1 a2 a3 a4 a5 h)) (k32 : Int32 → Int32 → Int32 → Int32 → Int32 → Int32 → Int32 → jv_H → Option (Int32 × jv_H)) (hk32 : ∀ (a1 a2 a3 a4 a5 a6 a7 : Int32) (h : jv_H), jv_V l RX9 cX9_ask 8 (some .int) d (SC ++ SM) jv_ri 32 [(0, .ref 40), (1, .int a1), (2, .int a2), (3, .int a3), (4, .int a4), (5, .int a5), (6, .int a6), (7, .int a7)] [] h (k32 a1 a2 a3 a4 a5 a6 a7 h)) : ∀ (a1 : Int32) (a2 : Int32) (a3 : Int32) (a4 : Int32) (a5 : Int32) (a7 : Int32) (s0 : Int32) (h : jv_H), jv_V l RX9 cX9_ask 8 (some .int) d (SC ++ SM) jv_ri 67 [(0, .ref 40), (1, .int a1), (2, .int a2), (3, .int a3), (4, .int a4), (5, .int a5), (7, .int a7)] [.int s0] h (g9_ask_40_b67 k19 k32 a1 a2 a3 a4 a5 a7 s0 h) := by
  intro a1 a2 a3 a4 a5 a7 s0 h
  unfold g9_ask_40_b67
  refine v_iconst 68 rfl dX9_ask_67 ic_0 ?_
  exact b9_ask_40_b68 hd k19 hk19 k32 hk32 a1 a2 a3 a4 a5 a7 s0 (0 : Int32) h
def g9_ask_40_b124 (k19 : Int32 → Int32 → Int32 → Int32 → Int32 → jv_H → Option (Int32 × jv_H)) (a1 : Int32) (a2 : Int32) (a4 : Int32) (a5 : Int32) (s0 : Int32) (h : jv_H) : Option (Int32 × jv_H) := jv_let s0 fun x1 => jv_let (a5 + (1 : Int32)) fun x2 => k19 a1 a2 x1 a4 x2 h
set_option maxRecDepth 20000 in
theorem b9_ask_40_b124 {l : Launch} {d : Nat} (hd : 2 ≤ d) (k19 : Int32 → Int32 → Int32 → Int32 → Int32 → jv_H → Option (Int32 × jv_H)) (hk19 : ∀ (a1 a2 a3 a4 a5 : Int32) (h : jv_H), jv_V l RX9 cX9_ask 8 (some .int) d (SC ++ SM) jv_ri 19 [(0, .ref 40), (1, .int a1), (2, .int a2), (3, .int a3), (4, .int a4), (5, .int a5)] [] h (k19 a1 a2 a3 a4 a5 h)) : ∀ (a1 : Int32) (a2 : Int32) (a4 : Int32) (a5 : Int32) (s0 : Int32) (h : jv_H), jv_V l RX9 cX9_ask 8 (some .int) d (SC ++ SM) jv_ri 124 [(0, .ref 40), (1, .int a1), (2, .int a2), (4, .int a4), (5, .int a5)] [.int s0] h (g9_ask_40_b124 k19 a1 a2 a4 a5 s0 h) := by
  intro a1 a2 a4 a5 s0 h
  unfold g9_ask_40_b124
  refine n_istore_n (fun x1 => [(0, .ref 40), (1, .int a1), (2, .int a2), (4, .int a4), (5, .int a5), (3, .int x1)]) 125 rfl dX9_ask_124 rfl (Nat.le_of_ble_eq_true rfl) rfl (fun _ => rfl) (fun x1 => ?_)
  refine n_iinc (fun x2 => [(0, .ref 40), (1, .int a1), (2, .int a2), (4, .int a4), (5, .int x2), (3, .int x1)]) 4 128 rfl dX9_ask_125 rfl ic_1 (Nat.le_of_ble_eq_true rfl) rfl (fun _ => rfl) (fun x2 => ?_)
  refine v_goto 19 rfl dX9_ask_128 ?_
  refine v_sub [0, 1, 2, 5, 3, 4] rfl ?_
  exact hk19 a1 a2 x1 a4 x2 h
def g9_ask_40_b110 (k19 : Int32 → Int32 → Int32 → Int32 → Int32 → jv_H → Option (Int32 × jv_H)) (a1 : Int32) (a2 : Int32) (a3 : Int32) (a5 : Int32) (a7 : Int32) (s0 : Int32) (h : jv_H) : Option (Int32 × jv_H) := jv_let s0 fun x1 => if a3 ≤ a7 then g9_ask_40_b124 k19 a1 a2 x1 a5 a3 h else g9_ask_40_b124 k19 a1 a2 x1 a5 a7 h
set_option maxRecDepth 20000 in
theorem b9_ask_40_b110 {l : Launch} {d : Nat} (hd : 2 ≤ d) (k19 : Int32 → Int32 → Int32 → Int32 → Int32 → jv_H → Option (Int32 × jv_H)) (hk19 : ∀ (a1 a2 a3 a4 a5 : Int32) (h : jv_H), jv_V l RX9 cX9_ask 8 (some .int) d (SC ++ SM) jv_ri 19 [(0, .ref 40), (1, .int a1), (2, .int a2), (3, .int a3), (4, .int a4), (5, .int a5)] [] h (k19 a1 a2 a3 a4 a5 h)) : ∀ (a1 : Int32) (a2 : Int32) (a3 : Int32) (a5 : Int32) (a7 : Int32) (s0 : Int32) (h : jv_H), jv_V l RX9 cX9_ask 8 (some .int) d (SC ++ SM) jv_ri 110 [(0, .ref 40), (1, .int a1), (2, .int a2), (3, .int a3), (5, .int a5), (7, .int a7)] [.int s0] h (g9_ask_40_b110 k19 a1 a2 a3 a5 a7 s0 h) := by
  intro a1 a2 a3 a5 a7 s0 h
  unfold g9_ask_40_b110
  refine n_istore (fun x1 => [(0, .ref 40), (1, .int a1), (2, .int a2), (3, .int a3), (5, .int a5), (7, .int a7), (4, .int x1)]) 112 rfl dX9_ask_110 (Nat.le_of_ble_eq_true rfl) rfl (fun _ => rfl) (fun x1 => ?_)
  refine v_iload 5 114 rfl dX9_ask_112 rfl ?_
  refine v_iload_n 3 115 rfl dX9_ask_114 rfl rfl ?_
  refine v_icmp_ge 123 118 rfl rfl dX9_ask_115 (fun _ => ?_) (fun _ => ?_)
  · refine v_iload_n 3 124 rfl dX9_ask_123 rfl rfl ?_
    refine v_sub [0, 1, 2, 6, 4] rfl ?_
    exact b9_ask_40_b124 hd k19 hk19 a1 a2 x1 a5 a3 h
  · refine v_iload 5 120 rfl dX9_ask_118 rfl ?_
    refine v_goto 124 rfl dX9_ask_120 ?_
    refine v_sub [0, 1, 2, 6, 4] rfl ?_
    exact b9_ask_40_b124 hd k19 hk19 a1 a2 x1 a5 a7 h
def g9_ask_40_b95 (k19 : Int32 → Int32 → Int32 → Int32 → Int32 → jv_H → Option (Int32 × jv_H)) (a1 : Int32) (a2 : Int32) (a3 : Int32) (a4 : Int32) (a5 : Int32) (s0 : Int32) (h : jv_H) : Option (Int32 × jv_H) := jv_let s0 fun x1 => if a3 ≤ x1 then g9_ask_40_b110 k19 a1 a2 a3 a5 x1 a4 h else g9_ask_40_b110 k19 a1 a2 a3 a5 x1 a5 h
set_option maxRecDepth 20000 in
theorem b9_ask_40_b95 {l : Launch} {d : Nat} (hd : 2 ≤ d) (k19 : Int32 → Int32 → Int32 → Int32 → Int32 → jv_H → Option (Int32 × jv_H)) (hk19 : ∀ (a1 a2 a3 a4 a5 : Int32) (h : jv_H), jv_V l RX9 cX9_ask 8 (some .int) d (SC ++ SM) jv_ri 19 [(0, .ref 40), (1, .int a1), (2, .int a2), (3, .int a3), (4, .int a4), (5, .int a5)] [] h (k19 a1 a2 a3 a4 a5 h)) : ∀ (a1 : Int32) (a2 : Int32) (a3 : Int32) (a4 : Int32) (a5 : Int32) (s0 : Int32) (h : jv_H), jv_V l RX9 cX9_ask 8 (some .int) d (SC ++ SM) jv_ri 95 [(0, .ref 40), (1, .int a1), (2, .int a2), (3, .int a3), (4, .int a4), (5, .int a5)] [.int s0] h (g9_ask_40_b95 k19 a1 a2 a3 a4 a5 s0 h) := by
  intro a1 a2 a3 a4 a5 s0 h
  unfold g9_ask_40_b95
  refine n_istore (fun x1 => [(0, .ref 40), (1, .int a1), (2, .int a2), (3, .int a3), (4, .int a4), (5, .int a5), (7, .int x1)]) 97 rfl dX9_ask_95 (Nat.le_of_ble_eq_true rfl) rfl (fun _ => rfl) (fun x1 => ?_)
  refine v_iload 6 99 rfl dX9_ask_97 rfl ?_
  refine v_iload_n 3 100 rfl dX9_ask_99 rfl rfl ?_
  refine v_icmp_ge 108 103 rfl rfl dX9_ask_100 (fun _ => ?_) (fun _ => ?_)
  · refine v_iload 4 110 rfl dX9_ask_108 rfl ?_
    refine v_sub [0, 1, 2, 3, 5, 6] rfl ?_
    exact b9_ask_40_b110 hd k19 hk19 a1 a2 a3 a5 x1 a4 h
  · refine v_iload 5 105 rfl dX9_ask_103 rfl ?_
    refine v_goto 110 rfl dX9_ask_105 ?_
    refine v_sub [0, 1, 2, 3, 5, 6] rfl ?_
    exact b9_ask_40_b110 hd k19 hk19 a1 a2 a3 a5 x1 a5 h
def g9_ask_40_b32 (k19 : Int32 → Int32 → Int32 → Int32 → Int32 → jv_H → Option (Int32 × jv_H)) (k32 : Int32 → Int32 → Int32 → Int32 → Int32 → Int32 → Int32 → jv_H → Option (Int32 × jv_H)) (a1 : Int32) (a2 : Int32) (a3 : Int32) (a4 : Int32) (a5 : Int32) (a6 : Int32) (a7 : Int32) (h : jv_H) : Option (Int32 × jv_H) := if (h.1 40 0) ≤ a7 then if a6 ≤ (a2 - a6) then g9_ask_40_b95 k19 a1 a2 a3 a4 a5 (a2 - a6) h else g9_ask_40_b95 k19 a1 a2 a3 a4 a5 a6 h else (f9_has a1 a7 h).bind fun q1 => if q1.1 = 0 then g9_ask_40_b67 k19 k32 a1 a2 a3 a4 a5 a7 a6 q1.2 else (f9_heat_40 a7 q1.2).bind fun q2 => if q2.1 < a5 then g9_ask_40_b67 k19 k32 a1 a2 a3 a4 a5 a7 a6 q2.2 else g9_ask_40_b68 k19 k32 a1 a2 a3 a4 a5 a7 a6 (1 : Int32) q2.2
set_option maxRecDepth 20000 in
theorem b9_ask_40_b32 {l : Launch} {d : Nat} (hd : 2 ≤ d) (k19 : Int32 → Int32 → Int32 → Int32 → Int32 → jv_H → Option (Int32 × jv_H)) (hk19 : ∀ (a1 a2 a3 a4 a5 : Int32) (h : jv_H), jv_V l RX9 cX9_ask 8 (some .int) d (SC ++ SM) jv_ri 19 [(0, .ref 40), (1, .int a1), (2, .int a2), (3, .int a3), (4, .int a4), (5, .int a5)] [] h (k19 a1 a2 a3 a4 a5 h)) (k32 : Int32 → Int32 → Int32 → Int32 → Int32 → Int32 → Int32 → jv_H → Option (Int32 × jv_H)) (hk32 : ∀ (a1 a2 a3 a4 a5 a6 a7 : Int32) (h : jv_H), jv_V l RX9 cX9_ask 8 (some .int) d (SC ++ SM) jv_ri 32 [(0, .ref 40), (1, .int a1), (2, .int a2), (3, .int a3), (4, .int a4), (5, .int a5), (6, .int a6), (7, .int a7)] [] h (k32 a1 a2 a3 a4 a5 a6 a7 h)) : ∀ (a1 : Int32) (a2 : Int32) (a3 : Int32) (a4 : Int32) (a5 : Int32) (a6 : Int32) (a7 : Int32) (h : jv_H), jv_V l RX9 cX9_ask 8 (some .int) d (SC ++ SM) jv_ri 32 [(0, .ref 40), (1, .int a1), (2, .int a2), (3, .int a3), (4, .int a4), (5, .int a5), (6, .int a6), (7, .int a7)] [] h (g9_ask_40_b32 k19 k32 a1 a2 a3 a4 a5 a6 a7 h) := by
  intro a1 a2 a3 a4 a5 a6 a7 h
  unfold g9_ask_40_b32
  refine v_iload 7 34 rfl dX9_ask_32 rfl ?_
  refine v_aload_n 0 35 rfl dX9_ask_34 rfl rfl ?_
  refine v_geti 38 rfl fl_X9_71 sc_40 rfl dX9_ask_35 ?_
  refine v_icmp_ge 77 41 rfl rfl dX9_ask_38 (fun _ => ?_) (fun _ => ?_)
  · refine v_iload 6 79 rfl dX9_ask_77 rfl ?_
    refine v_iload_n 2 80 rfl dX9_ask_79 rfl rfl ?_
    refine v_iload 6 82 rfl dX9_ask_80 rfl ?_
    refine v_isub 83 rfl dX9_ask_82 ?_
    refine v_icmp_le 91 86 rfl rfl dX9_ask_83 (fun _ => ?_) (fun _ => ?_)
    · refine v_iload_n 2 92 rfl dX9_ask_91 rfl rfl ?_
      refine v_iload 6 94 rfl dX9_ask_92 rfl ?_
      refine v_isub 95 rfl dX9_ask_94 ?_
      refine v_sub [0, 1, 2, 3, 4, 5] rfl ?_
      exact b9_ask_40_b95 hd k19 hk19 a1 a2 a3 a4 a5 (a2 - a6) h
    · refine v_iload 6 88 rfl dX9_ask_86 rfl ?_
      refine v_goto 95 rfl dX9_ask_88 ?_
      refine v_sub [0, 1, 2, 3, 4, 5] rfl ?_
      exact b9_ask_40_b95 hd k19 hk19 a1 a2 a3 a4 a5 a6 h
  · refine v_iload 6 43 rfl dX9_ask_41 rfl ?_
    refine v_iload_n 1 44 rfl dX9_ask_43 rfl rfl ?_
    refine v_iload 7 46 rfl dX9_ask_44 rfl ?_
    refine n_calls [.int a1, .int a7] [.int a6] (fun r => .int r :: [.int a6]) 49 rfl (by omega) (Nat.le_of_ble_eq_true rfl) cb_X9_has cs_X9_205 rfl (Nat.le_of_ble_eq_true rfl) dX9_ask_46 rfl (fun _ => rfl) (e9_has (by omega) a1 a7 h) (fun q1 => ?_)
    refine v_if_eq 67 52 rfl rfl dX9_ask_49 (fun _ => ?_) (fun _ => ?_)
    · refine v_sub [0, 1, 2, 3, 4, 5, 7] rfl ?_
      exact b9_ask_40_b67 hd k19 hk19 k32 hk32 a1 a2 a3 a4 a5 a7 a6 q1.2
    · refine v_aload_n 0 53 rfl dX9_ask_52 rfl rfl ?_
      refine v_iload 7 55 rfl dX9_ask_53 rfl ?_
      refine n_callv [.int a7] [.int a6] (fun r => .int r :: [.int a6]) 58 rfl (by omega) (Nat.le_of_ble_eq_true rfl) cb_X9_heat cv_X9_143 sc_40 cn_X9 rfl (Nat.le_of_ble_eq_true rfl) dX9_ask_55 rfl (fun _ => rfl) (e9_heat_40 (by omega) a7 q1.2) (fun q2 => ?_)
      refine v_iload 5 60 rfl dX9_ask_58 rfl ?_
      refine v_icmp_lt 67 63 rfl rfl dX9_ask_60 (fun _ => ?_) (fun _ => ?_)
      · refine v_sub [0, 1, 2, 3, 4, 5, 7] rfl ?_
        exact b9_ask_40_b67 hd k19 hk19 k32 hk32 a1 a2 a3 a4 a5 a7 a6 q2.2
      · refine v_iconst 64 rfl dX9_ask_63 ic_1 ?_
        refine v_goto 68 rfl dX9_ask_64 ?_
        refine v_sub [0, 1, 2, 3, 4, 5, 7] rfl ?_
        exact b9_ask_40_b68 hd k19 hk19 k32 hk32 a1 a2 a3 a4 a5 a7 a6 (1 : Int32) q2.2
def f9_ask_40_l32 (k19 : Int32 → Int32 → Int32 → Int32 → Int32 → jv_H → Option (Int32 × jv_H)) : Nat → Int32 → Int32 → Int32 → Int32 → Int32 → Int32 → Int32 → jv_H → Option (Int32 × jv_H)
  | 0 => fun _ _ _ _ _ _ _ _ => none
  | n + 1 => fun a1 a2 a3 a4 a5 a6 a7 h => g9_ask_40_b32 k19 (f9_ask_40_l32 k19 n) a1 a2 a3 a4 a5 a6 a7 h
theorem w9_ask_40_l32 {l : Launch} {d : Nat} (hd : 2 ≤ d) (k19 : Int32 → Int32 → Int32 → Int32 → Int32 → jv_H → Option (Int32 × jv_H)) (hk19 : ∀ (a1 a2 a3 a4 a5 : Int32) (h : jv_H), jv_V l RX9 cX9_ask 8 (some .int) d (SC ++ SM) jv_ri 19 [(0, .ref 40), (1, .int a1), (2, .int a2), (3, .int a3), (4, .int a4), (5, .int a5)] [] h (k19 a1 a2 a3 a4 a5 h)) : ∀ (n : Nat) (a1 : Int32) (a2 : Int32) (a3 : Int32) (a4 : Int32) (a5 : Int32) (a6 : Int32) (a7 : Int32) (h : jv_H), jv_V l RX9 cX9_ask 8 (some .int) d (SC ++ SM) jv_ri 32 [(0, .ref 40), (1, .int a1), (2, .int a2), (3, .int a3), (4, .int a4), (5, .int a5), (6, .int a6), (7, .int a7)] [] h (f9_ask_40_l32 k19 n a1 a2 a3 a4 a5 a6 a7 h) := by
  intro n
  induction n with
  | zero => intro a1 a2 a3 a4 a5 a6 a7 h; exact v_none
  | succ n ih => intro a1 a2 a3 a4 a5 a6 a7 h; exact b9_ask_40_b32 hd k19 hk19 (f9_ask_40_l32 k19 n) ih a1 a2 a3 a4 a5 a6 a7 h
def g9_ask_40_b19 (k19 : Int32 → Int32 → Int32 → Int32 → Int32 → jv_H → Option (Int32 × jv_H)) (a1 : Int32) (a2 : Int32) (a3 : Int32) (a4 : Int32) (a5 : Int32) (h : jv_H) : Option (Int32 × jv_H) := if (99 : Int32) < a5 then some (a4, h) else jv_let (0 : Int32) fun x1 => jv_let (0 : Int32) fun x2 => f9_ask_40_l32 k19 jv_fuel a1 a2 a3 a4 a5 x1 x2 h
set_option maxRecDepth 20000 in
theorem b9_ask_40_b19 {l : Launch} {d : Nat} (hd : 2 ≤ d) (k19 : Int32 → Int32 → Int32 → Int32 → Int32 → jv_H → Option (Int32 × jv_H)) (hk19 : ∀ (a1 a2 a3 a4 a5 : Int32) (h : jv_H), jv_V l RX9 cX9_ask 8 (some .int) d (SC ++ SM) jv_ri 19 [(0, .ref 40), (1, .int a1), (2, .int a2), (3, .int a3), (4, .int a4), (5, .int a5)] [] h (k19 a1 a2 a3 a4 a5 h)) : ∀ (a1 : Int32) (a2 : Int32) (a3 : Int32) (a4 : Int32) (a5 : Int32) (h : jv_H), jv_V l RX9 cX9_ask 8 (some .int) d (SC ++ SM) jv_ri 19 [(0, .ref 40), (1, .int a1), (2, .int a2), (3, .int a3), (4, .int a4), (5, .int a5)] [] h (g9_ask_40_b19 k19 a1 a2 a3 a4 a5 h) := by
  intro a1 a2 a3 a4 a5 h
  unfold g9_ask_40_b19
  refine v_iload 5 21 rfl dX9_ask_19 rfl ?_
  refine v_bipush 23 rfl dX9_ask_21 bp_99 ?_
  refine v_icmp_gt 131 26 rfl rfl dX9_ask_23 (fun _ => ?_) (fun _ => ?_)
  · refine v_iload 4 133 rfl dX9_ask_131 rfl ?_
    exact v_iret rfl dX9_ask_133
  · refine v_iconst 27 rfl dX9_ask_26 ic_0 ?_
    refine n_istore (fun x1 => [(0, .ref 40), (1, .int a1), (2, .int a2), (3, .int a3), (4, .int a4), (5, .int a5), (6, .int x1)]) 29 rfl dX9_ask_27 (Nat.le_of_ble_eq_true rfl) rfl (fun _ => rfl) (fun x1 => ?_)
    refine v_iconst 30 rfl dX9_ask_29 ic_0 ?_
    refine n_istore (fun x2 => [(0, .ref 40), (1, .int a1), (2, .int a2), (3, .int a3), (4, .int a4), (5, .int a5), (6, .int x1), (7, .int x2)]) 32 rfl dX9_ask_30 (Nat.le_of_ble_eq_true rfl) rfl (fun _ => rfl) (fun x2 => ?_)
    exact w9_ask_40_l32 hd k19 hk19 jv_fuel a1 a2 a3 a4 a5 x1 x2 h
def f9_ask_40_l19 : Nat → Int32 → Int32 → Int32 → Int32 → Int32 → jv_H → Option (Int32 × jv_H)
  | 0 => fun _ _ _ _ _ _ => none
  | n + 1 => fun a1 a2 a3 a4 a5 h => g9_ask_40_b19 (f9_ask_40_l19 n) a1 a2 a3 a4 a5 h
theorem w9_ask_40_l19 {l : Launch} {d : Nat} (hd : 2 ≤ d) : ∀ (n : Nat) (a1 : Int32) (a2 : Int32) (a3 : Int32) (a4 : Int32) (a5 : Int32) (h : jv_H), jv_V l RX9 cX9_ask 8 (some .int) d (SC ++ SM) jv_ri 19 [(0, .ref 40), (1, .int a1), (2, .int a2), (3, .int a3), (4, .int a4), (5, .int a5)] [] h (f9_ask_40_l19 n a1 a2 a3 a4 a5 h) := by
  intro n
  induction n with
  | zero => intro a1 a2 a3 a4 a5 h; exact v_none
  | succ n ih => intro a1 a2 a3 a4 a5 h; exact b9_ask_40_b19 hd (f9_ask_40_l19 n) ih a1 a2 a3 a4 a5 h
def f9_ask_40 (h : jv_H) : Option (Int32 × jv_H) := (f9_whose_40 h).bind fun q1 => jv_let q1.1 fun x2 => (f9_bits x2 q1.2).bind fun q3 => jv_let q3.1 fun x4 => jv_let x4 fun x5 => jv_let (-9 : Int32) fun x6 => jv_let (0 : Int32) fun x7 => f9_ask_40_l19 jv_fuel x2 x4 x5 x6 x7 q3.2
set_option maxRecDepth 20000 in
theorem e9_ask_40 {l : Launch} {d : Nat} (hd : 2 ≤ d) (h : jv_H) : jv_E l yX9_ask cX9_ask 8 (some .int) d (SC ++ SM) jv_ri [.ref 40] h (f9_ask_40  h) := by
  refine e_of [(0, .ref 40)] rfl pn_X9 (fun _ => Nat.le_of_ble_eq_true rfl) (fun _ => rfl) ?_
  unfold f9_ask_40
  refine v_aload_n 0 1 rfl dX9_ask_0 rfl rfl ?_
  refine n_callv [] [] (fun r => .int r :: []) 4 rfl (by omega) (Nat.le_of_ble_eq_true rfl) cb_X9_whose cv_X9_218 sc_40 cn_X9 rfl (Nat.le_of_ble_eq_true rfl) dX9_ask_1 rfl (fun _ => rfl) (e9_whose_40 (by omega)  h) (fun q1 => ?_)
  refine n_istore_n (fun x2 => [(0, .ref 40), (1, .int x2)]) 5 rfl dX9_ask_4 rfl (Nat.le_of_ble_eq_true rfl) rfl (fun _ => rfl) (fun x2 => ?_)
  refine v_iload_n 1 6 rfl dX9_ask_5 rfl rfl ?_
  refine n_calls [.int x2] [] (fun r => .int r :: []) 9 rfl (by omega) (Nat.le_of_ble_eq_true rfl) cb_X9_bits cs_X9_146 rfl (Nat.le_of_ble_eq_true rfl) dX9_ask_6 rfl (fun _ => rfl) (e9_bits (by omega) x2 q1.2) (fun q3 => ?_)
  refine n_istore_n (fun x4 => [(0, .ref 40), (1, .int x2), (2, .int x4)]) 10 rfl dX9_ask_9 rfl (Nat.le_of_ble_eq_true rfl) rfl (fun _ => rfl) (fun x4 => ?_)
  refine v_iload_n 2 11 rfl dX9_ask_10 rfl rfl ?_
  refine n_istore_n (fun x5 => [(0, .ref 40), (1, .int x2), (2, .int x4), (3, .int x5)]) 12 rfl dX9_ask_11 rfl (Nat.le_of_ble_eq_true rfl) rfl (fun _ => rfl) (fun x5 => ?_)
  refine v_bipush 14 rfl dX9_ask_12 bp_m9 ?_
  refine n_istore (fun x6 => [(0, .ref 40), (1, .int x2), (2, .int x4), (3, .int x5), (4, .int x6)]) 16 rfl dX9_ask_14 (Nat.le_of_ble_eq_true rfl) rfl (fun _ => rfl) (fun x6 => ?_)
  refine v_iconst 17 rfl dX9_ask_16 ic_0 ?_
  refine n_istore (fun x7 => [(0, .ref 40), (1, .int x2), (2, .int x4), (3, .int x5), (4, .int x6), (5, .int x7)]) 19 rfl dX9_ask_17 (Nat.le_of_ble_eq_true rfl) rfl (fun _ => rfl) (fun x7 => ?_)
  exact w9_ask_40_l19 hd jv_fuel x2 x4 x5 x6 x7 q3.2
-- TemperNursesModel.markAs0(I)I at 40
def f9_markAs0_40 (a1 : Int32) (h : jv_H) : Option (Int32 × jv_H) := jv_let (jv_l h 40 14 ((h.2 40 14) + (1 : Int64))) fun h1 => (f9_heat_40 a1 h1).bind fun q2 => some (q2.1, q2.2)
set_option maxRecDepth 20000 in
theorem e9_markAs0_40 {l : Launch} {d : Nat} (hd : 1 ≤ d) (a1 : Int32) (h : jv_H) : jv_E l yX9_markAs0 cX9_markAs0 2 (some .int) d (SC ++ SM) jv_ri [.ref 40, .int a1] h (f9_markAs0_40 a1 h) := by
  refine e_of [(0, .ref 40), (1, .int a1)] rfl pn_X9 (fun _ => Nat.le_of_ble_eq_true rfl) (fun _ => rfl) ?_
  unfold f9_markAs0_40
  refine v_aload_n 0 1 rfl dX9_markAs0_0 rfl rfl ?_
  refine v_dupr 2 rfl dX9_markAs0_1 ?_
  refine v_getl 5 rfl fl_X9_221 sc_40 rfl dX9_markAs0_2 ?_
  refine v_lconst (v := (1 : Int64)) 6 rfl dX9_markAs0_5 rfl ?_
  refine v_ladd 7 rfl dX9_markAs0_6 ?_
  refine n_putl 10 rfl fl_X9_221 sc_40 rfl dX9_markAs0_7 (fun h1 => ?_)
  refine v_aload_n 0 11 rfl dX9_markAs0_10 rfl rfl ?_
  refine v_iload_n 1 12 rfl dX9_markAs0_11 rfl rfl ?_
  refine n_callv [.int a1] [] (fun r => .int r :: []) 15 rfl (by omega) (Nat.le_of_ble_eq_true rfl) cb_X9_heat cv_X9_143 sc_40 cn_X9 rfl (Nat.le_of_ble_eq_true rfl) dX9_markAs0_12 rfl (fun _ => rfl) (e9_heat_40 (by omega) a1 h1) (fun q2 => ?_)
  exact v_iret rfl dX9_markAs0_15
-- TemperNursesModel.markAs(II)I at 40
def f9_markAs_40 (a1 : Int32) (a2 : Int32) (h : jv_H) : Option (Int32 × jv_H) := if a1 = 1 then jv_let (jv_l h 40 14 ((h.2 40 14) + (10 : Int64))) fun h1 => (f9_markAs0_40 a2 h1).bind fun q2 => if jv_ix a2 6 then some ((q2.1 + (q2.2.1 41 (Int32.toNatClampNeg a2))), q2.2) else none else if a1 = 2 then jv_let (jv_l h 40 14 ((h.2 40 14) + (100 : Int64))) fun h4 => (f9_markAs0_40 a2 h4).bind fun q5 => (f9_broken_40 q5.2).bind fun q6 => (f9_bits q6.1 q6.2).bind fun q7 => some ((q5.1 - q7.1), q7.2) else if a1 = 3 then jv_let (jv_l h 40 14 ((h.2 40 14) + (1010 : Int64))) fun h9 => (f9_markAs0_40 a2 h9).bind fun q10 => if jv_ix a2 6 then some (((2 : Int32) * (q10.1 + (q10.2.1 41 (Int32.toNatClampNeg a2)))), q10.2) else none else if a1 = 4 then jv_let (jv_l h 40 14 ((h.2 40 14) + (10100 : Int64))) fun h12 => (f9_markAs0_40 a2 h12).bind fun q13 => (f9_broken_40 q13.2).bind fun q14 => (f9_bits q14.1 q14.2).bind fun q15 => some (((q13.1 - q15.1) + a2), q15.2) else if a1 = 5 then jv_let (jv_l h 40 14 ((h.2 40 14) + (100000 : Int64))) fun h17 => (f9_markAs0_40 a2 h17).bind fun q18 => if jv_ix (0 : Int32) 210 then some ((q18.1 + (q18.2.1 47 (Int32.toNatClampNeg (0 : Int32)))), q18.2) else none else (f9_markAs0_40 a2 h).bind fun q20 => some (q20.1, q20.2)
set_option maxRecDepth 20000 in
theorem e9_markAs_40 {l : Launch} {d : Nat} (hd : 2 ≤ d) (a1 : Int32) (a2 : Int32) (h : jv_H) : jv_E l yX9_markAs cX9_markAs 3 (some .int) d (SC ++ SM) jv_ri [.ref 40, .int a1, .int a2] h (f9_markAs_40 a1 a2 h) := by
  refine e_of [(0, .ref 40), (1, .int a1), (2, .int a2)] rfl pn_X9 (fun _ => Nat.le_of_ble_eq_true rfl) (fun _ => rfl) ?_
  unfold f9_markAs_40
  refine v_iload_n 1 1 rfl dX9_markAs_0 rfl rfl ?_
  refine v_tabc (1 : Int32) (off := 35) 36 dX9_markAs_1 (by decide +kernel) rfl (fun _ => ?_) (fun c3 => ?_)
  · refine v_aload_n 0 37 rfl dX9_markAs_36 rfl rfl ?_
    refine v_dupr 38 rfl dX9_markAs_37 ?_
    refine v_getl 41 rfl fl_X9_221 sc_40 rfl dX9_markAs_38 ?_
    refine v_ldc2 44 rfl mw_1106 dX9_markAs_41 ?_
    refine v_ladd 45 rfl dX9_markAs_44 ?_
    refine n_putl 48 rfl fl_X9_221 sc_40 rfl dX9_markAs_45 (fun h1 => ?_)
    refine v_aload_n 0 49 rfl dX9_markAs_48 rfl rfl ?_
    refine v_iload_n 2 50 rfl dX9_markAs_49 rfl rfl ?_
    refine n_callv [.int a2] [] (fun r => .int r :: []) 53 rfl (by omega) (Nat.le_of_ble_eq_true rfl) cb_X9_markAs0 cv_X9_225 sc_40 cn_X9 rfl (Nat.le_of_ble_eq_true rfl) dX9_markAs_50 rfl (fun _ => rfl) (e9_markAs0_40 (by omega) a2 h1) (fun q2 => ?_)
    refine v_aload_n 0 54 rfl dX9_markAs_53 rfl rfl ?_
    refine v_getr 57 rfl fl_X9_7 sc_40 rfl dX9_markAs_54 ?_
    refine v_iload_n 2 58 rfl dX9_markAs_57 rfl rfl ?_
    refine v_iald 59 rfl sc_41 dX9_markAs_58 (fun _ => ?_)
    refine v_iadd 60 rfl dX9_markAs_59 ?_
    exact v_iret rfl dX9_markAs_60
  refine v_tabc (2 : Int32) (off := 60) 61 dX9_markAs_1 (by decide +kernel) rfl (fun _ => ?_) (fun c8 => ?_)
  · refine v_aload_n 0 62 rfl dX9_markAs_61 rfl rfl ?_
    refine v_dupr 63 rfl dX9_markAs_62 ?_
    refine v_getl 66 rfl fl_X9_221 sc_40 rfl dX9_markAs_63 ?_
    refine v_ldc2 69 rfl mw_1137 dX9_markAs_66 ?_
    refine v_ladd 70 rfl dX9_markAs_69 ?_
    refine n_putl 73 rfl fl_X9_221 sc_40 rfl dX9_markAs_70 (fun h4 => ?_)
    refine v_aload_n 0 74 rfl dX9_markAs_73 rfl rfl ?_
    refine v_iload_n 2 75 rfl dX9_markAs_74 rfl rfl ?_
    refine n_callv [.int a2] [] (fun r => .int r :: []) 78 rfl (by omega) (Nat.le_of_ble_eq_true rfl) cb_X9_markAs0 cv_X9_225 sc_40 cn_X9 rfl (Nat.le_of_ble_eq_true rfl) dX9_markAs_75 rfl (fun _ => rfl) (e9_markAs0_40 (by omega) a2 h4) (fun q5 => ?_)
    refine v_aload_n 0 79 rfl dX9_markAs_78 rfl rfl ?_
    refine n_callv [] [.int q5.1] (fun r => .int r :: [.int q5.1]) 82 rfl (by omega) (Nat.le_of_ble_eq_true rfl) cb_X9_broken cv_X9_179 sc_40 cn_X9 rfl (Nat.le_of_ble_eq_true rfl) dX9_markAs_79 rfl (fun _ => rfl) (e9_broken_40 (by omega)  q5.2) (fun q6 => ?_)
    refine n_calls [.int q6.1] [.int q5.1] (fun r => .int r :: [.int q5.1]) 85 rfl (by omega) (Nat.le_of_ble_eq_true rfl) cb_X9_bits cs_X9_146 rfl (Nat.le_of_ble_eq_true rfl) dX9_markAs_82 rfl (fun _ => rfl) (e9_bits (by omega) q6.1 q6.2) (fun q7 => ?_)
    refine v_isub 86 rfl dX9_markAs_85 ?_
    exact v_iret rfl dX9_markAs_86
  refine v_tabc (3 : Int32) (off := 86) 87 dX9_markAs_1 (by decide +kernel) rfl (fun _ => ?_) (fun c11 => ?_)
  · refine v_aload_n 0 88 rfl dX9_markAs_87 rfl rfl ?_
    refine v_dupr 89 rfl dX9_markAs_88 ?_
    refine v_getl 92 rfl fl_X9_221 sc_40 rfl dX9_markAs_89 ?_
    refine v_ldc2 95 rfl mw_1138 dX9_markAs_92 ?_
    refine v_ladd 96 rfl dX9_markAs_95 ?_
    refine n_putl 99 rfl fl_X9_221 sc_40 rfl dX9_markAs_96 (fun h9 => ?_)
    refine v_iconst 100 rfl dX9_markAs_99 ic_2 ?_
    refine v_aload_n 0 101 rfl dX9_markAs_100 rfl rfl ?_
    refine v_iload_n 2 102 rfl dX9_markAs_101 rfl rfl ?_
    refine n_callv [.int a2] [.int (2 : Int32)] (fun r => .int r :: [.int (2 : Int32)]) 105 rfl (by omega) (Nat.le_of_ble_eq_true rfl) cb_X9_markAs0 cv_X9_225 sc_40 cn_X9 rfl (Nat.le_of_ble_eq_true rfl) dX9_markAs_102 rfl (fun _ => rfl) (e9_markAs0_40 (by omega) a2 h9) (fun q10 => ?_)
    refine v_aload_n 0 106 rfl dX9_markAs_105 rfl rfl ?_
    refine v_getr 109 rfl fl_X9_7 sc_40 rfl dX9_markAs_106 ?_
    refine v_iload_n 2 110 rfl dX9_markAs_109 rfl rfl ?_
    refine v_iald 111 rfl sc_41 dX9_markAs_110 (fun _ => ?_)
    refine v_iadd 112 rfl dX9_markAs_111 ?_
    refine v_imul 113 rfl dX9_markAs_112 ?_
    exact v_iret rfl dX9_markAs_113
  refine v_tabc (4 : Int32) (off := 113) 114 dX9_markAs_1 (by decide +kernel) rfl (fun _ => ?_) (fun c16 => ?_)
  · refine v_aload_n 0 115 rfl dX9_markAs_114 rfl rfl ?_
    refine v_dupr 116 rfl dX9_markAs_115 ?_
    refine v_getl 119 rfl fl_X9_221 sc_40 rfl dX9_markAs_116 ?_
    refine v_ldc2 122 rfl mw_1139 dX9_markAs_119 ?_
    refine v_ladd 123 rfl dX9_markAs_122 ?_
    refine n_putl 126 rfl fl_X9_221 sc_40 rfl dX9_markAs_123 (fun h12 => ?_)
    refine v_aload_n 0 127 rfl dX9_markAs_126 rfl rfl ?_
    refine v_iload_n 2 128 rfl dX9_markAs_127 rfl rfl ?_
    refine n_callv [.int a2] [] (fun r => .int r :: []) 131 rfl (by omega) (Nat.le_of_ble_eq_true rfl) cb_X9_markAs0 cv_X9_225 sc_40 cn_X9 rfl (Nat.le_of_ble_eq_true rfl) dX9_markAs_128 rfl (fun _ => rfl) (e9_markAs0_40 (by omega) a2 h12) (fun q13 => ?_)
    refine v_aload_n 0 132 rfl dX9_markAs_131 rfl rfl ?_
    refine n_callv [] [.int q13.1] (fun r => .int r :: [.int q13.1]) 135 rfl (by omega) (Nat.le_of_ble_eq_true rfl) cb_X9_broken cv_X9_179 sc_40 cn_X9 rfl (Nat.le_of_ble_eq_true rfl) dX9_markAs_132 rfl (fun _ => rfl) (e9_broken_40 (by omega)  q13.2) (fun q14 => ?_)
    refine n_calls [.int q14.1] [.int q13.1] (fun r => .int r :: [.int q13.1]) 138 rfl (by omega) (Nat.le_of_ble_eq_true rfl) cb_X9_bits cs_X9_146 rfl (Nat.le_of_ble_eq_true rfl) dX9_markAs_135 rfl (fun _ => rfl) (e9_bits (by omega) q14.1 q14.2) (fun q15 => ?_)
    refine v_isub 139 rfl dX9_markAs_138 ?_
    refine v_iload_n 2 140 rfl dX9_markAs_139 rfl rfl ?_
    refine v_iadd 141 rfl dX9_markAs_140 ?_
    exact v_iret rfl dX9_markAs_141
  refine v_tabc (5 : Int32) (off := 141) 142 dX9_markAs_1 (by decide +kernel) rfl (fun _ => ?_) (fun c19 => ?_)
  · refine v_aload_n 0 143 rfl dX9_markAs_142 rfl rfl ?_
    refine v_dupr 144 rfl dX9_markAs_143 ?_
    refine v_getl 147 rfl fl_X9_221 sc_40 rfl dX9_markAs_144 ?_
    refine v_ldc2 150 rfl mw_1140 dX9_markAs_147 ?_
    refine v_ladd 151 rfl dX9_markAs_150 ?_
    refine n_putl 154 rfl fl_X9_221 sc_40 rfl dX9_markAs_151 (fun h17 => ?_)
    refine v_aload_n 0 155 rfl dX9_markAs_154 rfl rfl ?_
    refine v_iload_n 2 156 rfl dX9_markAs_155 rfl rfl ?_
    refine n_callv [.int a2] [] (fun r => .int r :: []) 159 rfl (by omega) (Nat.le_of_ble_eq_true rfl) cb_X9_markAs0 cv_X9_225 sc_40 cn_X9 rfl (Nat.le_of_ble_eq_true rfl) dX9_markAs_156 rfl (fun _ => rfl) (e9_markAs0_40 (by omega) a2 h17) (fun q18 => ?_)
    refine v_aload_n 0 160 rfl dX9_markAs_159 rfl rfl ?_
    refine v_getr 163 rfl fl_X9_28 sc_40 rfl dX9_markAs_160 ?_
    refine v_iconst 164 rfl dX9_markAs_163 ic_0 ?_
    refine v_iald 165 rfl sc_47 dX9_markAs_164 (fun _ => ?_)
    refine v_iadd 166 rfl dX9_markAs_165 ?_
    exact v_iret rfl dX9_markAs_166
  refine v_tabd 167 dX9_markAs_1 (by have := lv_neT (a := 1) c3 rfl; have := lv_neT (a := 2) c8 rfl; have := lv_neT (a := 3) c11 rfl; have := lv_neT (a := 4) c16 rfl; have := lv_neT (a := 5) c19 rfl; omega) rfl ?_
  refine v_aload_n 0 168 rfl dX9_markAs_167 rfl rfl ?_
  refine v_iload_n 2 169 rfl dX9_markAs_168 rfl rfl ?_
  refine n_callv [.int a2] [] (fun r => .int r :: []) 172 rfl (by omega) (Nat.le_of_ble_eq_true rfl) cb_X9_markAs0 cv_X9_225 sc_40 cn_X9 rfl (Nat.le_of_ble_eq_true rfl) dX9_markAs_169 rfl (fun _ => rfl) (e9_markAs0_40 (by omega) a2 h) (fun q20 => ?_)
  exact v_iret rfl dX9_markAs_172
-- TemperNursesModel.mark(II)I at 40
def f9_mark_40 (a1 : Int32) (a2 : Int32) (h : jv_H) : Option (Int32 × jv_H) := (f9_in (Int32.toInt64 a1) (0 : Int64) (5 : Int64) h).bind fun q1 => if q1.1 = 0 then some ((-1000000 : Int32), q1.2) else (f9_isTemper_40 a2 q1.2).bind fun q2 => if q2.1 = 0 then some ((-1000000 : Int32), q2.2) else (f9_markAs_40 a1 a2 q2.2).bind fun q3 => some (q3.1, q3.2)
set_option maxRecDepth 20000 in
theorem e9_mark_40 {l : Launch} {d : Nat} (hd : 3 ≤ d) (a1 : Int32) (a2 : Int32) (h : jv_H) : jv_E l yX9_mark cX9_mark 3 (some .int) d (SC ++ SM) jv_ri [.ref 40, .int a1, .int a2] h (f9_mark_40 a1 a2 h) := by
  refine e_of [(0, .ref 40), (1, .int a1), (2, .int a2)] rfl pn_X9 (fun _ => Nat.le_of_ble_eq_true rfl) (fun _ => rfl) ?_
  unfold f9_mark_40
  refine v_iload_n 1 1 rfl dX9_mark_0 rfl rfl ?_
  refine v_i2l 2 rfl dX9_mark_1 ?_
  refine v_lconst (v := (0 : Int64)) 3 rfl dX9_mark_2 rfl ?_
  refine v_ldc2 6 rfl mw_1128 dX9_mark_3 ?_
  refine n_calls [.long (Int32.toInt64 a1), .long (0 : Int64), .long (5 : Int64)] [] (fun r => .int r :: []) 9 rfl (by omega) (Nat.le_of_ble_eq_true rfl) cb_X9_in cs_X9_75 rfl (Nat.le_of_ble_eq_true rfl) dX9_mark_6 rfl (fun _ => rfl) (e9_in (by omega) (Int32.toInt64 a1) (0 : Int64) (5 : Int64) h) (fun q1 => ?_)
  refine v_if_eq 29 12 rfl rfl dX9_mark_9 (fun _ => ?_) (fun _ => ?_)
  · refine v_ldc 31 rfl mw_1081 dX9_mark_29 ?_
    exact v_iret rfl dX9_mark_31
  · refine v_aload_n 0 13 rfl dX9_mark_12 rfl rfl ?_
    refine v_iload_n 2 14 rfl dX9_mark_13 rfl rfl ?_
    refine n_callv [.int a2] [] (fun r => .int r :: []) 17 rfl (by omega) (Nat.le_of_ble_eq_true rfl) cb_X9_isTemper cv_X9_149 sc_40 cn_X9 rfl (Nat.le_of_ble_eq_true rfl) dX9_mark_14 rfl (fun _ => rfl) (e9_isTemper_40 (by omega) a2 q1.2) (fun q2 => ?_)
    refine v_if_eq 29 20 rfl rfl dX9_mark_17 (fun _ => ?_) (fun _ => ?_)
    · refine v_ldc 31 rfl mw_1081 dX9_mark_29 ?_
      exact v_iret rfl dX9_mark_31
    · refine v_aload_n 0 21 rfl dX9_mark_20 rfl rfl ?_
      refine v_iload_n 1 22 rfl dX9_mark_21 rfl rfl ?_
      refine v_iload_n 2 23 rfl dX9_mark_22 rfl rfl ?_
      refine n_callv [.int a1, .int a2] [] (fun r => .int r :: []) 26 rfl (by omega) (Nat.le_of_ble_eq_true rfl) cb_X9_markAs cv_X9_238 sc_40 cn_X9 rfl (Nat.le_of_ble_eq_true rfl) dX9_mark_23 rfl (fun _ => rfl) (e9_markAs_40 (by omega) a1 a2 q2.2) (fun q3 => ?_)
      refine v_goto 31 rfl dX9_mark_26 ?_
      exact v_iret rfl dX9_mark_31
-- TemperNursesModel.keep(I)I at 40
def g9_keep_40_b14 (k14 : Int32 → Int32 → jv_H → Option (Int32 × jv_H)) (a1 : Int32) (a2 : Int32) (h : jv_H) : Option (Int32 × jv_H) := if (210 : Int32) ≤ a2 then if jv_ix a1 2 then jv_let (jv_p h 49 (Int32.toNatClampNeg a1) (vp_nar .boolean (1 : Int32))) fun h1 => if jv_ix (0 : Int32) 210 then some ((h1.1 47 (Int32.toNatClampNeg (0 : Int32))), h1) else none else none else if jv_ix a2 210 then if jv_ix (((210 : Int32) * a1) + a2) 420 then jv_let (jv_p h 48 (Int32.toNatClampNeg (((210 : Int32) * a1) + a2)) (h.1 47 (Int32.toNatClampNeg a2))) fun h2 => jv_let (a2 + (1 : Int32)) fun x3 => k14 a1 x3 h2 else none else none
set_option maxRecDepth 20000 in
theorem b9_keep_40_b14 {l : Launch} {d : Nat} (hd : 1 ≤ d) (k14 : Int32 → Int32 → jv_H → Option (Int32 × jv_H)) (hk14 : ∀ (a1 a2 : Int32) (h : jv_H), jv_V l RX9 cX9_keep 3 (some .int) d (SC ++ SM) jv_ri 14 [(0, .ref 40), (1, .int a1), (2, .int a2)] [] h (k14 a1 a2 h)) : ∀ (a1 : Int32) (a2 : Int32) (h : jv_H), jv_V l RX9 cX9_keep 3 (some .int) d (SC ++ SM) jv_ri 14 [(0, .ref 40), (1, .int a1), (2, .int a2)] [] h (g9_keep_40_b14 k14 a1 a2 h) := by
  intro a1 a2 h
  unfold g9_keep_40_b14
  refine v_iload_n 2 15 rfl dX9_keep_14 rfl rfl ?_
  refine v_sipush 18 rfl dX9_keep_15 sp_210 ?_
  refine v_icmp_ge 45 21 rfl rfl dX9_keep_18 (fun _ => ?_) (fun _ => ?_)
  · refine v_aload_n 0 46 rfl dX9_keep_45 rfl rfl ?_
    refine v_getr 49 rfl fl_X9_34 sc_40 rfl dX9_keep_46 ?_
    refine v_iload_n 1 50 rfl dX9_keep_49 rfl rfl ?_
    refine v_iconst 51 rfl dX9_keep_50 ic_1 ?_
    refine n_zast 52 rfl sc_49 dX9_keep_51 (fun h1 => ?_)
    refine v_aload_n 0 53 rfl dX9_keep_52 rfl rfl ?_
    refine v_getr 56 rfl fl_X9_28 sc_40 rfl dX9_keep_53 ?_
    refine v_iconst 57 rfl dX9_keep_56 ic_0 ?_
    refine v_iald 58 rfl sc_47 dX9_keep_57 (fun _ => ?_)
    exact v_iret rfl dX9_keep_58
  · refine v_aload_n 0 22 rfl dX9_keep_21 rfl rfl ?_
    refine v_getr 25 rfl fl_X9_31 sc_40 rfl dX9_keep_22 ?_
    refine v_sipush 28 rfl dX9_keep_25 sp_210 ?_
    refine v_iload_n 1 29 rfl dX9_keep_28 rfl rfl ?_
    refine v_imul 30 rfl dX9_keep_29 ?_
    refine v_iload_n 2 31 rfl dX9_keep_30 rfl rfl ?_
    refine v_iadd 32 rfl dX9_keep_31 ?_
    refine v_aload_n 0 33 rfl dX9_keep_32 rfl rfl ?_
    refine v_getr 36 rfl fl_X9_28 sc_40 rfl dX9_keep_33 ?_
    refine v_iload_n 2 37 rfl dX9_keep_36 rfl rfl ?_
    refine v_iald 38 rfl sc_47 dX9_keep_37 (fun _ => ?_)
    refine n_iast 39 rfl sc_48 dX9_keep_38 (fun h2 => ?_)
    refine n_iinc (fun x3 => [(0, .ref 40), (1, .int a1), (2, .int x3)]) 2 42 rfl dX9_keep_39 rfl ic_1 (Nat.le_of_ble_eq_true rfl) rfl (fun _ => rfl) (fun x3 => ?_)
    refine v_goto 14 rfl dX9_keep_42 ?_
    exact hk14 a1 x3 h2
def f9_keep_40_l14 : Nat → Int32 → Int32 → jv_H → Option (Int32 × jv_H)
  | 0 => fun _ _ _ => none
  | n + 1 => fun a1 a2 h => g9_keep_40_b14 (f9_keep_40_l14 n) a1 a2 h
theorem w9_keep_40_l14 {l : Launch} {d : Nat} (hd : 1 ≤ d) : ∀ (n : Nat) (a1 : Int32) (a2 : Int32) (h : jv_H), jv_V l RX9 cX9_keep 3 (some .int) d (SC ++ SM) jv_ri 14 [(0, .ref 40), (1, .int a1), (2, .int a2)] [] h (f9_keep_40_l14 n a1 a2 h) := by
  intro n
  induction n with
  | zero => intro a1 a2 h; exact v_none
  | succ n ih => intro a1 a2 h; exact b9_keep_40_b14 hd (f9_keep_40_l14 n) ih a1 a2 h
def f9_keep_40 (a1 : Int32) (h : jv_H) : Option (Int32 × jv_H) := (f9_in (Int32.toInt64 a1) (0 : Int64) (1 : Int64) h).bind fun q1 => if q1.1 = 0 then some ((-1 : Int32), q1.2) else jv_let (0 : Int32) fun x2 => f9_keep_40_l14 jv_fuel a1 x2 q1.2
set_option maxRecDepth 20000 in
theorem e9_keep_40 {l : Launch} {d : Nat} (hd : 1 ≤ d) (a1 : Int32) (h : jv_H) : jv_E l yX9_keep cX9_keep 3 (some .int) d (SC ++ SM) jv_ri [.ref 40, .int a1] h (f9_keep_40 a1 h) := by
  refine e_of [(0, .ref 40), (1, .int a1)] rfl pn_X9 (fun _ => Nat.le_of_ble_eq_true rfl) (fun _ => rfl) ?_
  unfold f9_keep_40
  refine v_iload_n 1 1 rfl dX9_keep_0 rfl rfl ?_
  refine v_i2l 2 rfl dX9_keep_1 ?_
  refine v_lconst (v := (0 : Int64)) 3 rfl dX9_keep_2 rfl ?_
  refine v_lconst (v := (1 : Int64)) 4 rfl dX9_keep_3 rfl ?_
  refine n_calls [.long (Int32.toInt64 a1), .long (0 : Int64), .long (1 : Int64)] [] (fun r => .int r :: []) 7 rfl (by omega) (Nat.le_of_ble_eq_true rfl) cb_X9_in cs_X9_75 rfl (Nat.le_of_ble_eq_true rfl) dX9_keep_4 rfl (fun _ => rfl) (e9_in (by omega) (Int32.toInt64 a1) (0 : Int64) (1 : Int64) h) (fun q1 => ?_)
  refine v_if_ne 12 10 rfl rfl dX9_keep_7 (fun _ => ?_) (fun _ => ?_)
  · refine v_iconst 13 rfl dX9_keep_12 ic_0 ?_
    refine n_istore_n (fun x2 => [(0, .ref 40), (1, .int a1), (2, .int x2)]) 14 rfl dX9_keep_13 rfl (Nat.le_of_ble_eq_true rfl) rfl (fun _ => rfl) (fun x2 => ?_)
    exact w9_keep_40_l14 hd jv_fuel a1 x2 q1.2
  · refine v_iconst 11 rfl dX9_keep_10 ic_m1 ?_
    exact v_iret rfl dX9_keep_11
-- TemperNursesModel.back(I)I at 40
def g9_back_40_b26 (k26 : Int32 → Int32 → jv_H → Option (Int32 × jv_H)) (a1 : Int32) (a2 : Int32) (h : jv_H) : Option (Int32 × jv_H) := if (210 : Int32) ≤ a2 then if jv_ix (0 : Int32) 210 then some ((h.1 47 (Int32.toNatClampNeg (0 : Int32))), h) else none else if jv_ix (((210 : Int32) * a1) + a2) 420 then if jv_ix a2 210 then jv_let (jv_p h 47 (Int32.toNatClampNeg a2) (h.1 48 (Int32.toNatClampNeg (((210 : Int32) * a1) + a2)))) fun h1 => jv_let (a2 + (1 : Int32)) fun x2 => k26 a1 x2 h1 else none else none
set_option maxRecDepth 20000 in
theorem b9_back_40_b26 {l : Launch} {d : Nat} (hd : 1 ≤ d) (k26 : Int32 → Int32 → jv_H → Option (Int32 × jv_H)) (hk26 : ∀ (a1 a2 : Int32) (h : jv_H), jv_V l RX9 cX9_back 3 (some .int) d (SC ++ SM) jv_ri 26 [(0, .ref 40), (1, .int a1), (2, .int a2)] [] h (k26 a1 a2 h)) : ∀ (a1 : Int32) (a2 : Int32) (h : jv_H), jv_V l RX9 cX9_back 3 (some .int) d (SC ++ SM) jv_ri 26 [(0, .ref 40), (1, .int a1), (2, .int a2)] [] h (g9_back_40_b26 k26 a1 a2 h) := by
  intro a1 a2 h
  unfold g9_back_40_b26
  refine v_iload_n 2 27 rfl dX9_back_26 rfl rfl ?_
  refine v_sipush 30 rfl dX9_back_27 sp_210 ?_
  refine v_icmp_ge 57 33 rfl rfl dX9_back_30 (fun _ => ?_) (fun _ => ?_)
  · refine v_aload_n 0 58 rfl dX9_back_57 rfl rfl ?_
    refine v_getr 61 rfl fl_X9_28 sc_40 rfl dX9_back_58 ?_
    refine v_iconst 62 rfl dX9_back_61 ic_0 ?_
    refine v_iald 63 rfl sc_47 dX9_back_62 (fun _ => ?_)
    exact v_iret rfl dX9_back_63
  · refine v_aload_n 0 34 rfl dX9_back_33 rfl rfl ?_
    refine v_getr 37 rfl fl_X9_28 sc_40 rfl dX9_back_34 ?_
    refine v_iload_n 2 38 rfl dX9_back_37 rfl rfl ?_
    refine v_aload_n 0 39 rfl dX9_back_38 rfl rfl ?_
    refine v_getr 42 rfl fl_X9_31 sc_40 rfl dX9_back_39 ?_
    refine v_sipush 45 rfl dX9_back_42 sp_210 ?_
    refine v_iload_n 1 46 rfl dX9_back_45 rfl rfl ?_
    refine v_imul 47 rfl dX9_back_46 ?_
    refine v_iload_n 2 48 rfl dX9_back_47 rfl rfl ?_
    refine v_iadd 49 rfl dX9_back_48 ?_
    refine v_iald 50 rfl sc_48 dX9_back_49 (fun _ => ?_)
    refine n_iast 51 rfl sc_47 dX9_back_50 (fun h1 => ?_)
    refine n_iinc (fun x2 => [(0, .ref 40), (1, .int a1), (2, .int x2)]) 2 54 rfl dX9_back_51 rfl ic_1 (Nat.le_of_ble_eq_true rfl) rfl (fun _ => rfl) (fun x2 => ?_)
    refine v_goto 26 rfl dX9_back_54 ?_
    exact hk26 a1 x2 h1
def f9_back_40_l26 : Nat → Int32 → Int32 → jv_H → Option (Int32 × jv_H)
  | 0 => fun _ _ _ => none
  | n + 1 => fun a1 a2 h => g9_back_40_b26 (f9_back_40_l26 n) a1 a2 h
theorem w9_back_40_l26 {l : Launch} {d : Nat} (hd : 1 ≤ d) : ∀ (n : Nat) (a1 : Int32) (a2 : Int32) (h : jv_H), jv_V l RX9 cX9_back 3 (some .int) d (SC ++ SM) jv_ri 26 [(0, .ref 40), (1, .int a1), (2, .int a2)] [] h (f9_back_40_l26 n a1 a2 h) := by
  intro n
  induction n with
  | zero => intro a1 a2 h; exact v_none
  | succ n ih => intro a1 a2 h; exact b9_back_40_b26 hd (f9_back_40_l26 n) ih a1 a2 h
def f9_back_40 (a1 : Int32) (h : jv_H) : Option (Int32 × jv_H) := (f9_in (Int32.toInt64 a1) (0 : Int64) (1 : Int64) h).bind fun q1 => if q1.1 = 0 then some ((-1 : Int32), q1.2) else if jv_ix a1 2 then if (q1.2.1 49 (Int32.toNatClampNeg a1)) = 0 then some ((-2 : Int32), q1.2) else jv_let (0 : Int32) fun x2 => f9_back_40_l26 jv_fuel a1 x2 q1.2 else none
set_option maxRecDepth 20000 in
theorem e9_back_40 {l : Launch} {d : Nat} (hd : 1 ≤ d) (a1 : Int32) (h : jv_H) : jv_E l yX9_back cX9_back 3 (some .int) d (SC ++ SM) jv_ri [.ref 40, .int a1] h (f9_back_40 a1 h) := by
  refine e_of [(0, .ref 40), (1, .int a1)] rfl pn_X9 (fun _ => Nat.le_of_ble_eq_true rfl) (fun _ => rfl) ?_
  unfold f9_back_40
  refine v_iload_n 1 1 rfl dX9_back_0 rfl rfl ?_
  refine v_i2l 2 rfl dX9_back_1 ?_
  refine v_lconst (v := (0 : Int64)) 3 rfl dX9_back_2 rfl ?_
  refine v_lconst (v := (1 : Int64)) 4 rfl dX9_back_3 rfl ?_
  refine n_calls [.long (Int32.toInt64 a1), .long (0 : Int64), .long (1 : Int64)] [] (fun r => .int r :: []) 7 rfl (by omega) (Nat.le_of_ble_eq_true rfl) cb_X9_in cs_X9_75 rfl (Nat.le_of_ble_eq_true rfl) dX9_back_4 rfl (fun _ => rfl) (e9_in (by omega) (Int32.toInt64 a1) (0 : Int64) (1 : Int64) h) (fun q1 => ?_)
  refine v_if_ne 12 10 rfl rfl dX9_back_7 (fun _ => ?_) (fun _ => ?_)
  · refine v_aload_n 0 13 rfl dX9_back_12 rfl rfl ?_
    refine v_getr 16 rfl fl_X9_34 sc_40 rfl dX9_back_13 ?_
    refine v_iload_n 1 17 rfl dX9_back_16 rfl rfl ?_
    refine v_zald 18 rfl sc_49 dX9_back_17 (fun _ => ?_)
    refine v_if_ne 24 21 rfl rfl dX9_back_18 (fun _ => ?_) (fun _ => ?_)
    · refine v_iconst 25 rfl dX9_back_24 ic_0 ?_
      refine n_istore_n (fun x2 => [(0, .ref 40), (1, .int a1), (2, .int x2)]) 26 rfl dX9_back_25 rfl (Nat.le_of_ble_eq_true rfl) rfl (fun _ => rfl) (fun x2 => ?_)
      exact w9_back_40_l26 hd jv_fuel a1 x2 q1.2
    · refine v_bipush 23 rfl dX9_back_21 bp_m2 ?_
      exact v_iret rfl dX9_back_23
  · refine v_iconst 11 rfl dX9_back_10 ic_m1 ?_
    exact v_iret rfl dX9_back_11
-- TemperNursesModel.count(I)I at 40
def f9_count_40 (a1 : Int32) (h : jv_H) : Option (Int32 × jv_H) := if a1 = 0 then some ((h.1 40 0), h) else if a1 = 1 then some ((h.1 40 1), h) else if a1 = 2 then some ((h.1 40 13), h) else if a1 = 3 then if jv_ix (19 : Int32) 210 then some ((h.1 47 (Int32.toNatClampNeg (19 : Int32))), h) else none else if a1 = 4 then some ((h.1 40 16), h) else some ((-1 : Int32), h)
set_option maxRecDepth 20000 in
theorem e9_count_40 {l : Launch} {d : Nat} (hd : 0 ≤ d) (a1 : Int32) (h : jv_H) : jv_E l yX9_count cX9_count 2 (some .int) d (SC ++ SM) jv_ri [.ref 40, .int a1] h (f9_count_40 a1 h) := by
  refine e_of [(0, .ref 40), (1, .int a1)] rfl pn_X9 (fun _ => Nat.le_of_ble_eq_true rfl) (fun _ => rfl) ?_
  unfold f9_count_40
  refine v_iload_n 1 1 rfl dX9_count_0 rfl rfl ?_
  refine v_tabc (0 : Int32) (off := 35) 36 dX9_count_1 (by decide +kernel) rfl (fun _ => ?_) (fun c1 => ?_)
  · refine v_aload_n 0 37 rfl dX9_count_36 rfl rfl ?_
    refine v_geti 40 rfl fl_X9_71 sc_40 rfl dX9_count_37 ?_
    exact v_iret rfl dX9_count_40
  refine v_tabc (1 : Int32) (off := 40) 41 dX9_count_1 (by decide +kernel) rfl (fun _ => ?_) (fun c2 => ?_)
  · refine v_aload_n 0 42 rfl dX9_count_41 rfl rfl ?_
    refine v_geti 45 rfl fl_X9_79 sc_40 rfl dX9_count_42 ?_
    exact v_iret rfl dX9_count_45
  refine v_tabc (2 : Int32) (off := 45) 46 dX9_count_1 (by decide +kernel) rfl (fun _ => ?_) (fun c3 => ?_)
  · refine v_aload_n 0 47 rfl dX9_count_46 rfl rfl ?_
    refine v_geti 50 rfl fl_X9_130 sc_40 rfl dX9_count_47 ?_
    exact v_iret rfl dX9_count_50
  refine v_tabc (3 : Int32) (off := 50) 51 dX9_count_1 (by decide +kernel) rfl (fun _ => ?_) (fun c4 => ?_)
  · refine v_aload_n 0 52 rfl dX9_count_51 rfl rfl ?_
    refine v_getr 55 rfl fl_X9_28 sc_40 rfl dX9_count_52 ?_
    refine v_bipush 57 rfl dX9_count_55 bp_19 ?_
    refine v_iald 58 rfl sc_47 dX9_count_57 (fun _ => ?_)
    exact v_iret rfl dX9_count_58
  refine v_tabc (4 : Int32) (off := 58) 59 dX9_count_1 (by decide +kernel) rfl (fun _ => ?_) (fun c5 => ?_)
  · refine v_aload_n 0 60 rfl dX9_count_59 rfl rfl ?_
    refine v_geti 63 rfl fl_X9_84 sc_40 rfl dX9_count_60 ?_
    exact v_iret rfl dX9_count_63
  refine v_tabd 64 dX9_count_1 (by have := lv_neT (a := 0) c1 rfl; have := lv_neT (a := 1) c2 rfl; have := lv_neT (a := 2) c3 rfl; have := lv_neT (a := 3) c4 rfl; have := lv_neT (a := 4) c5 rfl; omega) rfl ?_
  refine v_iconst 65 rfl dX9_count_64 ic_m1 ?_
  exact v_iret rfl dX9_count_65
-- TemperNursesModel.trace()J at 40
def f9_trace_40 (h : jv_H) : Option (Int64 × jv_H) := some ((h.2 40 14), h)
set_option maxRecDepth 20000 in
theorem e9_trace_40 {l : Launch} {d : Nat} (hd : 0 ≤ d) (h : jv_H) : jv_E l yX9_trace cX9_trace 1 (some .long) d (SC ++ SM) jv_rl [.ref 40] h (f9_trace_40  h) := by
  refine e_of [(0, .ref 40)] rfl pn_X9 (fun _ => Nat.le_of_ble_eq_true rfl) (fun _ => rfl) ?_
  unfold f9_trace_40
  refine v_aload_n 0 1 rfl dX9_trace_0 rfl rfl ?_
  refine v_getl 4 rfl fl_X9_221 sc_40 rfl dX9_trace_1 ?_
  exact v_lret rfl dX9_trace_4
