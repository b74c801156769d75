/-! the shapes: cells 0 .. 39: the class and what it holds, in the order in which they are made; 40 ..: the reference -/
def SC : List jv_S := [.inr (8, [.ref 1, .ref 9, .ref 20, .ref 22, .ref 23, .ref 28, .ref 31, .ref 34, .ref 35, .ref 37, .ref 39, .int 0]), .inr (2, [.int 0, .int 0, .ref 2, .ref 3, .ref 4, .ref 5, .ref 6, .ref 7, .ref 8]), .inl (false, 6), .inl (false, 6), .inl (false, 6), .inl (false, 6), .inl (false, 4), .inl (false, 4), .inl (false, 4), .inr (7, [.ref 10, .int 0, .ref 18, .int 0, .int 0, .int 0, .int 0, .int 0, .int 0, .ref 19]), .inr (2, [.int 0, .int 0, .ref 11, .ref 12, .ref 13, .ref 14, .ref 15, .ref 16, .ref 17]), .inl (false, 6), .inl (false, 6), .inl (false, 6), .inl (false, 6), .inl (false, 4), .inl (false, 4), .inl (false, 4), .inl (false, 120), .inl (false, 3), .inr (1, [.ref 21, .int 0]), .inl (false, 209), .inr (3, [.ref 1, .ref 20]), .inr (6, [.ref 22, .ref 24, .ref 25, .ref 26, .int 0, .ref 27, .int 0]), .inl (false, 6), .inl (false, 4), .inl (false, 24), .inl (false, 6), .inr (0, [.ref 22, .ref 29, .int 0, .ref 30, .int 0]), .inl (false, 6), .inl (false, 6), .inr (5, [.ref 22, .ref 32, .ref 33, .int 0]), .inl (false, 4), .inl (false, 4), .inr (4, [.ref 22, .long 0]), .inr (1, [.ref 36, .int 0]), .inl (false, 209), .inr (1, [.ref 38, .int 0]), .inl (false, 209), .inl (false, 7)]
def SM : List jv_S := [.inr (9, [.int 0, .int 0, .ref 41, .ref 42, .ref 43, .ref 44, .ref 45, .ref 46, .ref 47, .ref 48, .ref 49, .ref 50, .ref 51, .int 0, .long 0, .ref 52, .int 0, .int 0, .int 0, .int 0, .int 0, .int 0, .int 0, .ref 53, .ref 54, .ref 55, .ref 56, .ref 57, .ref 58, .ref 59, .ref 60]), .inl (false, 6), .inl (false, 6), .inl (false, 6), .inl (false, 4), .inl (false, 4), .inl (false, 4), .inl (false, 210), .inl (false, 420), .inl (true, 2), .inl (false, 4), .inl (false, 4), .inl (false, 120), .inl (false, 42), .inl (false, 3), .inl (false, 6), .inl (false, 6), .inl (false, 5), .inl (false, 30), .inl (false, 6), .inl (false, 6)]
theorem sc_0 {X : List jv_S} : (SC ++ X)[0]? = some (.inr (8, [.ref 1, .ref 9, .ref 20, .ref 22, .ref 23, .ref 28, .ref 31, .ref 34, .ref 35, .ref 37, .ref 39, .int 0])) := rfl
theorem sc_1 {X : List jv_S} : (SC ++ X)[1]? = some (.inr (2, [.int 0, .int 0, .ref 2, .ref 3, .ref 4, .ref 5, .ref 6, .ref 7, .ref 8])) := rfl
theorem sc_2 {X : List jv_S} : (SC ++ X)[2]? = some (.inl (false, 6)) := rfl
theorem sc_3 {X : List jv_S} : (SC ++ X)[3]? = some (.inl (false, 6)) := rfl
theorem sc_4 {X : List jv_S} : (SC ++ X)[4]? = some (.inl (false, 6)) := rfl
theorem sc_5 {X : List jv_S} : (SC ++ X)[5]? = some (.inl (false, 6)) := rfl
theorem sc_6 {X : List jv_S} : (SC ++ X)[6]? = some (.inl (false, 4)) := rfl
theorem sc_7 {X : List jv_S} : (SC ++ X)[7]? = some (.inl (false, 4)) := rfl
theorem sc_8 {X : List jv_S} : (SC ++ X)[8]? = some (.inl (false, 4)) := rfl
theorem sc_9 {X : List jv_S} : (SC ++ X)[9]? = some (.inr (7, [.ref 10, .int 0, .ref 18, .int 0, .int 0, .int 0, .int 0, .int 0, .int 0, .ref 19])) := rfl
theorem sc_10 {X : List jv_S} : (SC ++ X)[10]? = some (.inr (2, [.int 0, .int 0, .ref 11, .ref 12, .ref 13, .ref 14, .ref 15, .ref 16, .ref 17])) := rfl
theorem sc_11 {X : List jv_S} : (SC ++ X)[11]? = some (.inl (false, 6)) := rfl
theorem sc_12 {X : List jv_S} : (SC ++ X)[12]? = some (.inl (false, 6)) := rfl
theorem sc_13 {X : List jv_S} : (SC ++ X)[13]? = some (.inl (false, 6)) := rfl
theorem sc_14 {X : List jv_S} : (SC ++ X)[14]? = some (.inl (false, 6)) := rfl
theorem sc_15 {X : List jv_S} : (SC ++ X)[15]? = some (.inl (false, 4)) := rfl
theorem sc_16 {X : List jv_S} : (SC ++ X)[16]? = some (.inl (false, 4)) := rfl
theorem sc_17 {X : List jv_S} : (SC ++ X)[17]? = some (.inl (false, 4)) := rfl
theorem sc_18 {X : List jv_S} : (SC ++ X)[18]? = some (.inl (false, 120)) := rfl
theorem sc_19 {X : List jv_S} : (SC ++ X)[19]? = some (.inl (false, 3)) := rfl
theorem sc_20 {X : List jv_S} : (SC ++ X)[20]? = some (.inr (1, [.ref 21, .int 0])) := rfl
theorem sc_21 {X : List jv_S} : (SC ++ X)[21]? = some (.inl (false, 209)) := rfl
theorem sc_22 {X : List jv_S} : (SC ++ X)[22]? = some (.inr (3, [.ref 1, .ref 20])) := rfl
theorem sc_23 {X : List jv_S} : (SC ++ X)[23]? = some (.inr (6, [.ref 22, .ref 24, .ref 25, .ref 26, .int 0, .ref 27, .int 0])) := rfl
theorem sc_24 {X : List jv_S} : (SC ++ X)[24]? = some (.inl (false, 6)) := rfl
theorem sc_25 {X : List jv_S} : (SC ++ X)[25]? = some (.inl (false, 4)) := rfl
theorem sc_26 {X : List jv_S} : (SC ++ X)[26]? = some (.inl (false, 24)) := rfl
theorem sc_27 {X : List jv_S} : (SC ++ X)[27]? = some (.inl (false, 6)) := rfl
theorem sc_28 {X : List jv_S} : (SC ++ X)[28]? = some (.inr (0, [.ref 22, .ref 29, .int 0, .ref 30, .int 0])) := rfl
theorem sc_29 {X : List jv_S} : (SC ++ X)[29]? = some (.inl (false, 6)) := rfl
theorem sc_30 {X : List jv_S} : (SC ++ X)[30]? = some (.inl (false, 6)) := rfl
theorem sc_31 {X : List jv_S} : (SC ++ X)[31]? = some (.inr (5, [.ref 22, .ref 32, .ref 33, .int 0])) := rfl
theorem sc_32 {X : List jv_S} : (SC ++ X)[32]? = some (.inl (false, 4)) := rfl
theorem sc_33 {X : List jv_S} : (SC ++ X)[33]? = some (.inl (false, 4)) := rfl
theorem sc_34 {X : List jv_S} : (SC ++ X)[34]? = some (.inr (4, [.ref 22, .long 0])) := rfl
theorem sc_35 {X : List jv_S} : (SC ++ X)[35]? = some (.inr (1, [.ref 36, .int 0])) := rfl
theorem sc_36 {X : List jv_S} : (SC ++ X)[36]? = some (.inl (false, 209)) := rfl
theorem sc_37 {X : List jv_S} : (SC ++ X)[37]? = some (.inr (1, [.ref 38, .int 0])) := rfl
theorem sc_38 {X : List jv_S} : (SC ++ X)[38]? = some (.inl (false, 209)) := rfl
theorem sc_39 {X : List jv_S} : (SC ++ X)[39]? = some (.inl (false, 7)) := rfl
theorem sc_40 : (SC ++ SM)[40]? = some (.inr (9, [.int 0, .int 0, .ref 41, .ref 42, .ref 43, .ref 44, .ref 45, .ref 46, .ref 47, .ref 48, .ref 49, .ref 50, .ref 51, .int 0, .long 0, .ref 52, .int 0, .int 0, .int 0, .int 0, .int 0, .int 0, .int 0, .ref 53, .ref 54, .ref 55, .ref 56, .ref 57, .ref 58, .ref 59, .ref 60])) := rfl
theorem sc_41 : (SC ++ SM)[41]? = some (.inl (false, 6)) := rfl
theorem sc_42 : (SC ++ SM)[42]? = some (.inl (false, 6)) := rfl
theorem sc_43 : (SC ++ SM)[43]? = some (.inl (false, 6)) := rfl
theorem sc_44 : (SC ++ SM)[44]? = some (.inl (false, 4)) := rfl
theorem sc_45 : (SC ++ SM)[45]? = some (.inl (false, 4)) := rfl
theorem sc_46 : (SC ++ SM)[46]? = some (.inl (false, 4)) := rfl
theorem sc_47 : (SC ++ SM)[47]? = some (.inl (false, 210)) := rfl
theorem sc_48 : (SC ++ SM)[48]? = some (.inl (false, 420)) := rfl
theorem sc_49 : (SC ++ SM)[49]? = some (.inl (true, 2)) := rfl
theorem sc_50 : (SC ++ SM)[50]? = some (.inl (false, 4)) := rfl
theorem sc_51 : (SC ++ SM)[51]? = some (.inl (false, 4)) := rfl
theorem sc_52 : (SC ++ SM)[52]? = some (.inl (false, 120)) := rfl
theorem sc_53 : (SC ++ SM)[53]? = some (.inl (false, 42)) := rfl
theorem sc_54 : (SC ++ SM)[54]? = some (.inl (false, 3)) := rfl
theorem sc_55 : (SC ++ SM)[55]? = some (.inl (false, 6)) := rfl
theorem sc_56 : (SC ++ SM)[56]? = some (.inl (false, 6)) := rfl
theorem sc_57 : (SC ++ SM)[57]? = some (.inl (false, 5)) := rfl
theorem sc_58 : (SC ++ SM)[58]? = some (.inl (false, 30)) := rfl
theorem sc_59 : (SC ++ SM)[59]? = some (.inl (false, 6)) := rfl
theorem sc_60 : (SC ++ SM)[60]? = some (.inl (false, 6)) := rfl
theorem pn_X0 : plainName RX0 = true := by decide +kernel
theorem pn_X1 : plainName RX1 = true := by decide +kernel
theorem pn_X2 : plainName RX2 = true := by decide +kernel
theorem pn_X3 : plainName RX3 = true := by decide +kernel
theorem pn_X4 : plainName RX4 = true := by decide +kernel
theorem pn_X5 : plainName RX5 = true := by decide +kernel
theorem pn_X6 : plainName RX6 = true := by decide +kernel
theorem pn_X7 : plainName RX7 = true := by decide +kernel
theorem pn_X8 : plainName RX8 = true := by decide +kernel
theorem pn_X9 : plainName RX9 = true := by decide +kernel
theorem pn_J6 : plainName RJ6 = true := by decide +kernel
theorem pn_J10 : plainName RJ10 = true := by decide +kernel
theorem pn_J7 : plainName RJ7 = true := by decide +kernel
theorem cn_X0 : vwCl[0]?.map (fun q => q.1) = some RX0 := rfl
theorem cn_X1 : vwCl[1]?.map (fun q => q.1) = some RX1 := rfl
theorem cn_X2 : vwCl[2]?.map (fun q => q.1) = some RX2 := rfl
theorem cn_X3 : vwCl[3]?.map (fun q => q.1) = some RX3 := rfl
theorem cn_X4 : vwCl[4]?.map (fun q => q.1) = some RX4 := rfl
theorem cn_X5 : vwCl[5]?.map (fun q => q.1) = some RX5 := rfl
theorem cn_X6 : vwCl[6]?.map (fun q => q.1) = some RX6 := rfl
theorem cn_X7 : vwCl[7]?.map (fun q => q.1) = some RX7 := rfl
theorem cn_X8 : vwCl[8]?.map (fun q => q.1) = some RX8 := rfl
theorem cn_X9 : vwCl[9]?.map (fun q => q.1) = some RX9 := rfl
theorem ic_m1 : Int32.ofInt (-1) = (-1 : Int32) := by decide
theorem ic_0 : Int32.ofInt (0) = (0 : Int32) := by decide
theorem ic_1 : Int32.ofInt (1) = (1 : Int32) := by decide
theorem ic_2 : Int32.ofInt (2) = (2 : Int32) := by decide
theorem ic_3 : Int32.ofInt (3) = (3 : Int32) := by decide
theorem ic_4 : Int32.ofInt (4) = (4 : Int32) := by decide
theorem ic_5 : Int32.ofInt (5) = (5 : Int32) := by decide
theorem bp_m10 : (Int8.ofInt (-10)).toInt32 = (-10 : Int32) := by decide
theorem bp_m9 : (Int8.ofInt (-9)).toInt32 = (-9 : Int32) := by decide
theorem bp_m3 : (Int8.ofInt (-3)).toInt32 = (-3 : Int32) := by decide
theorem bp_m2 : (Int8.ofInt (-2)).toInt32 = (-2 : Int32) := by decide
theorem bp_6 : (Int8.ofInt (6)).toInt32 = (6 : Int32) := by decide
theorem bp_7 : (Int8.ofInt (7)).toInt32 = (7 : Int32) := by decide
theorem bp_8 : (Int8.ofInt (8)).toInt32 = (8 : Int32) := by decide
theorem bp_9 : (Int8.ofInt (9)).toInt32 = (9 : Int32) := by decide
theorem bp_10 : (Int8.ofInt (10)).toInt32 = (10 : Int32) := by decide
theorem bp_13 : (Int8.ofInt (13)).toInt32 = (13 : Int32) := by decide
theorem bp_16 : (Int8.ofInt (16)).toInt32 = (16 : Int32) := by decide
theorem bp_19 : (Int8.ofInt (19)).toInt32 = (19 : Int32) := by decide
theorem bp_20 : (Int8.ofInt (20)).toInt32 = (20 : Int32) := by decide
theorem bp_24 : (Int8.ofInt (24)).toInt32 = (24 : Int32) := by decide
theorem bp_25 : (Int8.ofInt (25)).toInt32 = (25 : Int32) := by decide
theorem bp_26 : (Int8.ofInt (26)).toInt32 = (26 : Int32) := by decide
theorem bp_30 : (Int8.ofInt (30)).toInt32 = (30 : Int32) := by decide
theorem bp_31 : (Int8.ofInt (31)).toInt32 = (31 : Int32) := by decide
theorem bp_32 : (Int8.ofInt (32)).toInt32 = (32 : Int32) := by decide
theorem bp_39 : (Int8.ofInt (39)).toInt32 = (39 : Int32) := by decide
theorem bp_40 : (Int8.ofInt (40)).toInt32 = (40 : Int32) := by decide
theorem bp_42 : (Int8.ofInt (42)).toInt32 = (42 : Int32) := by decide
theorem bp_48 : (Int8.ofInt (48)).toInt32 = (48 : Int32) := by decide
theorem bp_50 : (Int8.ofInt (50)).toInt32 = (50 : Int32) := by decide
theorem bp_57 : (Int8.ofInt (57)).toInt32 = (57 : Int32) := by decide
theorem bp_59 : (Int8.ofInt (59)).toInt32 = (59 : Int32) := by decide
theorem bp_60 : (Int8.ofInt (60)).toInt32 = (60 : Int32) := by decide
theorem bp_63 : (Int8.ofInt (63)).toInt32 = (63 : Int32) := by decide
theorem bp_64 : (Int8.ofInt (64)).toInt32 = (64 : Int32) := by decide
theorem bp_97 : (Int8.ofInt (97)).toInt32 = (97 : Int32) := by decide
theorem bp_99 : (Int8.ofInt (99)).toInt32 = (99 : Int32) := by decide
theorem bp_100 : (Int8.ofInt (100)).toInt32 = (100 : Int32) := by decide
theorem bp_110 : (Int8.ofInt (110)).toInt32 = (110 : Int32) := by decide
theorem bp_116 : (Int8.ofInt (116)).toInt32 = (116 : Int32) := by decide
theorem bp_119 : (Int8.ofInt (119)).toInt32 = (119 : Int32) := by decide
theorem bp_120 : (Int8.ofInt (120)).toInt32 = (120 : Int32) := by decide
theorem bp_122 : (Int8.ofInt (122)).toInt32 = (122 : Int32) := by decide
theorem sp_171 : (Int16.ofInt (171)).toInt32 = (171 : Int32) := by decide
theorem sp_190 : (Int16.ofInt (190)).toInt32 = (190 : Int32) := by decide
theorem sp_198 : (Int16.ofInt (198)).toInt32 = (198 : Int32) := by decide
theorem sp_209 : (Int16.ofInt (209)).toInt32 = (209 : Int32) := by decide
theorem sp_210 : (Int16.ofInt (210)).toInt32 = (210 : Int32) := by decide
theorem sp_255 : (Int16.ofInt (255)).toInt32 = (255 : Int32) := by decide
theorem sp_420 : (Int16.ofInt (420)).toInt32 = (420 : Int32) := by decide
theorem v_zr0 {l : Launch} {own : String} {cc : ByteArray} {nL : Nat} {d : Nat} {S : List jv_S} {pc : Nat} {lv : List (Nat × Value)} {h : jv_H} (hd : decode cc pc = .ok (.ireturn, 1)) : jv_V l own cc nL (some .boolean) d S jv_ri pc lv [.int 0] h (some (0, h)) := v_zret (inst := inferInstance) rfl hd
theorem v_zr1 {l : Launch} {own : String} {cc : ByteArray} {nL : Nat} {d : Nat} {S : List jv_S} {pc : Nat} {lv : List (Nat × Value)} {h : jv_H} (hd : decode cc pc = .ok (.ireturn, 1)) : jv_V l own cc nL (some .boolean) d S jv_ri pc lv [.int 1] h (some (1, h)) := v_zret (inst := inferInstance) rfl hd
