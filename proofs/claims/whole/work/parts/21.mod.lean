-- TemperNursesModel.in(JJJ)Z
def f9_in (a0 : Int64) (a2 : Int64) (a4 : Int64) (h : jv_H) : Option (Int32 × jv_H) := if (lg_cmp a0 a2) < 0 then some ((0 : Int32), h) else if 0 < (lg_cmp a0 a4) then some ((0 : Int32), h) else some ((1 : Int32), h)
set_option maxRecDepth 20000 in
theorem e9_in {l : Launch} {d : Nat} (hd : 0 ≤ d) (a0 : Int64) (a2 : Int64) (a4 : Int64) (h : jv_H) : jv_E l yX9_in cX9_in 6 (some .boolean) d (SC ++ SM) jv_ri [.long a0, .long a2, .long a4] h (f9_in a0 a2 a4 h) := by
  refine e_of [(0, .long a0), (2, .long a2), (4, .long a4)] rfl pn_X9 (fun _ => Nat.le_of_ble_eq_true rfl) (fun _ => rfl) ?_
  unfold f9_in
  refine v_lload_n 0 1 rfl dX9_in_0 rfl rfl ?_
  refine v_lload_n 1 2 rfl dX9_in_1 rfl rfl ?_
  refine v_lcmp 3 rfl dX9_in_2 ?_
  refine v_if_lt 17 6 rfl rfl dX9_in_3 (fun _ => ?_) (fun _ => ?_)
  · refine v_iconst 18 rfl dX9_in_17 ic_0 ?_
    exact v_zr0 dX9_in_18
  · refine v_lload_n 0 7 rfl dX9_in_6 rfl rfl ?_
    refine v_lload 2 9 rfl dX9_in_7 rfl ?_
    refine v_lcmp 10 rfl dX9_in_9 ?_
    refine v_if_gt 17 13 rfl rfl dX9_in_10 (fun _ => ?_) (fun _ => ?_)
    · refine v_iconst 18 rfl dX9_in_17 ic_0 ?_
      exact v_zr0 dX9_in_18
    · refine v_iconst 14 rfl dX9_in_13 ic_1 ?_
      refine v_goto 18 rfl dX9_in_14 ?_
      exact v_zr1 dX9_in_18
-- TemperNursesModel.type(I)I at 40
def f9_type_40 (a1 : Int32) (h : jv_H) : Option (Int32 × jv_H) := (f9_in (Int32.toInt64 a1) (0 : Int64) (255 : Int64) h).bind fun q1 => if q1.1 = 0 then some ((-1 : Int32), q1.2) else if (q1.2.1 40 16) = (120 : Int32) then some ((-3 : Int32), q1.2) else if jv_ix (q1.2.1 40 16) 120 then jv_let (jv_p q1.2 52 (Int32.toNatClampNeg (q1.2.1 40 16)) a1) fun h2 => jv_let (jv_p h2 40 16 ((h2.1 40 16) + (1 : Int32))) fun h3 => some ((h3.1 40 16), h3) else none
set_option maxRecDepth 20000 in
theorem e9_type_40 {l : Launch} {d : Nat} (hd : 1 ≤ d) (a1 : Int32) (h : jv_H) : jv_E l yX9_type cX9_type 2 (some .int) d (SC ++ SM) jv_ri [.ref 40, .int a1] h (f9_type_40 a1 h) := by
  refine e_of [(0, .ref 40), (1, .int a1)] rfl pn_X9 (fun _ => Nat.le_of_ble_eq_true rfl) (fun _ => rfl) ?_
  unfold f9_type_40
  refine v_iload_n 1 1 rfl dX9_type_0 rfl rfl ?_
  refine v_i2l 2 rfl dX9_type_1 ?_
  refine v_lconst (v := (0 : Int64)) 3 rfl dX9_type_2 rfl ?_
  refine v_ldc2 6 rfl mw_913 dX9_type_3 ?_
  refine n_calls [.long (Int32.toInt64 a1), .long (0 : Int64), .long (255 : Int64)] [] (fun r => .int r :: []) 9 rfl (by omega) (Nat.le_of_ble_eq_true rfl) cb_X9_in cs_X9_75 rfl (Nat.le_of_ble_eq_true rfl) dX9_type_6 rfl (fun _ => rfl) (e9_in (by omega) (Int32.toInt64 a1) (0 : Int64) (255 : Int64) h) (fun q1 => ?_)
  refine v_if_ne 14 12 rfl rfl dX9_type_9 (fun _ => ?_) (fun _ => ?_)
  · refine v_aload_n 0 15 rfl dX9_type_14 rfl rfl ?_
    refine v_geti 18 rfl fl_X9_84 sc_40 rfl dX9_type_15 ?_
    refine v_bipush 20 rfl dX9_type_18 bp_120 ?_
    refine v_icmp_ne 26 23 rfl rfl dX9_type_20 (fun _ => ?_) (fun _ => ?_)
    · refine v_aload_n 0 27 rfl dX9_type_26 rfl rfl ?_
      refine v_getr 30 rfl fl_X9_44 sc_40 rfl dX9_type_27 ?_
      refine v_aload_n 0 31 rfl dX9_type_30 rfl rfl ?_
      refine v_geti 34 rfl fl_X9_84 sc_40 rfl dX9_type_31 ?_
      refine v_iload_n 1 35 rfl dX9_type_34 rfl rfl ?_
      refine n_iast 36 rfl sc_52 dX9_type_35 (fun h2 => ?_)
      refine v_aload_n 0 37 rfl dX9_type_36 rfl rfl ?_
      refine v_dupr 38 rfl dX9_type_37 ?_
      refine v_geti 41 rfl fl_X9_84 sc_40 rfl dX9_type_38 ?_
      refine v_iconst 42 rfl dX9_type_41 ic_1 ?_
      refine v_iadd 43 rfl dX9_type_42 ?_
      refine n_puti 46 rfl fl_X9_84 sc_40 rfl dX9_type_43 (fun h3 => ?_)
      refine v_aload_n 0 47 rfl dX9_type_46 rfl rfl ?_
      refine v_geti 50 rfl fl_X9_84 sc_40 rfl dX9_type_47 ?_
      exact v_iret rfl dX9_type_50
    · refine v_bipush 25 rfl dX9_type_23 bp_m3 ?_
      exact v_iret rfl dX9_type_25
  · refine v_iconst 13 rfl dX9_type_12 ic_m1 ?_
    exact v_iret rfl dX9_type_13
-- TemperNursesModel.clear()I at 40
def f9_clear_40 (h : jv_H) : Option (Int32 × jv_H) := jv_let (h.1 40 16) fun x1 => jv_let (jv_p h 40 16 (0 : Int32)) fun h2 => some (x1, h2)
set_option maxRecDepth 20000 in
theorem e9_clear_40 {l : Launch} {d : Nat} (hd : 0 ≤ d) (h : jv_H) : jv_E l yX9_clear cX9_clear 2 (some .int) d (SC ++ SM) jv_ri [.ref 40] h (f9_clear_40  h) := by
  refine e_of [(0, .ref 40)] rfl pn_X9 (fun _ => Nat.le_of_ble_eq_true rfl) (fun _ => rfl) ?_
  unfold f9_clear_40
  refine v_aload_n 0 1 rfl dX9_clear_0 rfl rfl ?_
  refine v_geti 4 rfl fl_X9_84 sc_40 rfl dX9_clear_1 ?_
  refine n_istore_n (fun x1 => [(0, .ref 40), (1, .int x1)]) 5 rfl dX9_clear_4 rfl (Nat.le_of_ble_eq_true rfl) rfl (fun _ => rfl) (fun x1 => ?_)
  refine v_aload_n 0 6 rfl dX9_clear_5 rfl rfl ?_
  refine v_iconst 7 rfl dX9_clear_6 ic_0 ?_
  refine n_puti 10 rfl fl_X9_84 sc_40 rfl dX9_clear_7 (fun h2 => ?_)
  refine v_iload_n 1 11 rfl dX9_clear_10 rfl rfl ?_
  exact v_iret rfl dX9_clear_11
-- TemperNursesModel.isBetween(III)Z at 40
def f9_isBetween_40 (a1 : Int32) (a2 : Int32) (a3 : Int32) (h : jv_H) : Option (Int32 × jv_H) := if (h.1 40 16) ≤ a1 then some ((0 : Int32), h) else if jv_ix a1 120 then if (h.1 52 (Int32.toNatClampNeg a1)) < a2 then some ((0 : Int32), h) else if jv_ix a1 120 then if a3 < (h.1 52 (Int32.toNatClampNeg a1)) then some ((0 : Int32), h) else some ((1 : Int32), h) else none else none
set_option maxRecDepth 20000 in
theorem e9_isBetween_40 {l : Launch} {d : Nat} (hd : 0 ≤ d) (a1 : Int32) (a2 : Int32) (a3 : Int32) (h : jv_H) : jv_E l yX9_isBetween cX9_isBetween 4 (some .boolean) d (SC ++ SM) jv_ri [.ref 40, .int a1, .int a2, .int a3] h (f9_isBetween_40 a1 a2 a3 h) := by
  refine e_of [(0, .ref 40), (1, .int a1), (2, .int a2), (3, .int a3)] rfl pn_X9 (fun _ => Nat.le_of_ble_eq_true rfl) (fun _ => rfl) ?_
  unfold f9_isBetween_40
  refine v_iload_n 1 1 rfl dX9_isBetween_0 rfl rfl ?_
  refine v_aload_n 0 2 rfl dX9_isBetween_1 rfl rfl ?_
  refine v_geti 5 rfl fl_X9_84 sc_40 rfl dX9_isBetween_2 ?_
  refine v_icmp_ge 32 8 rfl rfl dX9_isBetween_5 (fun _ => ?_) (fun _ => ?_)
  · refine v_iconst 33 rfl dX9_isBetween_32 ic_0 ?_
    exact v_zr0 dX9_isBetween_33
  · refine v_aload_n 0 9 rfl dX9_isBetween_8 rfl rfl ?_
    refine v_getr 12 rfl fl_X9_44 sc_40 rfl dX9_isBetween_9 ?_
    refine v_iload_n 1 13 rfl dX9_isBetween_12 rfl rfl ?_
    refine v_iald 14 rfl sc_52 dX9_isBetween_13 (fun _ => ?_)
    refine v_iload_n 2 15 rfl dX9_isBetween_14 rfl rfl ?_
    refine v_icmp_lt 32 18 rfl rfl dX9_isBetween_15 (fun _ => ?_) (fun _ => ?_)
    · refine v_iconst 33 rfl dX9_isBetween_32 ic_0 ?_
      exact v_zr0 dX9_isBetween_33
    · refine v_aload_n 0 19 rfl dX9_isBetween_18 rfl rfl ?_
      refine v_getr 22 rfl fl_X9_44 sc_40 rfl dX9_isBetween_19 ?_
      refine v_iload_n 1 23 rfl dX9_isBetween_22 rfl rfl ?_
      refine v_iald 24 rfl sc_52 dX9_isBetween_23 (fun _ => ?_)
      refine v_iload_n 3 25 rfl dX9_isBetween_24 rfl rfl ?_
      refine v_icmp_gt 32 28 rfl rfl dX9_isBetween_25 (fun _ => ?_) (fun _ => ?_)
      · refine v_iconst 33 rfl dX9_isBetween_32 ic_0 ?_
        exact v_zr0 dX9_isBetween_33
      · refine v_iconst 29 rfl dX9_isBetween_28 ic_1 ?_
        refine v_goto 33 rfl dX9_isBetween_29 ?_
        exact v_zr1 dX9_isBetween_33
-- TemperNursesModel.lookAt(I)V at 40
def g9_lookAt_40_b154 (k108 : jv_H → Option (Unit × jv_H)) (h : jv_H) : Option (Unit × jv_H) := jv_let (jv_p h 40 19 ((h.1 40 19) + (1 : Int32))) fun h1 => k108 h1
set_option maxRecDepth 20000 in
theorem b9_lookAt_40_b154 {l : Launch} {d : Nat} (hd : 1 ≤ d) (k108 : jv_H → Option (Unit × jv_H)) (hk108 : ∀ (h : jv_H), jv_V l RX9 cX9_lookAt 4 none d (SC ++ SM) jv_rv 108 [(0, .ref 40)] [] h (k108 h)) : ∀ (h : jv_H), jv_V l RX9 cX9_lookAt 4 none d (SC ++ SM) jv_rv 154 [(0, .ref 40)] [] h (g9_lookAt_40_b154 k108 h) := by
  intro  h
  unfold g9_lookAt_40_b154
  refine v_aload_n 0 155 rfl dX9_lookAt_154 rfl rfl ?_
  refine v_dupr 156 rfl dX9_lookAt_155 ?_
  refine v_geti 159 rfl fl_X9_100 sc_40 rfl dX9_lookAt_156 ?_
  refine v_iconst 160 rfl dX9_lookAt_159 ic_1 ?_
  refine v_iadd 161 rfl dX9_lookAt_160 ?_
  refine n_puti 164 rfl fl_X9_100 sc_40 rfl dX9_lookAt_161 (fun h1 => ?_)
  refine v_goto 108 rfl dX9_lookAt_164 ?_
  exact hk108 h1
def g9_lookAt_40_b222 (k172 : Int32 → jv_H → Option (Unit × jv_H)) (a3 : Int32) (s1 : Int32) (h : jv_H) : Option (Unit × jv_H) := jv_let (jv_p h 40 20 s1) fun h1 => jv_let (a3 + (1 : Int32)) fun x2 => k172 x2 h1
set_option maxRecDepth 20000 in
theorem b9_lookAt_40_b222 {l : Launch} {d : Nat} (hd : 1 ≤ d) (k172 : Int32 → jv_H → Option (Unit × jv_H)) (hk172 : ∀ (a3 : Int32) (h : jv_H), jv_V l RX9 cX9_lookAt 4 none d (SC ++ SM) jv_rv 172 [(0, .ref 40), (3, .int a3)] [] h (k172 a3 h)) : ∀ (a3 : Int32) (s1 : Int32) (h : jv_H), jv_V l RX9 cX9_lookAt 4 none d (SC ++ SM) jv_rv 222 [(0, .ref 40), (3, .int a3)] [.int s1, .ref 40] h (g9_lookAt_40_b222 k172 a3 s1 h) := by
  intro a3 s1 h
  unfold g9_lookAt_40_b222
  refine n_puti 225 rfl fl_X9_90 sc_40 rfl dX9_lookAt_222 (fun h1 => ?_)
  refine n_iinc (fun x2 => [(0, .ref 40), (3, .int x2)]) 1 228 rfl dX9_lookAt_225 rfl ic_1 (Nat.le_of_ble_eq_true rfl) rfl (fun _ => rfl) (fun x2 => ?_)
  refine v_goto 172 rfl dX9_lookAt_228 ?_
  exact hk172 x2 h1
def g9_lookAt_40_b231 (h : jv_H) : Option (Unit × jv_H) := if (h.1 40 17) = (2 : Int32) then if (99 : Int32) < (h.1 40 20) then jv_let (jv_p h 40 17 (4 : Int32)) fun h1 => some ((), h1) else if ((h.1 40 19) - (h.1 40 18)) ≤ (1 : Int32) then some ((), h) else if jv_ix (h.1 40 18) 120 then if (h.1 52 (Int32.toNatClampNeg (h.1 40 18))) = (48 : Int32) then jv_let (jv_p h 40 17 (4 : Int32)) fun h2 => some ((), h2) else some ((), h) else none else some ((), h)
set_option maxRecDepth 20000 in
theorem b9_lookAt_40_b231 {l : Launch} {d : Nat} (hd : 1 ≤ d) : ∀ (h : jv_H), jv_V l RX9 cX9_lookAt 4 none d (SC ++ SM) jv_rv 231 [(0, .ref 40)] [] h (g9_lookAt_40_b231 h) := by
  intro  h
  unfold g9_lookAt_40_b231
  refine v_aload_n 0 232 rfl dX9_lookAt_231 rfl rfl ?_
  refine v_geti 235 rfl fl_X9_97 sc_40 rfl dX9_lookAt_232 ?_
  refine v_iconst 236 rfl dX9_lookAt_235 ic_2 ?_
  refine v_icmp_ne 280 239 rfl rfl dX9_lookAt_236 (fun _ => ?_) (fun _ => ?_)
  · exact v_vret rfl dX9_lookAt_280
  · refine v_aload_n 0 240 rfl dX9_lookAt_239 rfl rfl ?_
    refine v_geti 243 rfl fl_X9_90 sc_40 rfl dX9_lookAt_240 ?_
    refine v_bipush 245 rfl dX9_lookAt_243 bp_99 ?_
    refine v_icmp_gt 275 248 rfl rfl dX9_lookAt_245 (fun _ => ?_) (fun _ => ?_)
    · refine v_aload_n 0 276 rfl dX9_lookAt_275 rfl rfl ?_
      refine v_iconst 277 rfl dX9_lookAt_276 ic_4 ?_
      refine n_puti 280 rfl fl_X9_97 sc_40 rfl dX9_lookAt_277 (fun h1 => ?_)
      exact v_vret rfl dX9_lookAt_280
    · refine v_aload_n 0 249 rfl dX9_lookAt_248 rfl rfl ?_
      refine v_geti 252 rfl fl_X9_100 sc_40 rfl dX9_lookAt_249 ?_
      refine v_aload_n 0 253 rfl dX9_lookAt_252 rfl rfl ?_
      refine v_geti 256 rfl fl_X9_87 sc_40 rfl dX9_lookAt_253 ?_
      refine v_isub 257 rfl dX9_lookAt_256 ?_
      refine v_iconst 258 rfl dX9_lookAt_257 ic_1 ?_
      refine v_icmp_le 280 261 rfl rfl dX9_lookAt_258 (fun _ => ?_) (fun _ => ?_)
      · exact v_vret rfl dX9_lookAt_280
      · refine v_aload_n 0 262 rfl dX9_lookAt_261 rfl rfl ?_
        refine v_getr 265 rfl fl_X9_44 sc_40 rfl dX9_lookAt_262 ?_
        refine v_aload_n 0 266 rfl dX9_lookAt_265 rfl rfl ?_
        refine v_geti 269 rfl fl_X9_87 sc_40 rfl dX9_lookAt_266 ?_
        refine v_iald 270 rfl sc_52 dX9_lookAt_269 (fun _ => ?_)
        refine v_bipush 272 rfl dX9_lookAt_270 bp_48 ?_
        refine v_icmp_ne 280 275 rfl rfl dX9_lookAt_272 (fun _ => ?_) (fun _ => ?_)
        · exact v_vret rfl dX9_lookAt_280
        · refine v_aload_n 0 276 rfl dX9_lookAt_275 rfl rfl ?_
          refine v_iconst 277 rfl dX9_lookAt_276 ic_4 ?_
          refine n_puti 280 rfl fl_X9_97 sc_40 rfl dX9_lookAt_277 (fun h2 => ?_)
          exact v_vret rfl dX9_lookAt_280
def g9_lookAt_40_b172 (k172 : Int32 → jv_H → Option (Unit × jv_H)) (a3 : Int32) (h : jv_H) : Option (Unit × jv_H) := if (h.1 40 19) ≤ a3 then g9_lookAt_40_b231 h else if (h.1 40 17) = (2 : Int32) then if (h.1 40 20) ≤ (99 : Int32) then if jv_ix a3 120 then g9_lookAt_40_b222 k172 a3 ((((10 : Int32) * (h.1 40 20)) + (h.1 52 (Int32.toNatClampNeg a3))) - (48 : Int32)) h else none else g9_lookAt_40_b222 k172 a3 (h.1 40 20) h else g9_lookAt_40_b231 h
set_option maxRecDepth 20000 in
theorem b9_lookAt_40_b172 {l : Launch} {d : Nat} (hd : 1 ≤ d) (k172 : Int32 → jv_H → Option (Unit × jv_H)) (hk172 : ∀ (a3 : Int32) (h : jv_H), jv_V l RX9 cX9_lookAt 4 none d (SC ++ SM) jv_rv 172 [(0, .ref 40), (3, .int a3)] [] h (k172 a3 h)) : ∀ (a3 : Int32) (h : jv_H), jv_V l RX9 cX9_lookAt 4 none d (SC ++ SM) jv_rv 172 [(0, .ref 40), (3, .int a3)] [] h (g9_lookAt_40_b172 k172 a3 h) := by
  intro a3 h
  unfold g9_lookAt_40_b172
  refine v_iload_n 1 173 rfl dX9_lookAt_172 rfl rfl ?_
  refine v_aload_n 0 174 rfl dX9_lookAt_173 rfl rfl ?_
  refine v_geti 177 rfl fl_X9_100 sc_40 rfl dX9_lookAt_174 ?_
  refine v_icmp_ge 231 180 rfl rfl dX9_lookAt_177 (fun _ => ?_) (fun _ => ?_)
  · refine v_sub [0] rfl ?_
    exact b9_lookAt_40_b231 hd h
  · refine v_aload_n 0 181 rfl dX9_lookAt_180 rfl rfl ?_
    refine v_geti 184 rfl fl_X9_97 sc_40 rfl dX9_lookAt_181 ?_
    refine v_iconst 185 rfl dX9_lookAt_184 ic_2 ?_
    refine v_icmp_ne 231 188 rfl rfl dX9_lookAt_185 (fun _ => ?_) (fun _ => ?_)
    · refine v_sub [0] rfl ?_
      exact b9_lookAt_40_b231 hd h
    · refine v_aload_n 0 189 rfl dX9_lookAt_188 rfl rfl ?_
      refine v_aload_n 0 190 rfl dX9_lookAt_189 rfl rfl ?_
      refine v_geti 193 rfl fl_X9_90 sc_40 rfl dX9_lookAt_190 ?_
      refine v_bipush 195 rfl dX9_lookAt_193 bp_99 ?_
      refine v_icmp_le 205 198 rfl rfl dX9_lookAt_195 (fun _ => ?_) (fun _ => ?_)
      · refine v_bipush 207 rfl dX9_lookAt_205 bp_10 ?_
        refine v_aload_n 0 208 rfl dX9_lookAt_207 rfl rfl ?_
        refine v_geti 211 rfl fl_X9_90 sc_40 rfl dX9_lookAt_208 ?_
        refine v_imul 212 rfl dX9_lookAt_211 ?_
        refine v_aload_n 0 213 rfl dX9_lookAt_212 rfl rfl ?_
        refine v_getr 216 rfl fl_X9_44 sc_40 rfl dX9_lookAt_213 ?_
        refine v_iload_n 1 217 rfl dX9_lookAt_216 rfl rfl ?_
        refine v_iald 218 rfl sc_52 dX9_lookAt_217 (fun _ => ?_)
        refine v_iadd 219 rfl dX9_lookAt_218 ?_
        refine v_bipush 221 rfl dX9_lookAt_219 bp_48 ?_
        refine v_isub 222 rfl dX9_lookAt_221 ?_
        exact b9_lookAt_40_b222 hd k172 hk172 a3 ((((10 : Int32) * (h.1 40 20)) + (h.1 52 (Int32.toNatClampNeg a3))) - (48 : Int32)) h
      · refine v_aload_n 0 199 rfl dX9_lookAt_198 rfl rfl ?_
        refine v_geti 202 rfl fl_X9_90 sc_40 rfl dX9_lookAt_199 ?_
        refine v_goto 222 rfl dX9_lookAt_202 ?_
        exact b9_lookAt_40_b222 hd k172 hk172 a3 (h.1 40 20) h
def f9_lookAt_40_l172 : Nat → Int32 → jv_H → Option (Unit × jv_H)
  | 0 => fun _ _ => none
  | n + 1 => fun a3 h => g9_lookAt_40_b172 (f9_lookAt_40_l172 n) a3 h
theorem w9_lookAt_40_l172 {l : Launch} {d : Nat} (hd : 1 ≤ d) : ∀ (n : Nat) (a3 : Int32) (h : jv_H), jv_V l RX9 cX9_lookAt 4 none d (SC ++ SM) jv_rv 172 [(0, .ref 40), (3, .int a3)] [] h (f9_lookAt_40_l172 n a3 h) := by
  intro n
  induction n with
  | zero => intro a3 h; exact v_none
  | succ n ih => intro a3 h; exact b9_lookAt_40_b172 hd (f9_lookAt_40_l172 n) ih a3 h
def g9_lookAt_40_b167 (h : jv_H) : Option (Unit × jv_H) := jv_let (h.1 40 18) fun x1 => f9_lookAt_40_l172 jv_fuel x1 h
set_option maxRecDepth 20000 in
theorem b9_lookAt_40_b167 {l : Launch} {d : Nat} (hd : 1 ≤ d) : ∀ (h : jv_H), jv_V l RX9 cX9_lookAt 4 none d (SC ++ SM) jv_rv 167 [(0, .ref 40)] [] h (g9_lookAt_40_b167 h) := by
  intro  h
  unfold g9_lookAt_40_b167
  refine v_aload_n 0 168 rfl dX9_lookAt_167 rfl rfl ?_
  refine v_geti 171 rfl fl_X9_87 sc_40 rfl dX9_lookAt_168 ?_
  refine n_istore_n (fun x1 => [(0, .ref 40), (3, .int x1)]) 172 rfl dX9_lookAt_171 rfl (Nat.le_of_ble_eq_true rfl) rfl (fun _ => rfl) (fun x1 => ?_)
  exact w9_lookAt_40_l172 hd jv_fuel x1 h
def g9_lookAt_40_b131 (k108 : jv_H → Option (Unit × jv_H)) (h : jv_H) : Option (Unit × jv_H) := if (h.1 40 17) = (2 : Int32) then (f9_isBetween_40 (h.1 40 19) (48 : Int32) (57 : Int32) h).bind fun q1 => if q1.1 = 0 then g9_lookAt_40_b167 q1.2 else g9_lookAt_40_b154 k108 q1.2 else g9_lookAt_40_b167 h
set_option maxRecDepth 20000 in
theorem b9_lookAt_40_b131 {l : Launch} {d : Nat} (hd : 1 ≤ d) (k108 : jv_H → Option (Unit × jv_H)) (hk108 : ∀ (h : jv_H), jv_V l RX9 cX9_lookAt 4 none d (SC ++ SM) jv_rv 108 [(0, .ref 40)] [] h (k108 h)) : ∀ (h : jv_H), jv_V l RX9 cX9_lookAt 4 none d (SC ++ SM) jv_rv 131 [(0, .ref 40)] [] h (g9_lookAt_40_b131 k108 h) := by
  intro  h
  unfold g9_lookAt_40_b131
  refine v_aload_n 0 132 rfl dX9_lookAt_131 rfl rfl ?_
  refine v_geti 135 rfl fl_X9_97 sc_40 rfl dX9_lookAt_132 ?_
  refine v_iconst 136 rfl dX9_lookAt_135 ic_2 ?_
  refine v_icmp_ne 167 139 rfl rfl dX9_lookAt_136 (fun _ => ?_) (fun _ => ?_)
  · exact b9_lookAt_40_b167 hd h
  · refine v_aload_n 0 140 rfl dX9_lookAt_139 rfl rfl ?_
    refine v_aload_n 0 141 rfl dX9_lookAt_140 rfl rfl ?_
    refine v_geti 144 rfl fl_X9_100 sc_40 rfl dX9_lookAt_141 ?_
    refine v_bipush 146 rfl dX9_lookAt_144 bp_48 ?_
    refine v_bipush 148 rfl dX9_lookAt_146 bp_57 ?_
    refine n_callv [.int (h.1 40 19), .int (48 : Int32), .int (57 : Int32)] [] (fun r => .int r :: []) 151 rfl (by omega) (Nat.le_of_ble_eq_true rfl) cb_X9_isBetween cv_X9_93 sc_40 cn_X9 rfl (Nat.le_of_ble_eq_true rfl) dX9_lookAt_148 rfl (fun _ => rfl) (e9_isBetween_40 (by omega) (h.1 40 19) (48 : Int32) (57 : Int32) h) (fun q1 => ?_)
    refine v_if_eq 167 154 rfl rfl dX9_lookAt_151 (fun _ => ?_) (fun _ => ?_)
    · exact b9_lookAt_40_b167 hd q1.2
    · exact b9_lookAt_40_b154 hd k108 hk108 q1.2
def g9_lookAt_40_b108 (k108 : jv_H → Option (Unit × jv_H)) (h : jv_H) : Option (Unit × jv_H) := if (h.1 40 17) = (1 : Int32) then (f9_isBetween_40 (h.1 40 19) (97 : Int32) (122 : Int32) h).bind fun q1 => if q1.1 = 0 then g9_lookAt_40_b131 k108 q1.2 else g9_lookAt_40_b154 k108 q1.2 else g9_lookAt_40_b131 k108 h
set_option maxRecDepth 20000 in
theorem b9_lookAt_40_b108 {l : Launch} {d : Nat} (hd : 1 ≤ d) (k108 : jv_H → Option (Unit × jv_H)) (hk108 : ∀ (h : jv_H), jv_V l RX9 cX9_lookAt 4 none d (SC ++ SM) jv_rv 108 [(0, .ref 40)] [] h (k108 h)) : ∀ (h : jv_H), jv_V l RX9 cX9_lookAt 4 none d (SC ++ SM) jv_rv 108 [(0, .ref 40)] [] h (g9_lookAt_40_b108 k108 h) := by
  intro  h
  unfold g9_lookAt_40_b108
  refine v_aload_n 0 109 rfl dX9_lookAt_108 rfl rfl ?_
  refine v_geti 112 rfl fl_X9_97 sc_40 rfl dX9_lookAt_109 ?_
  refine v_iconst 113 rfl dX9_lookAt_112 ic_1 ?_
  refine v_icmp_ne 131 116 rfl rfl dX9_lookAt_113 (fun _ => ?_) (fun _ => ?_)
  · exact b9_lookAt_40_b131 hd k108 hk108 h
  · refine v_aload_n 0 117 rfl dX9_lookAt_116 rfl rfl ?_
    refine v_aload_n 0 118 rfl dX9_lookAt_117 rfl rfl ?_
    refine v_geti 121 rfl fl_X9_100 sc_40 rfl dX9_lookAt_118 ?_
    refine v_bipush 123 rfl dX9_lookAt_121 bp_97 ?_
    refine v_bipush 125 rfl dX9_lookAt_123 bp_122 ?_
    refine n_callv [.int (h.1 40 19), .int (97 : Int32), .int (122 : Int32)] [] (fun r => .int r :: []) 128 rfl (by omega) (Nat.le_of_ble_eq_true rfl) cb_X9_isBetween cv_X9_93 sc_40 cn_X9 rfl (Nat.le_of_ble_eq_true rfl) dX9_lookAt_125 rfl (fun _ => rfl) (e9_isBetween_40 (by omega) (h.1 40 19) (97 : Int32) (122 : Int32) h) (fun q1 => ?_)
    refine v_if_ne 154 131 rfl rfl dX9_lookAt_128 (fun _ => ?_) (fun _ => ?_)
    · exact b9_lookAt_40_b154 hd k108 hk108 q1.2
    · exact b9_lookAt_40_b131 hd k108 hk108 q1.2
def f9_lookAt_40_l108 : Nat → jv_H → Option (Unit × jv_H)
  | 0 => fun _ => none
  | n + 1 => fun h => g9_lookAt_40_b108 (f9_lookAt_40_l108 n) h
theorem w9_lookAt_40_l108 {l : Launch} {d : Nat} (hd : 1 ≤ d) : ∀ (n : Nat) (h : jv_H), jv_V l RX9 cX9_lookAt 4 none d (SC ++ SM) jv_rv 108 [(0, .ref 40)] [] h (f9_lookAt_40_l108 n h) := by
  intro n
  induction n with
  | zero => intro  h; exact v_none
  | succ n ih => intro h; exact b9_lookAt_40_b108 hd (f9_lookAt_40_l108 n) ih h
def g9_lookAt_40_b98 (a2 : Int32) (s1 : Int32) (h : jv_H) : Option (Unit × jv_H) := jv_let (jv_p h 40 17 s1) fun h1 => jv_let (jv_p h1 40 19 (a2 + (1 : Int32))) fun h2 => f9_lookAt_40_l108 jv_fuel h2
set_option maxRecDepth 20000 in
theorem b9_lookAt_40_b98 {l : Launch} {d : Nat} (hd : 1 ≤ d) : ∀ (a2 : Int32) (s1 : Int32) (h : jv_H), jv_V l RX9 cX9_lookAt 4 none d (SC ++ SM) jv_rv 98 [(0, .ref 40), (2, .int a2)] [.int s1, .ref 40] h (g9_lookAt_40_b98 a2 s1 h) := by
  intro a2 s1 h
  unfold g9_lookAt_40_b98
  refine n_puti 101 rfl fl_X9_97 sc_40 rfl dX9_lookAt_98 (fun h1 => ?_)
  refine v_aload_n 0 102 rfl dX9_lookAt_101 rfl rfl ?_
  refine v_iload_n 1 103 rfl dX9_lookAt_102 rfl rfl ?_
  refine v_iconst 104 rfl dX9_lookAt_103 ic_1 ?_
  refine v_iadd 105 rfl dX9_lookAt_104 ?_
  refine n_puti 108 rfl fl_X9_100 sc_40 rfl dX9_lookAt_105 (fun h2 => ?_)
  refine v_sub [0] rfl ?_
  exact w9_lookAt_40_l108 hd jv_fuel h2
def g9_lookAt_40_b27 (a2 : Int32) (h : jv_H) : Option (Unit × jv_H) := jv_let (jv_p h 40 18 a2) fun h1 => jv_let (jv_p h1 40 20 (0 : Int32)) fun h2 => if a2 = (h2.1 40 16) then g9_lookAt_40_b98 a2 (0 : Int32) h2 else (f9_isBetween_40 a2 (97 : Int32) (122 : Int32) h2).bind fun q3 => if q3.1 = 0 then (f9_isBetween_40 a2 (48 : Int32) (57 : Int32) q3.2).bind fun q4 => if q4.1 = 0 then if jv_ix a2 120 then if (q4.2.1 52 (Int32.toNatClampNeg a2)) = (59 : Int32) then g9_lookAt_40_b98 a2 (3 : Int32) q4.2 else g9_lookAt_40_b98 a2 (4 : Int32) q4.2 else none else g9_lookAt_40_b98 a2 (2 : Int32) q4.2 else g9_lookAt_40_b98 a2 (1 : Int32) q3.2
set_option maxRecDepth 20000 in
theorem b9_lookAt_40_b27 {l : Launch} {d : Nat} (hd : 1 ≤ d) : ∀ (a2 : Int32) (h : jv_H), jv_V l RX9 cX9_lookAt 4 none d (SC ++ SM) jv_rv 27 [(0, .ref 40), (2, .int a2)] [] h (g9_lookAt_40_b27 a2 h) := by
  intro a2 h
  unfold g9_lookAt_40_b27
  refine v_aload_n 0 28 rfl dX9_lookAt_27 rfl rfl ?_
  refine v_iload_n 1 29 rfl dX9_lookAt_28 rfl rfl ?_
  refine n_puti 32 rfl fl_X9_87 sc_40 rfl dX9_lookAt_29 (fun h1 => ?_)
  refine v_aload_n 0 33 rfl dX9_lookAt_32 rfl rfl ?_
  refine v_iconst 34 rfl dX9_lookAt_33 ic_0 ?_
  refine n_puti 37 rfl fl_X9_90 sc_40 rfl dX9_lookAt_34 (fun h2 => ?_)
  refine v_aload_n 0 38 rfl dX9_lookAt_37 rfl rfl ?_
  refine v_iload_n 1 39 rfl dX9_lookAt_38 rfl rfl ?_
  refine v_aload_n 0 40 rfl dX9_lookAt_39 rfl rfl ?_
  refine v_geti 43 rfl fl_X9_84 sc_40 rfl dX9_lookAt_40 ?_
  refine v_icmp_ne 50 46 rfl rfl dX9_lookAt_43 (fun _ => ?_) (fun _ => ?_)
  · refine v_aload_n 0 51 rfl dX9_lookAt_50 rfl rfl ?_
    refine v_iload_n 1 52 rfl dX9_lookAt_51 rfl rfl ?_
    refine v_bipush 54 rfl dX9_lookAt_52 bp_97 ?_
    refine v_bipush 56 rfl dX9_lookAt_54 bp_122 ?_
    refine n_callv [.int a2, .int (97 : Int32), .int (122 : Int32)] [.ref 40] (fun r => .int r :: [.ref 40]) 59 rfl (by omega) (Nat.le_of_ble_eq_true rfl) cb_X9_isBetween cv_X9_93 sc_40 cn_X9 rfl (Nat.le_of_ble_eq_true rfl) dX9_lookAt_56 rfl (fun _ => rfl) (e9_isBetween_40 (by omega) a2 (97 : Int32) (122 : Int32) h2) (fun q3 => ?_)
    refine v_if_eq 66 62 rfl rfl dX9_lookAt_59 (fun _ => ?_) (fun _ => ?_)
    · refine v_aload_n 0 67 rfl dX9_lookAt_66 rfl rfl ?_
      refine v_iload_n 1 68 rfl dX9_lookAt_67 rfl rfl ?_
      refine v_bipush 70 rfl dX9_lookAt_68 bp_48 ?_
      refine v_bipush 72 rfl dX9_lookAt_70 bp_57 ?_
      refine n_callv [.int a2, .int (48 : Int32), .int (57 : Int32)] [.ref 40] (fun r => .int r :: [.ref 40]) 75 rfl (by omega) (Nat.le_of_ble_eq_true rfl) cb_X9_isBetween cv_X9_93 sc_40 cn_X9 rfl (Nat.le_of_ble_eq_true rfl) dX9_lookAt_72 rfl (fun _ => rfl) (e9_isBetween_40 (by omega) a2 (48 : Int32) (57 : Int32) q3.2) (fun q4 => ?_)
      refine v_if_eq 82 78 rfl rfl dX9_lookAt_75 (fun _ => ?_) (fun _ => ?_)
      · refine v_aload_n 0 83 rfl dX9_lookAt_82 rfl rfl ?_
        refine v_getr 86 rfl fl_X9_44 sc_40 rfl dX9_lookAt_83 ?_
        refine v_iload_n 1 87 rfl dX9_lookAt_86 rfl rfl ?_
        refine v_iald 88 rfl sc_52 dX9_lookAt_87 (fun _ => ?_)
        refine v_bipush 90 rfl dX9_lookAt_88 bp_59 ?_
        refine v_icmp_ne 97 93 rfl rfl dX9_lookAt_90 (fun _ => ?_) (fun _ => ?_)
        · refine v_iconst 98 rfl dX9_lookAt_97 ic_4 ?_
          exact b9_lookAt_40_b98 hd a2 (4 : Int32) q4.2
        · refine v_iconst 94 rfl dX9_lookAt_93 ic_3 ?_
          refine v_goto 98 rfl dX9_lookAt_94 ?_
          exact b9_lookAt_40_b98 hd a2 (3 : Int32) q4.2
      · refine v_iconst 79 rfl dX9_lookAt_78 ic_2 ?_
        refine v_goto 98 rfl dX9_lookAt_79 ?_
        exact b9_lookAt_40_b98 hd a2 (2 : Int32) q4.2
    · refine v_iconst 63 rfl dX9_lookAt_62 ic_1 ?_
      refine v_goto 98 rfl dX9_lookAt_63 ?_
      exact b9_lookAt_40_b98 hd a2 (1 : Int32) q3.2
  · refine v_iconst 47 rfl dX9_lookAt_46 ic_0 ?_
    refine v_goto 98 rfl dX9_lookAt_47 ?_
    exact b9_lookAt_40_b98 hd a2 (0 : Int32) h2
def g9_lookAt_40_b2 (k2 : Int32 → jv_H → Option (Unit × jv_H)) (a2 : Int32) (h : jv_H) : Option (Unit × jv_H) := if (h.1 40 16) ≤ a2 then g9_lookAt_40_b27 a2 h else if jv_ix a2 120 then if (h.1 52 (Int32.toNatClampNeg a2)) = (32 : Int32) then jv_let (a2 + (1 : Int32)) fun x1 => k2 x1 h else g9_lookAt_40_b27 a2 h else none
set_option maxRecDepth 20000 in
theorem b9_lookAt_40_b2 {l : Launch} {d : Nat} (hd : 1 ≤ d) (k2 : Int32 → jv_H → Option (Unit × jv_H)) (hk2 : ∀ (a2 : Int32) (h : jv_H), jv_V l RX9 cX9_lookAt 4 none d (SC ++ SM) jv_rv 2 [(0, .ref 40), (2, .int a2)] [] h (k2 a2 h)) : ∀ (a2 : Int32) (h : jv_H), jv_V l RX9 cX9_lookAt 4 none d (SC ++ SM) jv_rv 2 [(0, .ref 40), (2, .int a2)] [] h (g9_lookAt_40_b2 k2 a2 h) := by
  intro a2 h
  unfold g9_lookAt_40_b2
  refine v_iload_n 1 3 rfl dX9_lookAt_2 rfl rfl ?_
  refine v_aload_n 0 4 rfl dX9_lookAt_3 rfl rfl ?_
  refine v_geti 7 rfl fl_X9_84 sc_40 rfl dX9_lookAt_4 ?_
  refine v_icmp_ge 27 10 rfl rfl dX9_lookAt_7 (fun _ => ?_) (fun _ => ?_)
  · exact b9_lookAt_40_b27 hd a2 h
  · refine v_aload_n 0 11 rfl dX9_lookAt_10 rfl rfl ?_
    refine v_getr 14 rfl fl_X9_44 sc_40 rfl dX9_lookAt_11 ?_
    refine v_iload_n 1 15 rfl dX9_lookAt_14 rfl rfl ?_
    refine v_iald 16 rfl sc_52 dX9_lookAt_15 (fun _ => ?_)
    refine v_bipush 18 rfl dX9_lookAt_16 bp_32 ?_
    refine v_icmp_ne 27 21 rfl rfl dX9_lookAt_18 (fun _ => ?_) (fun _ => ?_)
    · exact b9_lookAt_40_b27 hd a2 h
    · refine n_iinc (fun x1 => [(0, .ref 40), (2, .int x1)]) 1 24 rfl dX9_lookAt_21 rfl ic_1 (Nat.le_of_ble_eq_true rfl) rfl (fun _ => rfl) (fun x1 => ?_)
      refine v_goto 2 rfl dX9_lookAt_24 ?_
      exact hk2 x1 h
def f9_lookAt_40_l2 : Nat → Int32 → jv_H → Option (Unit × jv_H)
  | 0 => fun _ _ => none
  | n + 1 => fun a2 h => g9_lookAt_40_b2 (f9_lookAt_40_l2 n) a2 h
theorem w9_lookAt_40_l2 {l : Launch} {d : Nat} (hd : 1 ≤ d) : ∀ (n : Nat) (a2 : Int32) (h : jv_H), jv_V l RX9 cX9_lookAt 4 none d (SC ++ SM) jv_rv 2 [(0, .ref 40), (2, .int a2)] [] h (f9_lookAt_40_l2 n a2 h) := by
  intro n
  induction n with
  | zero => intro a2 h; exact v_none
  | succ n ih => intro a2 h; exact b9_lookAt_40_b2 hd (f9_lookAt_40_l2 n) ih a2 h
def f9_lookAt_40 (a1 : Int32) (h : jv_H) : Option (Unit × jv_H) := jv_let a1 fun x1 => f9_lookAt_40_l2 jv_fuel x1 h
set_option maxRecDepth 20000 in
theorem e9_lookAt_40 {l : Launch} {d : Nat} (hd : 1 ≤ d) (a1 : Int32) (h : jv_H) : jv_E l yX9_lookAt cX9_lookAt 4 none d (SC ++ SM) jv_rv [.ref 40, .int a1] h (f9_lookAt_40 a1 h) := by
  refine e_of [(0, .ref 40), (1, .int a1)] rfl pn_X9 (fun _ => Nat.le_of_ble_eq_true rfl) (fun _ => rfl) ?_
  unfold f9_lookAt_40
  refine v_iload_n 1 1 rfl dX9_lookAt_0 rfl rfl ?_
  refine n_istore_n (fun x1 => [(0, .ref 40), (1, .int a1), (2, .int x1)]) 2 rfl dX9_lookAt_1 rfl (Nat.le_of_ble_eq_true rfl) rfl (fun _ => rfl) (fun x1 => ?_)
  refine v_sub [0, 2] rfl ?_
  exact w9_lookAt_40_l2 hd jv_fuel x1 h
-- TemperNursesModel.takeAll()V at 40
def g9_takeAll_40_b141 (k141 : Int32 → jv_H → Option (Unit × jv_H)) (a1 : Int32) (h : jv_H) : Option (Unit × jv_H) := if (h.1 40 1) ≤ a1 then jv_let (jv_p h 40 13 (0 : Int32)) fun h1 => if jv_ix (0 : Int32) 2 then jv_let (jv_p h1 49 (Int32.toNatClampNeg (0 : Int32)) (vp_nar .boolean (0 : Int32))) fun h2 => if jv_ix (1 : Int32) 2 then jv_let (jv_p h2 49 (Int32.toNatClampNeg (1 : Int32)) (vp_nar .boolean (0 : Int32))) fun h3 => jv_let (jv_p h3 40 16 (0 : Int32)) fun h4 => some ((), h4) else none else none else if jv_ix ((24 : Int32) + ((3 : Int32) * a1)) 42 then if jv_ix a1 4 then jv_let (jv_p h 44 (Int32.toNatClampNeg a1) (h.1 53 (Int32.toNatClampNeg ((24 : Int32) + ((3 : Int32) * a1))))) fun h5 => if jv_ix ((25 : Int32) + ((3 : Int32) * a1)) 42 then if jv_ix a1 4 then jv_let (jv_p h5 45 (Int32.toNatClampNeg a1) (h5.1 53 (Int32.toNatClampNeg ((25 : Int32) + ((3 : Int32) * a1))))) fun h6 => if jv_ix ((26 : Int32) + ((3 : Int32) * a1)) 42 then if jv_ix a1 4 then jv_let (jv_p h6 46 (Int32.toNatClampNeg a1) (h6.1 53 (Int32.toNatClampNeg ((26 : Int32) + ((3 : Int32) * a1))))) fun h7 => jv_let (a1 + (1 : Int32)) fun x8 => k141 x8 h7 else none else none else none else none else none else none
set_option maxRecDepth 20000 in
theorem b9_takeAll_40_b141 {l : Launch} {d : Nat} (hd : 0 ≤ d) (k141 : Int32 → jv_H → Option (Unit × jv_H)) (hk141 : ∀ (a1 : Int32) (h : jv_H), jv_V l RX9 cX9_takeAll 2 none d (SC ++ SM) jv_rv 141 [(0, .ref 40), (1, .int a1)] [] h (k141 a1 h)) : ∀ (a1 : Int32) (h : jv_H), jv_V l RX9 cX9_takeAll 2 none d (SC ++ SM) jv_rv 141 [(0, .ref 40), (1, .int a1)] [] h (g9_takeAll_40_b141 k141 a1 h) := by
  intro a1 h
  unfold g9_takeAll_40_b141
  refine v_iload_n 1 142 rfl dX9_takeAll_141 rfl rfl ?_
  refine v_aload_n 0 143 rfl dX9_takeAll_142 rfl rfl ?_
  refine v_geti 146 rfl fl_X9_79 sc_40 rfl dX9_takeAll_143 ?_
  refine v_icmp_ge 206 149 rfl rfl dX9_takeAll_146 (fun _ => ?_) (fun _ => ?_)
  · refine v_aload_n 0 207 rfl dX9_takeAll_206 rfl rfl ?_
    refine v_iconst 208 rfl dX9_takeAll_207 ic_0 ?_
    refine n_puti 211 rfl fl_X9_130 sc_40 rfl dX9_takeAll_208 (fun h1 => ?_)
    refine v_aload_n 0 212 rfl dX9_takeAll_211 rfl rfl ?_
    refine v_getr 215 rfl fl_X9_34 sc_40 rfl dX9_takeAll_212 ?_
    refine v_iconst 216 rfl dX9_takeAll_215 ic_0 ?_
    refine v_iconst 217 rfl dX9_takeAll_216 ic_0 ?_
    refine n_zast 218 rfl sc_49 dX9_takeAll_217 (fun h2 => ?_)
    refine v_aload_n 0 219 rfl dX9_takeAll_218 rfl rfl ?_
    refine v_getr 222 rfl fl_X9_34 sc_40 rfl dX9_takeAll_219 ?_
    refine v_iconst 223 rfl dX9_takeAll_222 ic_1 ?_
    refine v_iconst 224 rfl dX9_takeAll_223 ic_0 ?_
    refine n_zast 225 rfl sc_49 dX9_takeAll_224 (fun h3 => ?_)
    refine v_aload_n 0 226 rfl dX9_takeAll_225 rfl rfl ?_
    refine v_iconst 227 rfl dX9_takeAll_226 ic_0 ?_
    refine n_puti 230 rfl fl_X9_84 sc_40 rfl dX9_takeAll_227 (fun h4 => ?_)
    exact v_vret rfl dX9_takeAll_230
  · refine v_aload_n 0 150 rfl dX9_takeAll_149 rfl rfl ?_
    refine v_getr 153 rfl fl_X9_19 sc_40 rfl dX9_takeAll_150 ?_
    refine v_iload_n 1 154 rfl dX9_takeAll_153 rfl rfl ?_
    refine v_aload_n 0 155 rfl dX9_takeAll_154 rfl rfl ?_
    refine v_getr 158 rfl fl_X9_47 sc_40 rfl dX9_takeAll_155 ?_
    refine v_bipush 160 rfl dX9_takeAll_158 bp_24 ?_
    refine v_iconst 161 rfl dX9_takeAll_160 ic_3 ?_
    refine v_iload_n 1 162 rfl dX9_takeAll_161 rfl rfl ?_
    refine v_imul 163 rfl dX9_takeAll_162 ?_
    refine v_iadd 164 rfl dX9_takeAll_163 ?_
    refine v_iald 165 rfl sc_53 dX9_takeAll_164 (fun _ => ?_)
    refine n_iast 166 rfl sc_44 dX9_takeAll_165 (fun h5 => ?_)
    refine v_aload_n 0 167 rfl dX9_takeAll_166 rfl rfl ?_
    refine v_getr 170 rfl fl_X9_22 sc_40 rfl dX9_takeAll_167 ?_
    refine v_iload_n 1 171 rfl dX9_takeAll_170 rfl rfl ?_
    refine v_aload_n 0 172 rfl dX9_takeAll_171 rfl rfl ?_
    refine v_getr 175 rfl fl_X9_47 sc_40 rfl dX9_takeAll_172 ?_
    refine v_bipush 177 rfl dX9_takeAll_175 bp_25 ?_
    refine v_iconst 178 rfl dX9_takeAll_177 ic_3 ?_
    refine v_iload_n 1 179 rfl dX9_takeAll_178 rfl rfl ?_
    refine v_imul 180 rfl dX9_takeAll_179 ?_
    refine v_iadd 181 rfl dX9_takeAll_180 ?_
    refine v_iald 182 rfl sc_53 dX9_takeAll_181 (fun _ => ?_)
    refine n_iast 183 rfl sc_45 dX9_takeAll_182 (fun h6 => ?_)
    refine v_aload_n 0 184 rfl dX9_takeAll_183 rfl rfl ?_
    refine v_getr 187 rfl fl_X9_25 sc_40 rfl dX9_takeAll_184 ?_
    refine v_iload_n 1 188 rfl dX9_takeAll_187 rfl rfl ?_
    refine v_aload_n 0 189 rfl dX9_takeAll_188 rfl rfl ?_
    refine v_getr 192 rfl fl_X9_47 sc_40 rfl dX9_takeAll_189 ?_
    refine v_bipush 194 rfl dX9_takeAll_192 bp_26 ?_
    refine v_iconst 195 rfl dX9_takeAll_194 ic_3 ?_
    refine v_iload_n 1 196 rfl dX9_takeAll_195 rfl rfl ?_
    refine v_imul 197 rfl dX9_takeAll_196 ?_
    refine v_iadd 198 rfl dX9_takeAll_197 ?_
    refine v_iald 199 rfl sc_53 dX9_takeAll_198 (fun _ => ?_)
    refine n_iast 200 rfl sc_46 dX9_takeAll_199 (fun h7 => ?_)
    refine n_iinc (fun x8 => [(0, .ref 40), (1, .int x8)]) 1 203 rfl dX9_takeAll_200 rfl ic_1 (Nat.le_of_ble_eq_true rfl) rfl (fun _ => rfl) (fun x8 => ?_)
    refine v_goto 141 rfl dX9_takeAll_203 ?_
    exact hk141 x8 h7
def f9_takeAll_40_l141 : Nat → Int32 → jv_H → Option (Unit × jv_H)
  | 0 => fun _ _ => none
  | n + 1 => fun a1 h => g9_takeAll_40_b141 (f9_takeAll_40_l141 n) a1 h
theorem w9_takeAll_40_l141 {l : Launch} {d : Nat} (hd : 0 ≤ d) : ∀ (n : Nat) (a1 : Int32) (h : jv_H), jv_V l RX9 cX9_takeAll 2 none d (SC ++ SM) jv_rv 141 [(0, .ref 40), (1, .int a1)] [] h (f9_takeAll_40_l141 n a1 h) := by
  intro n
  induction n with
  | zero => intro a1 h; exact v_none
  | succ n ih => intro a1 h; exact b9_takeAll_40_b141 hd (f9_takeAll_40_l141 n) ih a1 h
def g9_takeAll_40_b40 (k40 : Int32 → jv_H → Option (Unit × jv_H)) (a1 : Int32) (h : jv_H) : Option (Unit × jv_H) := if (h.1 40 0) ≤ a1 then jv_let (0 : Int32) fun x1 => f9_takeAll_40_l141 jv_fuel x1 h else if jv_ix ((4 : Int32) * a1) 42 then if jv_ix ((1 : Int32) + a1) 210 then jv_let (jv_p h 47 (Int32.toNatClampNeg ((1 : Int32) + a1)) (h.1 53 (Int32.toNatClampNeg ((4 : Int32) * a1)))) fun h2 => if jv_ix ((7 : Int32) + a1) 210 then jv_let (jv_p h2 47 (Int32.toNatClampNeg ((7 : Int32) + a1)) (-9 : Int32)) fun h3 => if jv_ix ((13 : Int32) + a1) 210 then jv_let (jv_p h3 47 (Int32.toNatClampNeg ((13 : Int32) + a1)) a1) fun h4 => if jv_ix (((4 : Int32) * a1) + (1 : Int32)) 42 then if jv_ix a1 6 then jv_let (jv_p h4 41 (Int32.toNatClampNeg a1) (h4.1 53 (Int32.toNatClampNeg (((4 : Int32) * a1) + (1 : Int32))))) fun h5 => if jv_ix (((4 : Int32) * a1) + (2 : Int32)) 42 then if jv_ix a1 6 then jv_let (jv_p h5 42 (Int32.toNatClampNeg a1) (h5.1 53 (Int32.toNatClampNeg (((4 : Int32) * a1) + (2 : Int32))))) fun h6 => if jv_ix (((4 : Int32) * a1) + (3 : Int32)) 42 then if jv_ix a1 6 then jv_let (jv_p h6 43 (Int32.toNatClampNeg a1) (h6.1 53 (Int32.toNatClampNeg (((4 : Int32) * a1) + (3 : Int32))))) fun h7 => jv_let (a1 + (1 : Int32)) fun x8 => k40 x8 h7 else none else none else none else none else none else none else none else none else none else none
set_option maxRecDepth 20000 in
theorem b9_takeAll_40_b40 {l : Launch} {d : Nat} (hd : 0 ≤ d) (k40 : Int32 → jv_H → Option (Unit × jv_H)) (hk40 : ∀ (a1 : Int32) (h : jv_H), jv_V l RX9 cX9_takeAll 2 none d (SC ++ SM) jv_rv 40 [(0, .ref 40), (1, .int a1)] [] h (k40 a1 h)) : ∀ (a1 : Int32) (h : jv_H), jv_V l RX9 cX9_takeAll 2 none d (SC ++ SM) jv_rv 40 [(0, .ref 40), (1, .int a1)] [] h (g9_takeAll_40_b40 k40 a1 h) := by
  intro a1 h
  unfold g9_takeAll_40_b40
  refine v_iload_n 1 41 rfl dX9_takeAll_40 rfl rfl ?_
  refine v_aload_n 0 42 rfl dX9_takeAll_41 rfl rfl ?_
  refine v_geti 45 rfl fl_X9_71 sc_40 rfl dX9_takeAll_42 ?_
  refine v_icmp_ge 139 48 rfl rfl dX9_takeAll_45 (fun _ => ?_) (fun _ => ?_)
  · refine v_iconst 140 rfl dX9_takeAll_139 ic_0 ?_
    refine n_istore_n (fun x1 => [(0, .ref 40), (1, .int x1)]) 141 rfl dX9_takeAll_140 rfl (Nat.le_of_ble_eq_true rfl) rfl (fun _ => rfl) (fun x1 => ?_)
    exact w9_takeAll_40_l141 hd jv_fuel x1 h
  · refine v_aload_n 0 49 rfl dX9_takeAll_48 rfl rfl ?_
    refine v_getr 52 rfl fl_X9_28 sc_40 rfl dX9_takeAll_49 ?_
    refine v_iconst 53 rfl dX9_takeAll_52 ic_1 ?_
    refine v_iload_n 1 54 rfl dX9_takeAll_53 rfl rfl ?_
    refine v_iadd 55 rfl dX9_takeAll_54 ?_
    refine v_aload_n 0 56 rfl dX9_takeAll_55 rfl rfl ?_
    refine v_getr 59 rfl fl_X9_47 sc_40 rfl dX9_takeAll_56 ?_
    refine v_iconst 60 rfl dX9_takeAll_59 ic_4 ?_
    refine v_iload_n 1 61 rfl dX9_takeAll_60 rfl rfl ?_
    refine v_imul 62 rfl dX9_takeAll_61 ?_
    refine v_iald 63 rfl sc_53 dX9_takeAll_62 (fun _ => ?_)
    refine n_iast 64 rfl sc_47 dX9_takeAll_63 (fun h2 => ?_)
    refine v_aload_n 0 65 rfl dX9_takeAll_64 rfl rfl ?_
    refine v_getr 68 rfl fl_X9_28 sc_40 rfl dX9_takeAll_65 ?_
    refine v_bipush 70 rfl dX9_takeAll_68 bp_7 ?_
    refine v_iload_n 1 71 rfl dX9_takeAll_70 rfl rfl ?_
    refine v_iadd 72 rfl dX9_takeAll_71 ?_
    refine v_bipush 74 rfl dX9_takeAll_72 bp_m9 ?_
    refine n_iast 75 rfl sc_47 dX9_takeAll_74 (fun h3 => ?_)
    refine v_aload_n 0 76 rfl dX9_takeAll_75 rfl rfl ?_
    refine v_getr 79 rfl fl_X9_28 sc_40 rfl dX9_takeAll_76 ?_
    refine v_bipush 81 rfl dX9_takeAll_79 bp_13 ?_
    refine v_iload_n 1 82 rfl dX9_takeAll_81 rfl rfl ?_
    refine v_iadd 83 rfl dX9_takeAll_82 ?_
    refine v_iload_n 1 84 rfl dX9_takeAll_83 rfl rfl ?_
    refine n_iast 85 rfl sc_47 dX9_takeAll_84 (fun h4 => ?_)
    refine v_aload_n 0 86 rfl dX9_takeAll_85 rfl rfl ?_
    refine v_getr 89 rfl fl_X9_7 sc_40 rfl dX9_takeAll_86 ?_
    refine v_iload_n 1 90 rfl dX9_takeAll_89 rfl rfl ?_
    refine v_aload_n 0 91 rfl dX9_takeAll_90 rfl rfl ?_
    refine v_getr 94 rfl fl_X9_47 sc_40 rfl dX9_takeAll_91 ?_
    refine v_iconst 95 rfl dX9_takeAll_94 ic_4 ?_
    refine v_iload_n 1 96 rfl dX9_takeAll_95 rfl rfl ?_
    refine v_imul 97 rfl dX9_takeAll_96 ?_
    refine v_iconst 98 rfl dX9_takeAll_97 ic_1 ?_
    refine v_iadd 99 rfl dX9_takeAll_98 ?_
    refine v_iald 100 rfl sc_53 dX9_takeAll_99 (fun _ => ?_)
    refine n_iast 101 rfl sc_41 dX9_takeAll_100 (fun h5 => ?_)
    refine v_aload_n 0 102 rfl dX9_takeAll_101 rfl rfl ?_
    refine v_getr 105 rfl fl_X9_13 sc_40 rfl dX9_takeAll_102 ?_
    refine v_iload_n 1 106 rfl dX9_takeAll_105 rfl rfl ?_
    refine v_aload_n 0 107 rfl dX9_takeAll_106 rfl rfl ?_
    refine v_getr 110 rfl fl_X9_47 sc_40 rfl dX9_takeAll_107 ?_
    refine v_iconst 111 rfl dX9_takeAll_110 ic_4 ?_
    refine v_iload_n 1 112 rfl dX9_takeAll_111 rfl rfl ?_
    refine v_imul 113 rfl dX9_takeAll_112 ?_
    refine v_iconst 114 rfl dX9_takeAll_113 ic_2 ?_
    refine v_iadd 115 rfl dX9_takeAll_114 ?_
    refine v_iald 116 rfl sc_53 dX9_takeAll_115 (fun _ => ?_)
    refine n_iast 117 rfl sc_42 dX9_takeAll_116 (fun h6 => ?_)
    refine v_aload_n 0 118 rfl dX9_takeAll_117 rfl rfl ?_
    refine v_getr 121 rfl fl_X9_16 sc_40 rfl dX9_takeAll_118 ?_
    refine v_iload_n 1 122 rfl dX9_takeAll_121 rfl rfl ?_
    refine v_aload_n 0 123 rfl dX9_takeAll_122 rfl rfl ?_
    refine v_getr 126 rfl fl_X9_47 sc_40 rfl dX9_takeAll_123 ?_
    refine v_iconst 127 rfl dX9_takeAll_126 ic_4 ?_
    refine v_iload_n 1 128 rfl dX9_takeAll_127 rfl rfl ?_
    refine v_imul 129 rfl dX9_takeAll_128 ?_
    refine v_iconst 130 rfl dX9_takeAll_129 ic_3 ?_
    refine v_iadd 131 rfl dX9_takeAll_130 ?_
    refine v_iald 132 rfl sc_53 dX9_takeAll_131 (fun _ => ?_)
    refine n_iast 133 rfl sc_43 dX9_takeAll_132 (fun h7 => ?_)
    refine n_iinc (fun x8 => [(0, .ref 40), (1, .int x8)]) 1 136 rfl dX9_takeAll_133 rfl ic_1 (Nat.le_of_ble_eq_true rfl) rfl (fun _ => rfl) (fun x8 => ?_)
    refine v_goto 40 rfl dX9_takeAll_136 ?_
    exact hk40 x8 h7
def f9_takeAll_40_l40 : Nat → Int32 → jv_H → Option (Unit × jv_H)
  | 0 => fun _ _ => none
  | n + 1 => fun a1 h => g9_takeAll_40_b40 (f9_takeAll_40_l40 n) a1 h
theorem w9_takeAll_40_l40 {l : Launch} {d : Nat} (hd : 0 ≤ d) : ∀ (n : Nat) (a1 : Int32) (h : jv_H), jv_V l RX9 cX9_takeAll 2 none d (SC ++ SM) jv_rv 40 [(0, .ref 40), (1, .int a1)] [] h (f9_takeAll_40_l40 n a1 h) := by
  intro n
  induction n with
  | zero => intro a1 h; exact v_none
  | succ n ih => intro a1 h; exact b9_takeAll_40_b40 hd (f9_takeAll_40_l40 n) ih a1 h
def g9_takeAll_40_b18 (k18 : Int32 → jv_H → Option (Unit × jv_H)) (a1 : Int32) (h : jv_H) : Option (Unit × jv_H) := if (210 : Int32) ≤ a1 then jv_let (0 : Int32) fun x1 => f9_takeAll_40_l40 jv_fuel x1 h else if jv_ix a1 210 then jv_let (jv_p h 47 (Int32.toNatClampNeg a1) (0 : Int32)) fun h2 => jv_let (a1 + (1 : Int32)) fun x3 => k18 x3 h2 else none
set_option maxRecDepth 20000 in
theorem b9_takeAll_40_b18 {l : Launch} {d : Nat} (hd : 0 ≤ d) (k18 : Int32 → jv_H → Option (Unit × jv_H)) (hk18 : ∀ (a1 : Int32) (h : jv_H), jv_V l RX9 cX9_takeAll 2 none d (SC ++ SM) jv_rv 18 [(0, .ref 40), (1, .int a1)] [] h (k18 a1 h)) : ∀ (a1 : Int32) (h : jv_H), jv_V l RX9 cX9_takeAll 2 none d (SC ++ SM) jv_rv 18 [(0, .ref 40), (1, .int a1)] [] h (g9_takeAll_40_b18 k18 a1 h) := by
  intro a1 h
  unfold g9_takeAll_40_b18
  refine v_iload_n 1 19 rfl dX9_takeAll_18 rfl rfl ?_
  refine v_sipush 22 rfl dX9_takeAll_19 sp_210 ?_
  refine v_icmp_ge 38 25 rfl rfl dX9_takeAll_22 (fun _ => ?_) (fun _ => ?_)
  · refine v_iconst 39 rfl dX9_takeAll_38 ic_0 ?_
    refine n_istore_n (fun x1 => [(0, .ref 40), (1, .int x1)]) 40 rfl dX9_takeAll_39 rfl (Nat.le_of_ble_eq_true rfl) rfl (fun _ => rfl) (fun x1 => ?_)
    exact w9_takeAll_40_l40 hd jv_fuel x1 h
  · refine v_aload_n 0 26 rfl dX9_takeAll_25 rfl rfl ?_
    refine v_getr 29 rfl fl_X9_28 sc_40 rfl dX9_takeAll_26 ?_
    refine v_iload_n 1 30 rfl dX9_takeAll_29 rfl rfl ?_
    refine v_iconst 31 rfl dX9_takeAll_30 ic_0 ?_
    refine n_iast 32 rfl sc_47 dX9_takeAll_31 (fun h2 => ?_)
    refine n_iinc (fun x3 => [(0, .ref 40), (1, .int x3)]) 1 35 rfl dX9_takeAll_32 rfl ic_1 (Nat.le_of_ble_eq_true rfl) rfl (fun _ => rfl) (fun x3 => ?_)
    refine v_goto 18 rfl dX9_takeAll_35 ?_
    exact hk18 x3 h2
def f9_takeAll_40_l18 : Nat → Int32 → jv_H → Option (Unit × jv_H)
  | 0 => fun _ _ => none
  | n + 1 => fun a1 h => g9_takeAll_40_b18 (f9_takeAll_40_l18 n) a1 h
theorem w9_takeAll_40_l18 {l : Launch} {d : Nat} (hd : 0 ≤ d) : ∀ (n : Nat) (a1 : Int32) (h : jv_H), jv_V l RX9 cX9_takeAll 2 none d (SC ++ SM) jv_rv 18 [(0, .ref 40), (1, .int a1)] [] h (f9_takeAll_40_l18 n a1 h) := by
  intro n
  induction n with
  | zero => intro a1 h; exact v_none
  | succ n ih => intro a1 h; exact b9_takeAll_40_b18 hd (f9_takeAll_40_l18 n) ih a1 h
def f9_takeAll_40 (h : jv_H) : Option (Unit × jv_H) := jv_let (jv_p h 40 0 (h.1 40 21)) fun h1 => jv_let (jv_p h1 40 1 (h1.1 40 22)) fun h2 => jv_let (0 : Int32) fun x3 => f9_takeAll_40_l18 jv_fuel x3 h2
set_option maxRecDepth 20000 in
theorem e9_takeAll_40 {l : Launch} {d : Nat} (hd : 0 ≤ d) (h : jv_H) : jv_E l yX9_takeAll cX9_takeAll 2 none d (SC ++ SM) jv_rv [.ref 40] h (f9_takeAll_40  h) := by
  refine e_of [(0, .ref 40)] rfl pn_X9 (fun _ => Nat.le_of_ble_eq_true rfl) (fun _ => rfl) ?_
  unfold f9_takeAll_40
  refine v_aload_n 0 1 rfl dX9_takeAll_0 rfl rfl ?_
  refine v_aload_n 0 2 rfl dX9_takeAll_1 rfl rfl ?_
  refine v_geti 5 rfl fl_X9_107 sc_40 rfl dX9_takeAll_2 ?_
  refine n_puti 8 rfl fl_X9_71 sc_40 rfl dX9_takeAll_5 (fun h1 => ?_)
  refine v_aload_n 0 9 rfl dX9_takeAll_8 rfl rfl ?_
  refine v_aload_n 0 10 rfl dX9_takeAll_9 rfl rfl ?_
  refine v_geti 13 rfl fl_X9_113 sc_40 rfl dX9_takeAll_10 ?_
  refine n_puti 16 rfl fl_X9_79 sc_40 rfl dX9_takeAll_13 (fun h2 => ?_)
  refine v_iconst 17 rfl dX9_takeAll_16 ic_0 ?_
  refine n_istore_n (fun x3 => [(0, .ref 40), (1, .int x3)]) 18 rfl dX9_takeAll_17 rfl (Nat.le_of_ble_eq_true rfl) rfl (fun _ => rfl) (fun x3 => ?_)
  exact w9_takeAll_40_l18 hd jv_fuel x3 h2
-- TemperNursesModel.isLetter(I)Z at 40
def f9_isLetter_40 (a1 : Int32) (h : jv_H) : Option (Int32 × jv_H) := if (h.1 40 17) = (1 : Int32) then if ((h.1 40 19) - (h.1 40 18)) = (1 : Int32) then if jv_ix (h.1 40 18) 120 then if (h.1 52 (Int32.toNatClampNeg (h.1 40 18))) = a1 then some ((1 : Int32), h) else some ((0 : Int32), h) else none else some ((0 : Int32), h) else some ((0 : Int32), h)
set_option maxRecDepth 20000 in
theorem e9_isLetter_40 {l : Launch} {d : Nat} (hd : 0 ≤ d) (a1 : Int32) (h : jv_H) : jv_E l yX9_isLetter cX9_isLetter 2 (some .boolean) d (SC ++ SM) jv_ri [.ref 40, .int a1] h (f9_isLetter_40 a1 h) := by
  refine e_of [(0, .ref 40), (1, .int a1)] rfl pn_X9 (fun _ => Nat.le_of_ble_eq_true rfl) (fun _ => rfl) ?_
  unfold f9_isLetter_40
  refine v_aload_n 0 1 rfl dX9_isLetter_0 rfl rfl ?_
  refine v_geti 4 rfl fl_X9_97 sc_40 rfl dX9_isLetter_1 ?_
  refine v_iconst 5 rfl dX9_isLetter_4 ic_1 ?_
  refine v_icmp_ne 38 8 rfl rfl dX9_isLetter_5 (fun _ => ?_) (fun _ => ?_)
  · refine v_iconst 39 rfl dX9_isLetter_38 ic_0 ?_
    exact v_zr0 dX9_isLetter_39
  · refine v_aload_n 0 9 rfl dX9_isLetter_8 rfl rfl ?_
    refine v_geti 12 rfl fl_X9_100 sc_40 rfl dX9_isLetter_9 ?_
    refine v_aload_n 0 13 rfl dX9_isLetter_12 rfl rfl ?_
    refine v_geti 16 rfl fl_X9_87 sc_40 rfl dX9_isLetter_13 ?_
    refine v_isub 17 rfl dX9_isLetter_16 ?_
    refine v_iconst 18 rfl dX9_isLetter_17 ic_1 ?_
    refine v_icmp_ne 38 21 rfl rfl dX9_isLetter_18 (fun _ => ?_) (fun _ => ?_)
    · refine v_iconst 39 rfl dX9_isLetter_38 ic_0 ?_
      exact v_zr0 dX9_isLetter_39
    · refine v_aload_n 0 22 rfl dX9_isLetter_21 rfl rfl ?_
      refine v_getr 25 rfl fl_X9_44 sc_40 rfl dX9_isLetter_22 ?_
      refine v_aload_n 0 26 rfl dX9_isLetter_25 rfl rfl ?_
      refine v_geti 29 rfl fl_X9_87 sc_40 rfl dX9_isLetter_26 ?_
      refine v_iald 30 rfl sc_52 dX9_isLetter_29 (fun _ => ?_)
      refine v_iload_n 1 31 rfl dX9_isLetter_30 rfl rfl ?_
      refine v_icmp_ne 38 34 rfl rfl dX9_isLetter_31 (fun _ => ?_) (fun _ => ?_)
      · refine v_iconst 39 rfl dX9_isLetter_38 ic_0 ?_
        exact v_zr0 dX9_isLetter_39
      · refine v_iconst 35 rfl dX9_isLetter_34 ic_1 ?_
        refine v_goto 39 rfl dX9_isLetter_35 ?_
        exact v_zr1 dX9_isLetter_39
-- TemperNursesModel.takes(III)Z at 40
def f9_takes_40 (a1 : Int32) (a2 : Int32) (a3 : Int32) (h : jv_H) : Option (Int32 × jv_H) := if (h.1 40 17) = (2 : Int32) then (f9_in (Int32.toInt64 (h.1 40 20)) (Int32.toInt64 a2) (Int32.toInt64 a3) h).bind fun q1 => if q1.1 = 0 then some ((0 : Int32), q1.2) else if jv_ix a1 3 then jv_let (jv_p q1.2 54 (Int32.toNatClampNeg a1) (q1.2.1 40 20)) fun h2 => (f9_lookAt_40 (h2.1 40 19) h2).bind fun q3 => some ((1 : Int32), q3.2) else none else some ((0 : Int32), h)
set_option maxRecDepth 20000 in
theorem e9_takes_40 {l : Launch} {d : Nat} (hd : 2 ≤ d) (a1 : Int32) (a2 : Int32) (a3 : Int32) (h : jv_H) : jv_E l yX9_takes cX9_takes 4 (some .boolean) d (SC ++ SM) jv_ri [.ref 40, .int a1, .int a2, .int a3] h (f9_takes_40 a1 a2 a3 h) := by
  refine e_of [(0, .ref 40), (1, .int a1), (2, .int a2), (3, .int a3)] rfl pn_X9 (fun _ => Nat.le_of_ble_eq_true rfl) (fun _ => rfl) ?_
  unfold f9_takes_40
  refine v_aload_n 0 1 rfl dX9_takes_0 rfl rfl ?_
  refine v_geti 4 rfl fl_X9_97 sc_40 rfl dX9_takes_1 ?_
  refine v_iconst 5 rfl dX9_takes_4 ic_2 ?_
  refine v_icmp_ne 23 8 rfl rfl dX9_takes_5 (fun _ => ?_) (fun _ => ?_)
  · refine v_iconst 24 rfl dX9_takes_23 ic_0 ?_
    exact v_zr0 dX9_takes_24
  · refine v_aload_n 0 9 rfl dX9_takes_8 rfl rfl ?_
    refine v_geti 12 rfl fl_X9_90 sc_40 rfl dX9_takes_9 ?_
    refine v_i2l 13 rfl dX9_takes_12 ?_
    refine v_iload_n 2 14 rfl dX9_takes_13 rfl rfl ?_
    refine v_i2l 15 rfl dX9_takes_14 ?_
    refine v_iload_n 3 16 rfl dX9_takes_15 rfl rfl ?_
    refine v_i2l 17 rfl dX9_takes_16 ?_
    refine n_calls [.long (Int32.toInt64 (h.1 40 20)), .long (Int32.toInt64 a2), .long (Int32.toInt64 a3)] [] (fun r => .int r :: []) 20 rfl (by omega) (Nat.le_of_ble_eq_true rfl) cb_X9_in cs_X9_75 rfl (Nat.le_of_ble_eq_true rfl) dX9_takes_17 rfl (fun _ => rfl) (e9_in (by omega) (Int32.toInt64 (h.1 40 20)) (Int32.toInt64 a2) (Int32.toInt64 a3) h) (fun q1 => ?_)
    refine v_if_ne 25 23 rfl rfl dX9_takes_20 (fun _ => ?_) (fun _ => ?_)
    · refine v_aload_n 0 26 rfl dX9_takes_25 rfl rfl ?_
      refine v_getr 29 rfl fl_X9_50 sc_40 rfl dX9_takes_26 ?_
      refine v_iload_n 1 30 rfl dX9_takes_29 rfl rfl ?_
      refine v_aload_n 0 31 rfl dX9_takes_30 rfl rfl ?_
      refine v_geti 34 rfl fl_X9_90 sc_40 rfl dX9_takes_31 ?_
      refine n_iast 35 rfl sc_54 dX9_takes_34 (fun h2 => ?_)
      refine v_aload_n 0 36 rfl dX9_takes_35 rfl rfl ?_
      refine v_aload_n 0 37 rfl dX9_takes_36 rfl rfl ?_
      refine v_geti 40 rfl fl_X9_100 sc_40 rfl dX9_takes_37 ?_
      refine n_callv [.int (h2.1 40 19)] [] (fun _ => []) 43 rfl (by omega) (Nat.le_of_ble_eq_true rfl) cb_X9_lookAt cv_X9_103 sc_40 cn_X9 rfl (Nat.le_of_ble_eq_true rfl) dX9_takes_40 rfl (fun _ => rfl) (e9_lookAt_40 (by omega) (h2.1 40 19) h2) (fun q3 => ?_)
      refine v_iconst 44 rfl dX9_takes_43 ic_1 ?_
      exact v_zr1 dX9_takes_44
    · refine v_iconst 24 rfl dX9_takes_23 ic_0 ?_
      exact v_zr0 dX9_takes_24
-- TemperNursesModel.takesClash()Z at 40
def f9_takesClash_40 (h : jv_H) : Option (Int32 × jv_H) := (f9_lookAt_40 (h.1 40 19) h).bind fun q1 => (f9_takes_40 (0 : Int32) (0 : Int32) ((q1.2.1 40 21) - (1 : Int32)) q1.2).bind fun q2 => if q2.1 = 0 then some ((0 : Int32), q2.2) else if (q2.2.1 40 17) = (2 : Int32) then if jv_ix (0 : Int32) 3 then if (q2.2.1 40 20) = (q2.2.1 54 (Int32.toNatClampNeg (0 : Int32))) then some ((0 : Int32), q2.2) else (f9_takes_40 (1 : Int32) (0 : Int32) ((q2.2.1 40 21) - (1 : Int32)) q2.2).bind fun q3 => if q3.1 = 0 then some ((0 : Int32), q3.2) else if jv_ix (0 : Int32) 3 then if jv_ix (((4 : Int32) * (q3.2.1 54 (Int32.toNatClampNeg (0 : Int32)))) + (3 : Int32)) 42 then if jv_ix (1 : Int32) 3 then if jv_ix (((4 : Int32) * (q3.2.1 54 (Int32.toNatClampNeg (0 : Int32)))) + (3 : Int32)) 42 then jv_let (jv_p q3.2 53 (Int32.toNatClampNeg (((4 : Int32) * (q3.2.1 54 (Int32.toNatClampNeg (0 : Int32)))) + (3 : Int32))) ((q3.2.1 53 (Int32.toNatClampNeg (((4 : Int32) * (q3.2.1 54 (Int32.toNatClampNeg (0 : Int32)))) + (3 : Int32)))) ||| ((1 : Int32) <<< ((q3.2.1 54 (Int32.toNatClampNeg (1 : Int32))) &&& 31)))) fun h4 => if jv_ix (1 : Int32) 3 then if jv_ix (((4 : Int32) * (h4.1 54 (Int32.toNatClampNeg (1 : Int32)))) + (3 : Int32)) 42 then if jv_ix (0 : Int32) 3 then if jv_ix (((4 : Int32) * (h4.1 54 (Int32.toNatClampNeg (1 : Int32)))) + (3 : Int32)) 42 then jv_let (jv_p h4 53 (Int32.toNatClampNeg (((4 : Int32) * (h4.1 54 (Int32.toNatClampNeg (1 : Int32)))) + (3 : Int32))) ((h4.1 53 (Int32.toNatClampNeg (((4 : Int32) * (h4.1 54 (Int32.toNatClampNeg (1 : Int32)))) + (3 : Int32)))) ||| ((1 : Int32) <<< ((h4.1 54 (Int32.toNatClampNeg (0 : Int32))) &&& 31)))) fun h5 => some ((1 : Int32), h5) else none else none else none else none else none else none else none else none else none else some ((0 : Int32), q2.2)
set_option maxRecDepth 20000 in
theorem e9_takesClash_40 {l : Launch} {d : Nat} (hd : 3 ≤ d) (h : jv_H) : jv_E l yX9_takesClash cX9_takesClash 1 (some .boolean) d (SC ++ SM) jv_ri [.ref 40] h (f9_takesClash_40  h) := by
  refine e_of [(0, .ref 40)] rfl pn_X9 (fun _ => Nat.le_of_ble_eq_true rfl) (fun _ => rfl) ?_
  unfold f9_takesClash_40
  refine v_aload_n 0 1 rfl dX9_takesClash_0 rfl rfl ?_
  refine v_aload_n 0 2 rfl dX9_takesClash_1 rfl rfl ?_
  refine v_geti 5 rfl fl_X9_100 sc_40 rfl dX9_takesClash_2 ?_
  refine n_callv [.int (h.1 40 19)] [] (fun _ => []) 8 rfl (by omega) (Nat.le_of_ble_eq_true rfl) cb_X9_lookAt cv_X9_103 sc_40 cn_X9 rfl (Nat.le_of_ble_eq_true rfl) dX9_takesClash_5 rfl (fun _ => rfl) (e9_lookAt_40 (by omega) (h.1 40 19) h) (fun q1 => ?_)
  refine v_aload_n 0 9 rfl dX9_takesClash_8 rfl rfl ?_
  refine v_iconst 10 rfl dX9_takesClash_9 ic_0 ?_
  refine v_iconst 11 rfl dX9_takesClash_10 ic_0 ?_
  refine v_aload_n 0 12 rfl dX9_takesClash_11 rfl rfl ?_
  refine v_geti 15 rfl fl_X9_107 sc_40 rfl dX9_takesClash_12 ?_
  refine v_iconst 16 rfl dX9_takesClash_15 ic_1 ?_
  refine v_isub 17 rfl dX9_takesClash_16 ?_
  refine n_callv [.int (0 : Int32), .int (0 : Int32), .int ((q1.2.1 40 21) - (1 : Int32))] [] (fun r => .int r :: []) 20 rfl (by omega) (Nat.le_of_ble_eq_true rfl) cb_X9_takes cv_X9_110 sc_40 cn_X9 rfl (Nat.le_of_ble_eq_true rfl) dX9_takesClash_17 rfl (fun _ => rfl) (e9_takes_40 (by omega) (0 : Int32) (0 : Int32) ((q1.2.1 40 21) - (1 : Int32)) q1.2) (fun q2 => ?_)
  refine v_if_eq 59 23 rfl rfl dX9_takesClash_20 (fun _ => ?_) (fun _ => ?_)
  · refine v_iconst 60 rfl dX9_takesClash_59 ic_0 ?_
    exact v_zr0 dX9_takesClash_60
  · refine v_aload_n 0 24 rfl dX9_takesClash_23 rfl rfl ?_
    refine v_geti 27 rfl fl_X9_97 sc_40 rfl dX9_takesClash_24 ?_
    refine v_iconst 28 rfl dX9_takesClash_27 ic_2 ?_
    refine v_icmp_ne 59 31 rfl rfl dX9_takesClash_28 (fun _ => ?_) (fun _ => ?_)
    · refine v_iconst 60 rfl dX9_takesClash_59 ic_0 ?_
      exact v_zr0 dX9_takesClash_60
    · refine v_aload_n 0 32 rfl dX9_takesClash_31 rfl rfl ?_
      refine v_geti 35 rfl fl_X9_90 sc_40 rfl dX9_takesClash_32 ?_
      refine v_aload_n 0 36 rfl dX9_takesClash_35 rfl rfl ?_
      refine v_getr 39 rfl fl_X9_50 sc_40 rfl dX9_takesClash_36 ?_
      refine v_iconst 40 rfl dX9_takesClash_39 ic_0 ?_
      refine v_iald 41 rfl sc_54 dX9_takesClash_40 (fun _ => ?_)
      refine v_icmp_eq 59 44 rfl rfl dX9_takesClash_41 (fun _ => ?_) (fun _ => ?_)
      · refine v_iconst 60 rfl dX9_takesClash_59 ic_0 ?_
        exact v_zr0 dX9_takesClash_60
      · refine v_aload_n 0 45 rfl dX9_takesClash_44 rfl rfl ?_
        refine v_iconst 46 rfl dX9_takesClash_45 ic_1 ?_
        refine v_iconst 47 rfl dX9_takesClash_46 ic_0 ?_
        refine v_aload_n 0 48 rfl dX9_takesClash_47 rfl rfl ?_
        refine v_geti 51 rfl fl_X9_107 sc_40 rfl dX9_takesClash_48 ?_
        refine v_iconst 52 rfl dX9_takesClash_51 ic_1 ?_
        refine v_isub 53 rfl dX9_takesClash_52 ?_
        refine n_callv [.int (1 : Int32), .int (0 : Int32), .int ((q2.2.1 40 21) - (1 : Int32))] [] (fun r => .int r :: []) 56 rfl (by omega) (Nat.le_of_ble_eq_true rfl) cb_X9_takes cv_X9_110 sc_40 cn_X9 rfl (Nat.le_of_ble_eq_true rfl) dX9_takesClash_53 rfl (fun _ => rfl) (e9_takes_40 (by omega) (1 : Int32) (0 : Int32) ((q2.2.1 40 21) - (1 : Int32)) q2.2) (fun q3 => ?_)
        refine v_if_ne 61 59 rfl rfl dX9_takesClash_56 (fun _ => ?_) (fun _ => ?_)
        · refine v_aload_n 0 62 rfl dX9_takesClash_61 rfl rfl ?_
          refine v_getr 65 rfl fl_X9_47 sc_40 rfl dX9_takesClash_62 ?_
          refine v_iconst 66 rfl dX9_takesClash_65 ic_4 ?_
          refine v_aload_n 0 67 rfl dX9_takesClash_66 rfl rfl ?_
          refine v_getr 70 rfl fl_X9_50 sc_40 rfl dX9_takesClash_67 ?_
          refine v_iconst 71 rfl dX9_takesClash_70 ic_0 ?_
          refine v_iald 72 rfl sc_54 dX9_takesClash_71 (fun _ => ?_)
          refine v_imul 73 rfl dX9_takesClash_72 ?_
          refine v_iconst 74 rfl dX9_takesClash_73 ic_3 ?_
          refine v_iadd 75 rfl dX9_takesClash_74 ?_
          refine v_dup2 76 rfl dX9_takesClash_75 ?_
          refine v_iald 77 rfl sc_53 dX9_takesClash_76 (fun _ => ?_)
          refine v_iconst 78 rfl dX9_takesClash_77 ic_1 ?_
          refine v_aload_n 0 79 rfl dX9_takesClash_78 rfl rfl ?_
          refine v_getr 82 rfl fl_X9_50 sc_40 rfl dX9_takesClash_79 ?_
          refine v_iconst 83 rfl dX9_takesClash_82 ic_1 ?_
          refine v_iald 84 rfl sc_54 dX9_takesClash_83 (fun _ => ?_)
          refine v_ishl 85 rfl dX9_takesClash_84 ?_
          refine v_ior 86 rfl dX9_takesClash_85 ?_
          refine n_iast 87 rfl sc_53 dX9_takesClash_86 (fun h4 => ?_)
          refine v_aload_n 0 88 rfl dX9_takesClash_87 rfl rfl ?_
          refine v_getr 91 rfl fl_X9_47 sc_40 rfl dX9_takesClash_88 ?_
          refine v_iconst 92 rfl dX9_takesClash_91 ic_4 ?_
          refine v_aload_n 0 93 rfl dX9_takesClash_92 rfl rfl ?_
          refine v_getr 96 rfl fl_X9_50 sc_40 rfl dX9_takesClash_93 ?_
          refine v_iconst 97 rfl dX9_takesClash_96 ic_1 ?_
          refine v_iald 98 rfl sc_54 dX9_takesClash_97 (fun _ => ?_)
          refine v_imul 99 rfl dX9_takesClash_98 ?_
          refine v_iconst 100 rfl dX9_takesClash_99 ic_3 ?_
          refine v_iadd 101 rfl dX9_takesClash_100 ?_
          refine v_dup2 102 rfl dX9_takesClash_101 ?_
          refine v_iald 103 rfl sc_53 dX9_takesClash_102 (fun _ => ?_)
          refine v_iconst 104 rfl dX9_takesClash_103 ic_1 ?_
          refine v_aload_n 0 105 rfl dX9_takesClash_104 rfl rfl ?_
          refine v_getr 108 rfl fl_X9_50 sc_40 rfl dX9_takesClash_105 ?_
          refine v_iconst 109 rfl dX9_takesClash_108 ic_0 ?_
          refine v_iald 110 rfl sc_54 dX9_takesClash_109 (fun _ => ?_)
          refine v_ishl 111 rfl dX9_takesClash_110 ?_
          refine v_ior 112 rfl dX9_takesClash_111 ?_
          refine n_iast 113 rfl sc_53 dX9_takesClash_112 (fun h5 => ?_)
          refine v_iconst 114 rfl dX9_takesClash_113 ic_1 ?_
          exact v_zr1 dX9_takesClash_114
        · refine v_iconst 60 rfl dX9_takesClash_59 ic_0 ?_
          exact v_zr0 dX9_takesClash_60
-- TemperNursesModel.takesNurse()Z at 40
def g9_takesNurse_40_b54 (k54 : Int32 → jv_H → Option (Int32 × jv_H)) (a1 : Int32) (h : jv_H) : Option (Int32 × jv_H) := if (3 : Int32) ≤ a1 then jv_let (jv_p h 40 22 ((h.1 40 22) + (1 : Int32))) fun h1 => some ((1 : Int32), h1) else if jv_ix a1 3 then if jv_ix (((24 : Int32) + ((3 : Int32) * (h.1 40 22))) + a1) 42 then jv_let (jv_p h 53 (Int32.toNatClampNeg (((24 : Int32) + ((3 : Int32) * (h.1 40 22))) + a1)) (h.1 54 (Int32.toNatClampNeg a1))) fun h2 => jv_let (a1 + (1 : Int32)) fun x3 => k54 x3 h2 else none else none
set_option maxRecDepth 20000 in
theorem b9_takesNurse_40_b54 {l : Launch} {d : Nat} (hd : 3 ≤ d) (k54 : Int32 → jv_H → Option (Int32 × jv_H)) (hk54 : ∀ (a1 : Int32) (h : jv_H), jv_V l RX9 cX9_takesNurse 2 (some .boolean) d (SC ++ SM) jv_ri 54 [(0, .ref 40), (1, .int a1)] [] h (k54 a1 h)) : ∀ (a1 : Int32) (h : jv_H), jv_V l RX9 cX9_takesNurse 2 (some .boolean) d (SC ++ SM) jv_ri 54 [(0, .ref 40), (1, .int a1)] [] h (g9_takesNurse_40_b54 k54 a1 h) := by
  intro a1 h
  unfold g9_takesNurse_40_b54
  refine v_iload_n 1 55 rfl dX9_takesNurse_54 rfl rfl ?_
  refine v_iconst 56 rfl dX9_takesNurse_55 ic_3 ?_
  refine v_icmp_ge 87 59 rfl rfl dX9_takesNurse_56 (fun _ => ?_) (fun _ => ?_)
  · refine v_aload_n 0 88 rfl dX9_takesNurse_87 rfl rfl ?_
    refine v_dupr 89 rfl dX9_takesNurse_88 ?_
    refine v_geti 92 rfl fl_X9_113 sc_40 rfl dX9_takesNurse_89 ?_
    refine v_iconst 93 rfl dX9_takesNurse_92 ic_1 ?_
    refine v_iadd 94 rfl dX9_takesNurse_93 ?_
    refine n_puti 97 rfl fl_X9_113 sc_40 rfl dX9_takesNurse_94 (fun h1 => ?_)
    refine v_iconst 98 rfl dX9_takesNurse_97 ic_1 ?_
    exact v_zr1 dX9_takesNurse_98
  · refine v_aload_n 0 60 rfl dX9_takesNurse_59 rfl rfl ?_
    refine v_getr 63 rfl fl_X9_47 sc_40 rfl dX9_takesNurse_60 ?_
    refine v_bipush 65 rfl dX9_takesNurse_63 bp_24 ?_
    refine v_iconst 66 rfl dX9_takesNurse_65 ic_3 ?_
    refine v_aload_n 0 67 rfl dX9_takesNurse_66 rfl rfl ?_
    refine v_geti 70 rfl fl_X9_113 sc_40 rfl dX9_takesNurse_67 ?_
    refine v_imul 71 rfl dX9_takesNurse_70 ?_
    refine v_iadd 72 rfl dX9_takesNurse_71 ?_
    refine v_iload_n 1 73 rfl dX9_takesNurse_72 rfl rfl ?_
    refine v_iadd 74 rfl dX9_takesNurse_73 ?_
    refine v_aload_n 0 75 rfl dX9_takesNurse_74 rfl rfl ?_
    refine v_getr 78 rfl fl_X9_50 sc_40 rfl dX9_takesNurse_75 ?_
    refine v_iload_n 1 79 rfl dX9_takesNurse_78 rfl rfl ?_
    refine v_iald 80 rfl sc_54 dX9_takesNurse_79 (fun _ => ?_)
    refine n_iast 81 rfl sc_53 dX9_takesNurse_80 (fun h2 => ?_)
    refine n_iinc (fun x3 => [(0, .ref 40), (1, .int x3)]) 1 84 rfl dX9_takesNurse_81 rfl ic_1 (Nat.le_of_ble_eq_true rfl) rfl (fun _ => rfl) (fun x3 => ?_)
    refine v_goto 54 rfl dX9_takesNurse_84 ?_
    exact hk54 x3 h2
def f9_takesNurse_40_l54 : Nat → Int32 → jv_H → Option (Int32 × jv_H)
  | 0 => fun _ _ => none
  | n + 1 => fun a1 h => g9_takesNurse_40_b54 (f9_takesNurse_40_l54 n) a1 h
theorem w9_takesNurse_40_l54 {l : Launch} {d : Nat} (hd : 3 ≤ d) : ∀ (n : Nat) (a1 : Int32) (h : jv_H), jv_V l RX9 cX9_takesNurse 2 (some .boolean) d (SC ++ SM) jv_ri 54 [(0, .ref 40), (1, .int a1)] [] h (f9_takesNurse_40_l54 n a1 h) := by
  intro n
  induction n with
  | zero => intro a1 h; exact v_none
  | succ n ih => intro a1 h; exact b9_takesNurse_40_b54 hd (f9_takesNurse_40_l54 n) ih a1 h
def f9_takesNurse_40 (h : jv_H) : Option (Int32 × jv_H) := if (h.1 40 22) = (4 : Int32) then some ((0 : Int32), h) else (f9_lookAt_40 (h.1 40 19) h).bind fun q1 => (f9_takes_40 (0 : Int32) (1 : Int32) (9 : Int32) q1.2).bind fun q2 => if q2.1 = 0 then some ((0 : Int32), q2.2) else (f9_takes_40 (1 : Int32) (1 : Int32) (3 : Int32) q2.2).bind fun q3 => if q3.1 = 0 then some ((0 : Int32), q3.2) else (f9_takes_40 (2 : Int32) (1 : Int32) (99 : Int32) q3.2).bind fun q4 => if q4.1 = 0 then some ((0 : Int32), q4.2) else jv_let (0 : Int32) fun x5 => f9_takesNurse_40_l54 jv_fuel x5 q4.2
set_option maxRecDepth 20000 in
theorem e9_takesNurse_40 {l : Launch} {d : Nat} (hd : 3 ≤ d) (h : jv_H) : jv_E l yX9_takesNurse cX9_takesNurse 2 (some .boolean) d (SC ++ SM) jv_ri [.ref 40] h (f9_takesNurse_40  h) := by
  refine e_of [(0, .ref 40)] rfl pn_X9 (fun _ => Nat.le_of_ble_eq_true rfl) (fun _ => rfl) ?_
  unfold f9_takesNurse_40
  refine v_aload_n 0 1 rfl dX9_takesNurse_0 rfl rfl ?_
  refine v_geti 4 rfl fl_X9_113 sc_40 rfl dX9_takesNurse_1 ?_
  refine v_iconst 5 rfl dX9_takesNurse_4 ic_4 ?_
  refine v_icmp_ne 10 8 rfl rfl dX9_takesNurse_5 (fun _ => ?_) (fun _ => ?_)
  · refine v_aload_n 0 11 rfl dX9_takesNurse_10 rfl rfl ?_
    refine v_aload_n 0 12 rfl dX9_takesNurse_11 rfl rfl ?_
    refine v_geti 15 rfl fl_X9_100 sc_40 rfl dX9_takesNurse_12 ?_
    refine n_callv [.int (h.1 40 19)] [] (fun _ => []) 18 rfl (by omega) (Nat.le_of_ble_eq_true rfl) cb_X9_lookAt cv_X9_103 sc_40 cn_X9 rfl (Nat.le_of_ble_eq_true rfl) dX9_takesNurse_15 rfl (fun _ => rfl) (e9_lookAt_40 (by omega) (h.1 40 19) h) (fun q1 => ?_)
    refine v_aload_n 0 19 rfl dX9_takesNurse_18 rfl rfl ?_
    refine v_iconst 20 rfl dX9_takesNurse_19 ic_0 ?_
    refine v_iconst 21 rfl dX9_takesNurse_20 ic_1 ?_
    refine v_bipush 23 rfl dX9_takesNurse_21 bp_9 ?_
    refine n_callv [.int (0 : Int32), .int (1 : Int32), .int (9 : Int32)] [] (fun r => .int r :: []) 26 rfl (by omega) (Nat.le_of_ble_eq_true rfl) cb_X9_takes cv_X9_110 sc_40 cn_X9 rfl (Nat.le_of_ble_eq_true rfl) dX9_takesNurse_23 rfl (fun _ => rfl) (e9_takes_40 (by omega) (0 : Int32) (1 : Int32) (9 : Int32) q1.2) (fun q2 => ?_)
    refine v_if_eq 50 29 rfl rfl dX9_takesNurse_26 (fun _ => ?_) (fun _ => ?_)
    · refine v_iconst 51 rfl dX9_takesNurse_50 ic_0 ?_
      exact v_zr0 dX9_takesNurse_51
    · refine v_aload_n 0 30 rfl dX9_takesNurse_29 rfl rfl ?_
      refine v_iconst 31 rfl dX9_takesNurse_30 ic_1 ?_
      refine v_iconst 32 rfl dX9_takesNurse_31 ic_1 ?_
      refine v_iconst 33 rfl dX9_takesNurse_32 ic_3 ?_
      refine n_callv [.int (1 : Int32), .int (1 : Int32), .int (3 : Int32)] [] (fun r => .int r :: []) 36 rfl (by omega) (Nat.le_of_ble_eq_true rfl) cb_X9_takes cv_X9_110 sc_40 cn_X9 rfl (Nat.le_of_ble_eq_true rfl) dX9_takesNurse_33 rfl (fun _ => rfl) (e9_takes_40 (by omega) (1 : Int32) (1 : Int32) (3 : Int32) q2.2) (fun q3 => ?_)
      refine v_if_eq 50 39 rfl rfl dX9_takesNurse_36 (fun _ => ?_) (fun _ => ?_)
      · refine v_iconst 51 rfl dX9_takesNurse_50 ic_0 ?_
        exact v_zr0 dX9_takesNurse_51
      · refine v_aload_n 0 40 rfl dX9_takesNurse_39 rfl rfl ?_
        refine v_iconst 41 rfl dX9_takesNurse_40 ic_2 ?_
        refine v_iconst 42 rfl dX9_takesNurse_41 ic_1 ?_
        refine v_bipush 44 rfl dX9_takesNurse_42 bp_99 ?_
        refine n_callv [.int (2 : Int32), .int (1 : Int32), .int (99 : Int32)] [] (fun r => .int r :: []) 47 rfl (by omega) (Nat.le_of_ble_eq_true rfl) cb_X9_takes cv_X9_110 sc_40 cn_X9 rfl (Nat.le_of_ble_eq_true rfl) dX9_takesNurse_44 rfl (fun _ => rfl) (e9_takes_40 (by omega) (2 : Int32) (1 : Int32) (99 : Int32) q3.2) (fun q4 => ?_)
        refine v_if_ne 52 50 rfl rfl dX9_takesNurse_47 (fun _ => ?_) (fun _ => ?_)
        · refine v_iconst 53 rfl dX9_takesNurse_52 ic_0 ?_
          refine n_istore_n (fun x5 => [(0, .ref 40), (1, .int x5)]) 54 rfl dX9_takesNurse_53 rfl (Nat.le_of_ble_eq_true rfl) rfl (fun _ => rfl) (fun x5 => ?_)
          exact w9_takesNurse_40_l54 hd jv_fuel x5 q4.2
        · refine v_iconst 51 rfl dX9_takesNurse_50 ic_0 ?_
          exact v_zr0 dX9_takesNurse_51
  · refine v_iconst 9 rfl dX9_takesNurse_8 ic_0 ?_
    exact v_zr0 dX9_takesNurse_9
-- TemperNursesModel.takesTemper()Z at 40
def g9_takesTemper_40_b55 (k55 : Int32 → jv_H → Option (Int32 × jv_H)) (a1 : Int32) (h : jv_H) : Option (Int32 × jv_H) := if (3 : Int32) ≤ a1 then if jv_ix (((4 : Int32) * (h.1 40 21)) + (3 : Int32)) 42 then jv_let (jv_p h 53 (Int32.toNatClampNeg (((4 : Int32) * (h.1 40 21)) + (3 : Int32))) (0 : Int32)) fun h1 => jv_let (jv_p h1 40 21 ((h1.1 40 21) + (1 : Int32))) fun h2 => some ((1 : Int32), h2) else none else if jv_ix a1 3 then if jv_ix (((4 : Int32) * (h.1 40 21)) + a1) 42 then jv_let (jv_p h 53 (Int32.toNatClampNeg (((4 : Int32) * (h.1 40 21)) + a1)) (h.1 54 (Int32.toNatClampNeg a1))) fun h3 => jv_let (a1 + (1 : Int32)) fun x4 => k55 x4 h3 else none else none
set_option maxRecDepth 20000 in
theorem b9_takesTemper_40_b55 {l : Launch} {d : Nat} (hd : 3 ≤ d) (k55 : Int32 → jv_H → Option (Int32 × jv_H)) (hk55 : ∀ (a1 : Int32) (h : jv_H), jv_V l RX9 cX9_takesTemper 2 (some .boolean) d (SC ++ SM) jv_ri 55 [(0, .ref 40), (1, .int a1)] [] h (k55 a1 h)) : ∀ (a1 : Int32) (h : jv_H), jv_V l RX9 cX9_takesTemper 2 (some .boolean) d (SC ++ SM) jv_ri 55 [(0, .ref 40), (1, .int a1)] [] h (g9_takesTemper_40_b55 k55 a1 h) := by
  intro a1 h
  unfold g9_takesTemper_40_b55
  refine v_iload_n 1 56 rfl dX9_takesTemper_55 rfl rfl ?_
  refine v_iconst 57 rfl dX9_takesTemper_56 ic_3 ?_
  refine v_icmp_ge 85 60 rfl rfl dX9_takesTemper_57 (fun _ => ?_) (fun _ => ?_)
  · refine v_aload_n 0 86 rfl dX9_takesTemper_85 rfl rfl ?_
    refine v_getr 89 rfl fl_X9_47 sc_40 rfl dX9_takesTemper_86 ?_
    refine v_iconst 90 rfl dX9_takesTemper_89 ic_4 ?_
    refine v_aload_n 0 91 rfl dX9_takesTemper_90 rfl rfl ?_
    refine v_geti 94 rfl fl_X9_107 sc_40 rfl dX9_takesTemper_91 ?_
    refine v_imul 95 rfl dX9_takesTemper_94 ?_
    refine v_iconst 96 rfl dX9_takesTemper_95 ic_3 ?_
    refine v_iadd 97 rfl dX9_takesTemper_96 ?_
    refine v_iconst 98 rfl dX9_takesTemper_97 ic_0 ?_
    refine n_iast 99 rfl sc_53 dX9_takesTemper_98 (fun h1 => ?_)
    refine v_aload_n 0 100 rfl dX9_takesTemper_99 rfl rfl ?_
    refine v_dupr 101 rfl dX9_takesTemper_100 ?_
    refine v_geti 104 rfl fl_X9_107 sc_40 rfl dX9_takesTemper_101 ?_
    refine v_iconst 105 rfl dX9_takesTemper_104 ic_1 ?_
    refine v_iadd 106 rfl dX9_takesTemper_105 ?_
    refine n_puti 109 rfl fl_X9_107 sc_40 rfl dX9_takesTemper_106 (fun h2 => ?_)
    refine v_iconst 110 rfl dX9_takesTemper_109 ic_1 ?_
    exact v_zr1 dX9_takesTemper_110
  · refine v_aload_n 0 61 rfl dX9_takesTemper_60 rfl rfl ?_
    refine v_getr 64 rfl fl_X9_47 sc_40 rfl dX9_takesTemper_61 ?_
    refine v_iconst 65 rfl dX9_takesTemper_64 ic_4 ?_
    refine v_aload_n 0 66 rfl dX9_takesTemper_65 rfl rfl ?_
    refine v_geti 69 rfl fl_X9_107 sc_40 rfl dX9_takesTemper_66 ?_
    refine v_imul 70 rfl dX9_takesTemper_69 ?_
    refine v_iload_n 1 71 rfl dX9_takesTemper_70 rfl rfl ?_
    refine v_iadd 72 rfl dX9_takesTemper_71 ?_
    refine v_aload_n 0 73 rfl dX9_takesTemper_72 rfl rfl ?_
    refine v_getr 76 rfl fl_X9_50 sc_40 rfl dX9_takesTemper_73 ?_
    refine v_iload_n 1 77 rfl dX9_takesTemper_76 rfl rfl ?_
    refine v_iald 78 rfl sc_54 dX9_takesTemper_77 (fun _ => ?_)
    refine n_iast 79 rfl sc_53 dX9_takesTemper_78 (fun h3 => ?_)
    refine n_iinc (fun x4 => [(0, .ref 40), (1, .int x4)]) 1 82 rfl dX9_takesTemper_79 rfl ic_1 (Nat.le_of_ble_eq_true rfl) rfl (fun _ => rfl) (fun x4 => ?_)
    refine v_goto 55 rfl dX9_takesTemper_82 ?_
    exact hk55 x4 h3
def f9_takesTemper_40_l55 : Nat → Int32 → jv_H → Option (Int32 × jv_H)
  | 0 => fun _ _ => none
  | n + 1 => fun a1 h => g9_takesTemper_40_b55 (f9_takesTemper_40_l55 n) a1 h
theorem w9_takesTemper_40_l55 {l : Launch} {d : Nat} (hd : 3 ≤ d) : ∀ (n : Nat) (a1 : Int32) (h : jv_H), jv_V l RX9 cX9_takesTemper 2 (some .boolean) d (SC ++ SM) jv_ri 55 [(0, .ref 40), (1, .int a1)] [] h (f9_takesTemper_40_l55 n a1 h) := by
  intro n
  induction n with
  | zero => intro a1 h; exact v_none
  | succ n ih => intro a1 h; exact b9_takesTemper_40_b55 hd (f9_takesTemper_40_l55 n) ih a1 h
def f9_takesTemper_40 (h : jv_H) : Option (Int32 × jv_H) := if (h.1 40 21) = (6 : Int32) then some ((0 : Int32), h) else (f9_lookAt_40 (h.1 40 19) h).bind fun q1 => (f9_takes_40 (0 : Int32) (1 : Int32) (60 : Int32) q1.2).bind fun q2 => if q2.1 = 0 then some ((0 : Int32), q2.2) else (f9_takes_40 (1 : Int32) (0 : Int32) (5 : Int32) q2.2).bind fun q3 => if q3.1 = 0 then some ((0 : Int32), q3.2) else (f9_takes_40 (2 : Int32) (0 : Int32) (40 : Int32) q3.2).bind fun q4 => if q4.1 = 0 then some ((0 : Int32), q4.2) else jv_let (0 : Int32) fun x5 => f9_takesTemper_40_l55 jv_fuel x5 q4.2
set_option maxRecDepth 20000 in
theorem e9_takesTemper_40 {l : Launch} {d : Nat} (hd : 3 ≤ d) (h : jv_H) : jv_E l yX9_takesTemper cX9_takesTemper 2 (some .boolean) d (SC ++ SM) jv_ri [.ref 40] h (f9_takesTemper_40  h) := by
  refine e_of [(0, .ref 40)] rfl pn_X9 (fun _ => Nat.le_of_ble_eq_true rfl) (fun _ => rfl) ?_
  unfold f9_takesTemper_40
  refine v_aload_n 0 1 rfl dX9_takesTemper_0 rfl rfl ?_
  refine v_geti 4 rfl fl_X9_107 sc_40 rfl dX9_takesTemper_1 ?_
  refine v_bipush 6 rfl dX9_takesTemper_4 bp_6 ?_
  refine v_icmp_ne 11 9 rfl rfl dX9_takesTemper_6 (fun _ => ?_) (fun _ => ?_)
  · refine v_aload_n 0 12 rfl dX9_takesTemper_11 rfl rfl ?_
    refine v_aload_n 0 13 rfl dX9_takesTemper_12 rfl rfl ?_
    refine v_geti 16 rfl fl_X9_100 sc_40 rfl dX9_takesTemper_13 ?_
    refine n_callv [.int (h.1 40 19)] [] (fun _ => []) 19 rfl (by omega) (Nat.le_of_ble_eq_true rfl) cb_X9_lookAt cv_X9_103 sc_40 cn_X9 rfl (Nat.le_of_ble_eq_true rfl) dX9_takesTemper_16 rfl (fun _ => rfl) (e9_lookAt_40 (by omega) (h.1 40 19) h) (fun q1 => ?_)
    refine v_aload_n 0 20 rfl dX9_takesTemper_19 rfl rfl ?_
    refine v_iconst 21 rfl dX9_takesTemper_20 ic_0 ?_
    refine v_iconst 22 rfl dX9_takesTemper_21 ic_1 ?_
    refine v_bipush 24 rfl dX9_takesTemper_22 bp_60 ?_
    refine n_callv [.int (0 : Int32), .int (1 : Int32), .int (60 : Int32)] [] (fun r => .int r :: []) 27 rfl (by omega) (Nat.le_of_ble_eq_true rfl) cb_X9_takes cv_X9_110 sc_40 cn_X9 rfl (Nat.le_of_ble_eq_true rfl) dX9_takesTemper_24 rfl (fun _ => rfl) (e9_takes_40 (by omega) (0 : Int32) (1 : Int32) (60 : Int32) q1.2) (fun q2 => ?_)
    refine v_if_eq 51 30 rfl rfl dX9_takesTemper_27 (fun _ => ?_) (fun _ => ?_)
    · refine v_iconst 52 rfl dX9_takesTemper_51 ic_0 ?_
      exact v_zr0 dX9_takesTemper_52
    · refine v_aload_n 0 31 rfl dX9_takesTemper_30 rfl rfl ?_
      refine v_iconst 32 rfl dX9_takesTemper_31 ic_1 ?_
      refine v_iconst 33 rfl dX9_takesTemper_32 ic_0 ?_
      refine v_iconst 34 rfl dX9_takesTemper_33 ic_5 ?_
      refine n_callv [.int (1 : Int32), .int (0 : Int32), .int (5 : Int32)] [] (fun r => .int r :: []) 37 rfl (by omega) (Nat.le_of_ble_eq_true rfl) cb_X9_takes cv_X9_110 sc_40 cn_X9 rfl (Nat.le_of_ble_eq_true rfl) dX9_takesTemper_34 rfl (fun _ => rfl) (e9_takes_40 (by omega) (1 : Int32) (0 : Int32) (5 : Int32) q2.2) (fun q3 => ?_)
      refine v_if_eq 51 40 rfl rfl dX9_takesTemper_37 (fun _ => ?_) (fun _ => ?_)
      · refine v_iconst 52 rfl dX9_takesTemper_51 ic_0 ?_
        exact v_zr0 dX9_takesTemper_52
      · refine v_aload_n 0 41 rfl dX9_takesTemper_40 rfl rfl ?_
        refine v_iconst 42 rfl dX9_takesTemper_41 ic_2 ?_
        refine v_iconst 43 rfl dX9_takesTemper_42 ic_0 ?_
        refine v_bipush 45 rfl dX9_takesTemper_43 bp_40 ?_
        refine n_callv [.int (2 : Int32), .int (0 : Int32), .int (40 : Int32)] [] (fun r => .int r :: []) 48 rfl (by omega) (Nat.le_of_ble_eq_true rfl) cb_X9_takes cv_X9_110 sc_40 cn_X9 rfl (Nat.le_of_ble_eq_true rfl) dX9_takesTemper_45 rfl (fun _ => rfl) (e9_takes_40 (by omega) (2 : Int32) (0 : Int32) (40 : Int32) q3.2) (fun q4 => ?_)
        refine v_if_ne 53 51 rfl rfl dX9_takesTemper_48 (fun _ => ?_) (fun _ => ?_)
        · refine v_iconst 54 rfl dX9_takesTemper_53 ic_0 ?_
          refine n_istore_n (fun x5 => [(0, .ref 40), (1, .int x5)]) 55 rfl dX9_takesTemper_54 rfl (Nat.le_of_ble_eq_true rfl) rfl (fun _ => rfl) (fun x5 => ?_)
          exact w9_takesTemper_40_l55 hd jv_fuel x5 q4.2
        · refine v_iconst 52 rfl dX9_takesTemper_51 ic_0 ?_
          exact v_zr0 dX9_takesTemper_52
  · refine v_iconst 10 rfl dX9_takesTemper_9 ic_0 ?_
    exact v_zr0 dX9_takesTemper_10
