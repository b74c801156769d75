/-! the law's loop: what the invariant must give, call by call -/
theorem lj_in {i k L : Nat} (hi : i + 4 ≤ L) (hk : k < 4) {hL : L ≤ 2048} : jv_ix (nI (i + k)) L := by
  have : (nI (i + k)).toInt = ((i + k : Nat) : Int) := nI_toInt (by omega)
  refine ⟨?_, ?_⟩ <;> rw [this] <;> omega
theorem lj_add1 (i : Nat) : nI i + (1 : Int32) = nI (i + 1) := by rw [show (1 : Int32) = nI 1 from rfl, nI_add]
theorem lj_add2 (i : Nat) : nI i + (2 : Int32) = nI (i + 2) := by rw [show (2 : Int32) = nI 2 from rfl, nI_add]
theorem lj_add3 (i : Nat) : nI i + (3 : Int32) = nI (i + 3) := by rw [show (3 : Int32) = nI 3 from rfl, nI_add]
theorem lj_cmp (r : Int64) : lg_cmp r r = 0 := by simp [lg_cmp]
def ok_type (Inv : jv_H → Prop) : Prop := (∀ (a1 : Int32) (h : jv_H), Inv h → ∃ (r : Int32) (h1 h2 : jv_H), f8_type_0 a1 h = some (r, h1) ∧ f9_type_40 a1 h1 = some (r, h2) ∧ Inv h2)
def ok_clear (Inv : jv_H → Prop) : Prop := (∀ (h : jv_H), Inv h → ∃ (r : Int32) (h1 h2 : jv_H), f8_clear_0 h = some (r, h1) ∧ f9_clear_40 h1 = some (r, h2) ∧ Inv h2)
def ok_hill (Inv : jv_H → Prop) : Prop := (∀ (h : jv_H), Inv h → ∃ (r : Int32) (h1 h2 : jv_H), f8_hill_0 h = some (r, h1) ∧ f9_hill_40 h1 = some (r, h2) ∧ Inv h2)
def ok_temper (Inv : jv_H → Prop) : Prop := (∀ (a1 a2 : Int32) (h : jv_H), Inv h → ∃ (r : Int32) (h1 h2 : jv_H), f8_temper_0 a1 a2 h = some (r, h1) ∧ f9_temper_40 a1 a2 h1 = some (r, h2) ∧ Inv h2)
def ok_nurse (Inv : jv_H → Prop) : Prop := (∀ (a1 a2 : Int32) (h : jv_H), Inv h → ∃ (r : Int32) (h1 h2 : jv_H), f8_nurse_0 a1 a2 h = some (r, h1) ∧ f9_nurse_40 a1 a2 h1 = some (r, h2) ∧ Inv h2)
def ok_sends (Inv : jv_H → Prop) : Prop := (∀ (a1 a2 : Int32) (h : jv_H), Inv h → ∃ (r : Int32) (h1 h2 : jv_H), f8_sends_0 a1 a2 h = some (r, h1) ∧ f9_sends_40 a1 a2 h1 = some (r, h2) ∧ Inv h2)
def ok_fetches (Inv : jv_H → Prop) : Prop := (∀ (a1 : Int32) (h : jv_H), Inv h → ∃ (r : Int32) (h1 h2 : jv_H), f8_fetches_0 a1 h = some (r, h1) ∧ f9_fetches_40 a1 h1 = some (r, h2) ∧ Inv h2)
def ok_visits (Inv : jv_H → Prop) : Prop := (∀ (a1 : Int32) (h : jv_H), Inv h → ∃ (r : Int32) (h1 h2 : jv_H), f8_visits_0 a1 h = some (r, h1) ∧ f9_visits_40 a1 h1 = some (r, h2) ∧ Inv h2)
def ok_mixes (Inv : jv_H → Prop) : Prop := (∀ (a1 a2 : Int32) (h : jv_H), Inv h → ∃ (r : Int32) (h1 h2 : jv_H), f8_mixes_0 a1 a2 h = some (r, h1) ∧ f9_mixes_40 a1 a2 h1 = some (r, h2) ∧ Inv h2)
def ok_years (Inv : jv_H → Prop) : Prop := (∀ (a1 : Int32) (h : jv_H), Inv h → ∃ (r : Int32) (h1 h2 : jv_H), f8_years_0 a1 h = some (r, h1) ∧ f9_years_40 a1 h1 = some (r, h2) ∧ Inv h2)
def ok_undo (Inv : jv_H → Prop) : Prop := (∀ (h : jv_H), Inv h → ∃ (r : Int32) (h1 h2 : jv_H), f8_undo_0 h = some (r, h1) ∧ f9_undo_40 h1 = some (r, h2) ∧ Inv h2)
def ok_now (Inv : jv_H → Prop) : Prop := (∀ (a1 : Int32) (h : jv_H), Inv h → ∃ (r : Int32) (h1 h2 : jv_H), f8_now_0 a1 h = some (r, h1) ∧ f9_now_40 a1 h1 = some (r, h2) ∧ Inv h2)
def ok_when (Inv : jv_H → Prop) : Prop := (∀ (a1 a2 : Int32) (h : jv_H), Inv h → ∃ (r : Int32) (h1 h2 : jv_H), f8_when_0 a1 a2 h = some (r, h1) ∧ f9_when_40 a1 a2 h1 = some (r, h2) ∧ Inv h2)
def ok_hot (Inv : jv_H → Prop) : Prop := (∀ (a1 a2 : Int32) (h : jv_H), Inv h → ∃ (r : Int32) (h1 h2 : jv_H), f8_hot_0 a1 a2 h = some (r, h1) ∧ f9_hot_40 a1 a2 h1 = some (r, h2) ∧ Inv h2)
def ok_plan (Inv : jv_H → Prop) : Prop := (∀ (a1 : Int32) (h : jv_H), Inv h → ∃ (r : Int32) (h1 h2 : jv_H), f8_plan_0 a1 h = some (r, h1) ∧ f9_plan_40 a1 h1 = some (r, h2) ∧ Inv h2)
def ok_best (Inv : jv_H → Prop) : Prop := (∀ (a1 a2 : Int32) (h : jv_H), Inv h → ∃ (r : Int32) (h1 h2 : jv_H), f8_best_0 a1 a2 h = some (r, h1) ∧ f9_best_40 a1 a2 h1 = some (r, h2) ∧ Inv h2)
def ok_beds (Inv : jv_H → Prop) : Prop := (∀ (a1 a2 : Int32) (h : jv_H), Inv h → ∃ (r : Int32) (h1 h2 : jv_H), f8_beds_0 a1 a2 h = some (r, h1) ∧ f9_beds_40 a1 a2 h1 = some (r, h2) ∧ Inv h2)
def ok_odds (Inv : jv_H → Prop) : Prop := (∀ (a1 a2 a3 : Int32) (h : jv_H), Inv h → ∃ (r : Int32) (h1 h2 : jv_H), f8_odds_0 a1 a2 a3 h = some (r, h1) ∧ f9_odds_40 a1 a2 a3 h1 = some (r, h2) ∧ Inv h2)
def ok_hears (Inv : jv_H → Prop) : Prop := (∀ (a1 a2 : Int32) (h : jv_H), Inv h → ∃ (r : Int32) (h1 h2 : jv_H), f8_hears_0 a1 a2 h = some (r, h1) ∧ f9_hears_40 a1 a2 h1 = some (r, h2) ∧ Inv h2)
def ok_forget (Inv : jv_H → Prop) : Prop := (∀ (h : jv_H), Inv h → ∃ (r : Int32) (h1 h2 : jv_H), f8_forget_0 h = some (r, h1) ∧ f9_forget_40 h1 = some (r, h2) ∧ Inv h2)
def ok_whose (Inv : jv_H → Prop) : Prop := (∀ (h : jv_H), Inv h → ∃ (r : Int32) (h1 h2 : jv_H), f8_whose_0 h = some (r, h1) ∧ f9_whose_40 h1 = some (r, h2) ∧ Inv h2)
def ok_ask (Inv : jv_H → Prop) : Prop := (∀ (h : jv_H), Inv h → ∃ (r : Int32) (h1 h2 : jv_H), f8_ask_0 h = some (r, h1) ∧ f9_ask_40 h1 = some (r, h2) ∧ Inv h2)
def ok_mark (Inv : jv_H → Prop) : Prop := (∀ (a1 a2 : Int32) (h : jv_H), Inv h → ∃ (r : Int32) (h1 h2 : jv_H), f8_mark_0 a1 a2 h = some (r, h1) ∧ f9_mark_40 a1 a2 h1 = some (r, h2) ∧ Inv h2)
def ok_keep (Inv : jv_H → Prop) : Prop := (∀ (a1 : Int32) (h : jv_H), Inv h → ∃ (r : Int32) (h1 h2 : jv_H), f8_keep_0 a1 h = some (r, h1) ∧ f9_keep_40 a1 h1 = some (r, h2) ∧ Inv h2)
def ok_back (Inv : jv_H → Prop) : Prop := (∀ (a1 : Int32) (h : jv_H), Inv h → ∃ (r : Int32) (h1 h2 : jv_H), f8_back_0 a1 h = some (r, h1) ∧ f9_back_40 a1 h1 = some (r, h2) ∧ Inv h2)
def ok_count (Inv : jv_H → Prop) : Prop := (∀ (a1 : Int32) (h : jv_H), Inv h → ∃ (r : Int32) (h1 h2 : jv_H), f8_count_0 a1 h = some (r, h1) ∧ f9_count_40 a1 h1 = some (r, h2) ∧ Inv h2)
def ok_trace (Inv : jv_H → Prop) : Prop := (∀ (h : jv_H), Inv h → ∃ (r : Int64) (h1 h2 : jv_H), f8_trace_0 h = some (r, h1) ∧ f9_trace_40 h1 = some (r, h2) ∧ Inv h2)
def lw_ok (Inv : jv_H → Prop) : Prop := ok_type Inv ∧ ok_clear Inv ∧ ok_hill Inv ∧ ok_temper Inv ∧ ok_nurse Inv ∧ ok_sends Inv ∧ ok_fetches Inv ∧ ok_visits Inv ∧ ok_mixes Inv ∧ ok_years Inv ∧ ok_undo Inv ∧ ok_now Inv ∧ ok_when Inv ∧ ok_hot Inv ∧ ok_plan Inv ∧ ok_best Inv ∧ ok_beds Inv ∧ ok_odds Inv ∧ ok_hears Inv ∧ ok_forget Inv ∧ ok_whose Inv ∧ ok_ask Inv ∧ ok_mark Inv ∧ ok_keep Inv ∧ ok_back Inv ∧ ok_count Inv ∧ ok_trace Inv
theorem lj_next {l : Launch} {b L : Nat} {xs : Nat → Int32} {i : Nat} {h : jv_H} (k : lj_V l b L xs 18 [(0, .ref 2000), (1, .ref 0), (2, .ref 40), (3, .int (nI (i + 4)))] [] h) : lj_V l b L xs 828 [(0, .ref 2000), (1, .ref 0), (2, .ref 40), (3, .int (nI i))] [] h := by
  refine lj_iinc (v := nI (i + 4)) 3 831 rfl dL_law_828 rfl (by rw [show Int32.ofInt 4 = nI 4 from rfl, nI_add]) (by decide) rfl rfl ?_
  exact lj_goto 18 rfl dL_law_831 k
set_option maxRecDepth 20000 in
theorem lc_type {Inv : jv_H → Prop} (hok : ok_type Inv) {l : Launch} {b L : Nat} {xs : Nat → Int32} {i : Nat} {h : jv_H} (hL : L ≤ 2048) (hi : i + 4 ≤ L) (hI : Inv h) (k : ∀ h2, Inv h2 → lj_V l b L xs 18 [(0, .ref 2000), (1, .ref 0), (2, .ref 40), (3, .int (nI (i + 4)))] [] h2) : lj_V l b L xs 156 [(0, .ref 2000), (1, .ref 0), (2, .ref 40), (3, .int (nI i))] [] h := by
  obtain ⟨r, h1, h2, e1, e2, hI2⟩ := hok (xs (i + 1)) h hI
  refine lj_aload_n 1 157 rfl dL_law_156 rfl rfl ?_
  refine lj_aload_n 0 158 rfl dL_law_157 rfl rfl ?_
  refine lj_iload_n 3 159 rfl dL_law_158 rfl rfl ?_
  refine lj_iconst 160 rfl dL_law_159 ic_1 ?_
  refine lj_iadd 161 rfl dL_law_160 ?_
  rw [lj_add1 i]
  refine lj_sld 162 rfl (lj_in (hL := hL) hi (by decide)) dL_law_161 ?_
  rw [nI_clamp (show i + 1 < 2 ^ 31 by omega)]
  refine lj_call (a := 0) [.int (xs (i + 1))] [] (.int r :: []) 165 rfl (Nat.le_of_ble_eq_true rfl) cb_X8_type cv_L_13 sc_0 cn_X8 rfl (Nat.le_of_ble_eq_true rfl) dL_law_162 rfl (e8_type_0 (by decide) (xs (i + 1)) h) e1 rfl ?_
  refine lj_aload_n 2 166 rfl dL_law_165 rfl rfl ?_
  refine lj_aload_n 0 167 rfl dL_law_166 rfl rfl ?_
  refine lj_iload_n 3 168 rfl dL_law_167 rfl rfl ?_
  refine lj_iconst 169 rfl dL_law_168 ic_1 ?_
  refine lj_iadd 170 rfl dL_law_169 ?_
  rw [lj_add1 i]
  refine lj_sld 171 rfl (lj_in (hL := hL) hi (by decide)) dL_law_170 ?_
  rw [nI_clamp (show i + 1 < 2 ^ 31 by omega)]
  refine lj_call (a := 40) [.int (xs (i + 1))] [.int r] (.int r :: [.int r]) 174 rfl (Nat.le_of_ble_eq_true rfl) cb_X9_type cv_L_17 sc_40 cn_X9 rfl (Nat.le_of_ble_eq_true rfl) dL_law_171 rfl (e9_type_40 (by decide) (xs (i + 1)) h1) e2 rfl ?_
  refine lj_same 828 rfl dL_law_174 ?_
  exact lj_next (k h2 hI2)
set_option maxRecDepth 20000 in
theorem lc_clear {Inv : jv_H → Prop} (hok : ok_clear Inv) {l : Launch} {b L : Nat} {xs : Nat → Int32} {i : Nat} {h : jv_H} (hL : L ≤ 2048) (hi : i + 4 ≤ L) (hI : Inv h) (k : ∀ h2, Inv h2 → lj_V l b L xs 18 [(0, .ref 2000), (1, .ref 0), (2, .ref 40), (3, .int (nI (i + 4)))] [] h2) : lj_V l b L xs 179 [(0, .ref 2000), (1, .ref 0), (2, .ref 40), (3, .int (nI i))] [] h := by
  obtain ⟨r, h1, h2, e1, e2, hI2⟩ := hok  h hI
  refine lj_aload_n 1 180 rfl dL_law_179 rfl rfl ?_
  refine lj_call (a := 0) [] [] (.int r :: []) 183 rfl (Nat.le_of_ble_eq_true rfl) cb_X8_clear cv_L_18 sc_0 cn_X8 rfl (Nat.le_of_ble_eq_true rfl) dL_law_180 rfl (e8_clear_0 (by decide) h) e1 rfl ?_
  refine lj_aload_n 2 184 rfl dL_law_183 rfl rfl ?_
  refine lj_call (a := 40) [] [.int r] (.int r :: [.int r]) 187 rfl (Nat.le_of_ble_eq_true rfl) cb_X9_clear cv_L_22 sc_40 cn_X9 rfl (Nat.le_of_ble_eq_true rfl) dL_law_184 rfl (e9_clear_40 (by decide) h1) e2 rfl ?_
  refine lj_same 828 rfl dL_law_187 ?_
  exact lj_next (k h2 hI2)
set_option maxRecDepth 20000 in
theorem lc_hill {Inv : jv_H → Prop} (hok : ok_hill Inv) {l : Launch} {b L : Nat} {xs : Nat → Int32} {i : Nat} {h : jv_H} (hL : L ≤ 2048) (hi : i + 4 ≤ L) (hI : Inv h) (k : ∀ h2, Inv h2 → lj_V l b L xs 18 [(0, .ref 2000), (1, .ref 0), (2, .ref 40), (3, .int (nI (i + 4)))] [] h2) : lj_V l b L xs 192 [(0, .ref 2000), (1, .ref 0), (2, .ref 40), (3, .int (nI i))] [] h := by
  obtain ⟨r, h1, h2, e1, e2, hI2⟩ := hok  h hI
  refine lj_aload_n 1 193 rfl dL_law_192 rfl rfl ?_
  refine lj_call (a := 0) [] [] (.int r :: []) 196 rfl (Nat.le_of_ble_eq_true rfl) cb_X8_hill cv_L_23 sc_0 cn_X8 rfl (Nat.le_of_ble_eq_true rfl) dL_law_193 rfl (e8_hill_0 (by decide) h) e1 rfl ?_
  refine lj_aload_n 2 197 rfl dL_law_196 rfl rfl ?_
  refine lj_call (a := 40) [] [.int r] (.int r :: [.int r]) 200 rfl (Nat.le_of_ble_eq_true rfl) cb_X9_hill cv_L_26 sc_40 cn_X9 rfl (Nat.le_of_ble_eq_true rfl) dL_law_197 rfl (e9_hill_40 (by decide) h1) e2 rfl ?_
  refine lj_same 828 rfl dL_law_200 ?_
  exact lj_next (k h2 hI2)
set_option maxRecDepth 20000 in
theorem lc_temper {Inv : jv_H → Prop} (hok : ok_temper Inv) {l : Launch} {b L : Nat} {xs : Nat → Int32} {i : Nat} {h : jv_H} (hL : L ≤ 2048) (hi : i + 4 ≤ L) (hI : Inv h) (k : ∀ h2, Inv h2 → lj_V l b L xs 18 [(0, .ref 2000), (1, .ref 0), (2, .ref 40), (3, .int (nI (i + 4)))] [] h2) : lj_V l b L xs 205 [(0, .ref 2000), (1, .ref 0), (2, .ref 40), (3, .int (nI i))] [] h := by
  obtain ⟨r, h1, h2, e1, e2, hI2⟩ := hok (xs (i + 1)) (xs (i + 2)) h hI
  refine lj_aload_n 1 206 rfl dL_law_205 rfl rfl ?_
  refine lj_aload_n 0 207 rfl dL_law_206 rfl rfl ?_
  refine lj_iload_n 3 208 rfl dL_law_207 rfl rfl ?_
  refine lj_iconst 209 rfl dL_law_208 ic_1 ?_
  refine lj_iadd 210 rfl dL_law_209 ?_
  rw [lj_add1 i]
  refine lj_sld 211 rfl (lj_in (hL := hL) hi (by decide)) dL_law_210 ?_
  rw [nI_clamp (show i + 1 < 2 ^ 31 by omega)]
  refine lj_aload_n 0 212 rfl dL_law_211 rfl rfl ?_
  refine lj_iload_n 3 213 rfl dL_law_212 rfl rfl ?_
  refine lj_iconst 214 rfl dL_law_213 ic_2 ?_
  refine lj_iadd 215 rfl dL_law_214 ?_
  rw [lj_add2 i]
  refine lj_sld 216 rfl (lj_in (hL := hL) hi (by decide)) dL_law_215 ?_
  rw [nI_clamp (show i + 2 < 2 ^ 31 by omega)]
  refine lj_call (a := 0) [.int (xs (i + 1)), .int (xs (i + 2))] [] (.int r :: []) 219 rfl (Nat.le_of_ble_eq_true rfl) cb_X8_temper cv_L_27 sc_0 cn_X8 rfl (Nat.le_of_ble_eq_true rfl) dL_law_216 rfl (e8_temper_0 (by decide) (xs (i + 1)) (xs (i + 2)) h) e1 rfl ?_
  refine lj_aload_n 2 220 rfl dL_law_219 rfl rfl ?_
  refine lj_aload_n 0 221 rfl dL_law_220 rfl rfl ?_
  refine lj_iload_n 3 222 rfl dL_law_221 rfl rfl ?_
  refine lj_iconst 223 rfl dL_law_222 ic_1 ?_
  refine lj_iadd 224 rfl dL_law_223 ?_
  rw [lj_add1 i]
  refine lj_sld 225 rfl (lj_in (hL := hL) hi (by decide)) dL_law_224 ?_
  rw [nI_clamp (show i + 1 < 2 ^ 31 by omega)]
  refine lj_aload_n 0 226 rfl dL_law_225 rfl rfl ?_
  refine lj_iload_n 3 227 rfl dL_law_226 rfl rfl ?_
  refine lj_iconst 228 rfl dL_law_227 ic_2 ?_
  refine lj_iadd 229 rfl dL_law_228 ?_
  rw [lj_add2 i]
  refine lj_sld 230 rfl (lj_in (hL := hL) hi (by decide)) dL_law_229 ?_
  rw [nI_clamp (show i + 2 < 2 ^ 31 by omega)]
  refine lj_call (a := 40) [.int (xs (i + 1)), .int (xs (i + 2))] [.int r] (.int r :: [.int r]) 233 rfl (Nat.le_of_ble_eq_true rfl) cb_X9_temper cv_L_31 sc_40 cn_X9 rfl (Nat.le_of_ble_eq_true rfl) dL_law_230 rfl (e9_temper_40 (by decide) (xs (i + 1)) (xs (i + 2)) h1) e2 rfl ?_
  refine lj_same 828 rfl dL_law_233 ?_
  exact lj_next (k h2 hI2)
set_option maxRecDepth 20000 in
theorem lc_nurse {Inv : jv_H → Prop} (hok : ok_nurse Inv) {l : Launch} {b L : Nat} {xs : Nat → Int32} {i : Nat} {h : jv_H} (hL : L ≤ 2048) (hi : i + 4 ≤ L) (hI : Inv h) (k : ∀ h2, Inv h2 → lj_V l b L xs 18 [(0, .ref 2000), (1, .ref 0), (2, .ref 40), (3, .int (nI (i + 4)))] [] h2) : lj_V l b L xs 238 [(0, .ref 2000), (1, .ref 0), (2, .ref 40), (3, .int (nI i))] [] h := by
  obtain ⟨r, h1, h2, e1, e2, hI2⟩ := hok (xs (i + 1)) (xs (i + 2)) h hI
  refine lj_aload_n 1 239 rfl dL_law_238 rfl rfl ?_
  refine lj_aload_n 0 240 rfl dL_law_239 rfl rfl ?_
  refine lj_iload_n 3 241 rfl dL_law_240 rfl rfl ?_
  refine lj_iconst 242 rfl dL_law_241 ic_1 ?_
  refine lj_iadd 243 rfl dL_law_242 ?_
  rw [lj_add1 i]
  refine lj_sld 244 rfl (lj_in (hL := hL) hi (by decide)) dL_law_243 ?_
  rw [nI_clamp (show i + 1 < 2 ^ 31 by omega)]
  refine lj_aload_n 0 245 rfl dL_law_244 rfl rfl ?_
  refine lj_iload_n 3 246 rfl dL_law_245 rfl rfl ?_
  refine lj_iconst 247 rfl dL_law_246 ic_2 ?_
  refine lj_iadd 248 rfl dL_law_247 ?_
  rw [lj_add2 i]
  refine lj_sld 249 rfl (lj_in (hL := hL) hi (by decide)) dL_law_248 ?_
  rw [nI_clamp (show i + 2 < 2 ^ 31 by omega)]
  refine lj_call (a := 0) [.int (xs (i + 1)), .int (xs (i + 2))] [] (.int r :: []) 252 rfl (Nat.le_of_ble_eq_true rfl) cb_X8_nurse cv_L_32 sc_0 cn_X8 rfl (Nat.le_of_ble_eq_true rfl) dL_law_249 rfl (e8_nurse_0 (by decide) (xs (i + 1)) (xs (i + 2)) h) e1 rfl ?_
  refine lj_aload_n 2 253 rfl dL_law_252 rfl rfl ?_
  refine lj_aload_n 0 254 rfl dL_law_253 rfl rfl ?_
  refine lj_iload_n 3 255 rfl dL_law_254 rfl rfl ?_
  refine lj_iconst 256 rfl dL_law_255 ic_1 ?_
  refine lj_iadd 257 rfl dL_law_256 ?_
  rw [lj_add1 i]
  refine lj_sld 258 rfl (lj_in (hL := hL) hi (by decide)) dL_law_257 ?_
  rw [nI_clamp (show i + 1 < 2 ^ 31 by omega)]
  refine lj_aload_n 0 259 rfl dL_law_258 rfl rfl ?_
  refine lj_iload_n 3 260 rfl dL_law_259 rfl rfl ?_
  refine lj_iconst 261 rfl dL_law_260 ic_2 ?_
  refine lj_iadd 262 rfl dL_law_261 ?_
  rw [lj_add2 i]
  refine lj_sld 263 rfl (lj_in (hL := hL) hi (by decide)) dL_law_262 ?_
  rw [nI_clamp (show i + 2 < 2 ^ 31 by omega)]
  refine lj_call (a := 40) [.int (xs (i + 1)), .int (xs (i + 2))] [.int r] (.int r :: [.int r]) 266 rfl (Nat.le_of_ble_eq_true rfl) cb_X9_nurse cv_L_35 sc_40 cn_X9 rfl (Nat.le_of_ble_eq_true rfl) dL_law_263 rfl (e9_nurse_40 (by decide) (xs (i + 1)) (xs (i + 2)) h1) e2 rfl ?_
  refine lj_same 828 rfl dL_law_266 ?_
  exact lj_next (k h2 hI2)
set_option maxRecDepth 20000 in
theorem lc_sends {Inv : jv_H → Prop} (hok : ok_sends Inv) {l : Launch} {b L : Nat} {xs : Nat → Int32} {i : Nat} {h : jv_H} (hL : L ≤ 2048) (hi : i + 4 ≤ L) (hI : Inv h) (k : ∀ h2, Inv h2 → lj_V l b L xs 18 [(0, .ref 2000), (1, .ref 0), (2, .ref 40), (3, .int (nI (i + 4)))] [] h2) : lj_V l b L xs 271 [(0, .ref 2000), (1, .ref 0), (2, .ref 40), (3, .int (nI i))] [] h := by
  obtain ⟨r, h1, h2, e1, e2, hI2⟩ := hok (xs (i + 1)) (xs (i + 2)) h hI
  refine lj_aload_n 1 272 rfl dL_law_271 rfl rfl ?_
  refine lj_aload_n 0 273 rfl dL_law_272 rfl rfl ?_
  refine lj_iload_n 3 274 rfl dL_law_273 rfl rfl ?_
  refine lj_iconst 275 rfl dL_law_274 ic_1 ?_
  refine lj_iadd 276 rfl dL_law_275 ?_
  rw [lj_add1 i]
  refine lj_sld 277 rfl (lj_in (hL := hL) hi (by decide)) dL_law_276 ?_
  rw [nI_clamp (show i + 1 < 2 ^ 31 by omega)]
  refine lj_aload_n 0 278 rfl dL_law_277 rfl rfl ?_
  refine lj_iload_n 3 279 rfl dL_law_278 rfl rfl ?_
  refine lj_iconst 280 rfl dL_law_279 ic_2 ?_
  refine lj_iadd 281 rfl dL_law_280 ?_
  rw [lj_add2 i]
  refine lj_sld 282 rfl (lj_in (hL := hL) hi (by decide)) dL_law_281 ?_
  rw [nI_clamp (show i + 2 < 2 ^ 31 by omega)]
  refine lj_call (a := 0) [.int (xs (i + 1)), .int (xs (i + 2))] [] (.int r :: []) 285 rfl (Nat.le_of_ble_eq_true rfl) cb_X8_sends cv_L_36 sc_0 cn_X8 rfl (Nat.le_of_ble_eq_true rfl) dL_law_282 rfl (e8_sends_0 (by decide) (xs (i + 1)) (xs (i + 2)) h) e1 rfl ?_
  refine lj_aload_n 2 286 rfl dL_law_285 rfl rfl ?_
  refine lj_aload_n 0 287 rfl dL_law_286 rfl rfl ?_
  refine lj_iload_n 3 288 rfl dL_law_287 rfl rfl ?_
  refine lj_iconst 289 rfl dL_law_288 ic_1 ?_
  refine lj_iadd 290 rfl dL_law_289 ?_
  rw [lj_add1 i]
  refine lj_sld 291 rfl (lj_in (hL := hL) hi (by decide)) dL_law_290 ?_
  rw [nI_clamp (show i + 1 < 2 ^ 31 by omega)]
  refine lj_aload_n 0 292 rfl dL_law_291 rfl rfl ?_
  refine lj_iload_n 3 293 rfl dL_law_292 rfl rfl ?_
  refine lj_iconst 294 rfl dL_law_293 ic_2 ?_
  refine lj_iadd 295 rfl dL_law_294 ?_
  rw [lj_add2 i]
  refine lj_sld 296 rfl (lj_in (hL := hL) hi (by decide)) dL_law_295 ?_
  rw [nI_clamp (show i + 2 < 2 ^ 31 by omega)]
  refine lj_call (a := 40) [.int (xs (i + 1)), .int (xs (i + 2))] [.int r] (.int r :: [.int r]) 299 rfl (Nat.le_of_ble_eq_true rfl) cb_X9_sends cv_L_39 sc_40 cn_X9 rfl (Nat.le_of_ble_eq_true rfl) dL_law_296 rfl (e9_sends_40 (by decide) (xs (i + 1)) (xs (i + 2)) h1) e2 rfl ?_
  refine lj_same 828 rfl dL_law_299 ?_
  exact lj_next (k h2 hI2)
set_option maxRecDepth 20000 in
theorem lc_fetches {Inv : jv_H → Prop} (hok : ok_fetches Inv) {l : Launch} {b L : Nat} {xs : Nat → Int32} {i : Nat} {h : jv_H} (hL : L ≤ 2048) (hi : i + 4 ≤ L) (hI : Inv h) (k : ∀ h2, Inv h2 → lj_V l b L xs 18 [(0, .ref 2000), (1, .ref 0), (2, .ref 40), (3, .int (nI (i + 4)))] [] h2) : lj_V l b L xs 304 [(0, .ref 2000), (1, .ref 0), (2, .ref 40), (3, .int (nI i))] [] h := by
  obtain ⟨r, h1, h2, e1, e2, hI2⟩ := hok (xs (i + 1)) h hI
  refine lj_aload_n 1 305 rfl dL_law_304 rfl rfl ?_
  refine lj_aload_n 0 306 rfl dL_law_305 rfl rfl ?_
  refine lj_iload_n 3 307 rfl dL_law_306 rfl rfl ?_
  refine lj_iconst 308 rfl dL_law_307 ic_1 ?_
  refine lj_iadd 309 rfl dL_law_308 ?_
  rw [lj_add1 i]
  refine lj_sld 310 rfl (lj_in (hL := hL) hi (by decide)) dL_law_309 ?_
  rw [nI_clamp (show i + 1 < 2 ^ 31 by omega)]
  refine lj_call (a := 0) [.int (xs (i + 1))] [] (.int r :: []) 313 rfl (Nat.le_of_ble_eq_true rfl) cb_X8_fetches cv_L_40 sc_0 cn_X8 rfl (Nat.le_of_ble_eq_true rfl) dL_law_310 rfl (e8_fetches_0 (by decide) (xs (i + 1)) h) e1 rfl ?_
  refine lj_aload_n 2 314 rfl dL_law_313 rfl rfl ?_
  refine lj_aload_n 0 315 rfl dL_law_314 rfl rfl ?_
  refine lj_iload_n 3 316 rfl dL_law_315 rfl rfl ?_
  refine lj_iconst 317 rfl dL_law_316 ic_1 ?_
  refine lj_iadd 318 rfl dL_law_317 ?_
  rw [lj_add1 i]
  refine lj_sld 319 rfl (lj_in (hL := hL) hi (by decide)) dL_law_318 ?_
  rw [nI_clamp (show i + 1 < 2 ^ 31 by omega)]
  refine lj_call (a := 40) [.int (xs (i + 1))] [.int r] (.int r :: [.int r]) 322 rfl (Nat.le_of_ble_eq_true rfl) cb_X9_fetches cv_L_43 sc_40 cn_X9 rfl (Nat.le_of_ble_eq_true rfl) dL_law_319 rfl (e9_fetches_40 (by decide) (xs (i + 1)) h1) e2 rfl ?_
  refine lj_same 828 rfl dL_law_322 ?_
  exact lj_next (k h2 hI2)
set_option maxRecDepth 20000 in
theorem lc_visits {Inv : jv_H → Prop} (hok : ok_visits Inv) {l : Launch} {b L : Nat} {xs : Nat → Int32} {i : Nat} {h : jv_H} (hL : L ≤ 2048) (hi : i + 4 ≤ L) (hI : Inv h) (k : ∀ h2, Inv h2 → lj_V l b L xs 18 [(0, .ref 2000), (1, .ref 0), (2, .ref 40), (3, .int (nI (i + 4)))] [] h2) : lj_V l b L xs 327 [(0, .ref 2000), (1, .ref 0), (2, .ref 40), (3, .int (nI i))] [] h := by
  obtain ⟨r, h1, h2, e1, e2, hI2⟩ := hok (xs (i + 1)) h hI
  refine lj_aload_n 1 328 rfl dL_law_327 rfl rfl ?_
  refine lj_aload_n 0 329 rfl dL_law_328 rfl rfl ?_
  refine lj_iload_n 3 330 rfl dL_law_329 rfl rfl ?_
  refine lj_iconst 331 rfl dL_law_330 ic_1 ?_
  refine lj_iadd 332 rfl dL_law_331 ?_
  rw [lj_add1 i]
  refine lj_sld 333 rfl (lj_in (hL := hL) hi (by decide)) dL_law_332 ?_
  rw [nI_clamp (show i + 1 < 2 ^ 31 by omega)]
  refine lj_call (a := 0) [.int (xs (i + 1))] [] (.int r :: []) 336 rfl (Nat.le_of_ble_eq_true rfl) cb_X8_visits cv_L_44 sc_0 cn_X8 rfl (Nat.le_of_ble_eq_true rfl) dL_law_333 rfl (e8_visits_0 (by decide) (xs (i + 1)) h) e1 rfl ?_
  refine lj_aload_n 2 337 rfl dL_law_336 rfl rfl ?_
  refine lj_aload_n 0 338 rfl dL_law_337 rfl rfl ?_
  refine lj_iload_n 3 339 rfl dL_law_338 rfl rfl ?_
  refine lj_iconst 340 rfl dL_law_339 ic_1 ?_
  refine lj_iadd 341 rfl dL_law_340 ?_
  rw [lj_add1 i]
  refine lj_sld 342 rfl (lj_in (hL := hL) hi (by decide)) dL_law_341 ?_
  rw [nI_clamp (show i + 1 < 2 ^ 31 by omega)]
  refine lj_call (a := 40) [.int (xs (i + 1))] [.int r] (.int r :: [.int r]) 345 rfl (Nat.le_of_ble_eq_true rfl) cb_X9_visits cv_L_47 sc_40 cn_X9 rfl (Nat.le_of_ble_eq_true rfl) dL_law_342 rfl (e9_visits_40 (by decide) (xs (i + 1)) h1) e2 rfl ?_
  refine lj_same 828 rfl dL_law_345 ?_
  exact lj_next (k h2 hI2)
set_option maxRecDepth 20000 in
theorem lc_mixes {Inv : jv_H → Prop} (hok : ok_mixes Inv) {l : Launch} {b L : Nat} {xs : Nat → Int32} {i : Nat} {h : jv_H} (hL : L ≤ 2048) (hi : i + 4 ≤ L) (hI : Inv h) (k : ∀ h2, Inv h2 → lj_V l b L xs 18 [(0, .ref 2000), (1, .ref 0), (2, .ref 40), (3, .int (nI (i + 4)))] [] h2) : lj_V l b L xs 350 [(0, .ref 2000), (1, .ref 0), (2, .ref 40), (3, .int (nI i))] [] h := by
  obtain ⟨r, h1, h2, e1, e2, hI2⟩ := hok (xs (i + 1)) (xs (i + 2)) h hI
  refine lj_aload_n 1 351 rfl dL_law_350 rfl rfl ?_
  refine lj_aload_n 0 352 rfl dL_law_351 rfl rfl ?_
  refine lj_iload_n 3 353 rfl dL_law_352 rfl rfl ?_
  refine lj_iconst 354 rfl dL_law_353 ic_1 ?_
  refine lj_iadd 355 rfl dL_law_354 ?_
  rw [lj_add1 i]
  refine lj_sld 356 rfl (lj_in (hL := hL) hi (by decide)) dL_law_355 ?_
  rw [nI_clamp (show i + 1 < 2 ^ 31 by omega)]
  refine lj_aload_n 0 357 rfl dL_law_356 rfl rfl ?_
  refine lj_iload_n 3 358 rfl dL_law_357 rfl rfl ?_
  refine lj_iconst 359 rfl dL_law_358 ic_2 ?_
  refine lj_iadd 360 rfl dL_law_359 ?_
  rw [lj_add2 i]
  refine lj_sld 361 rfl (lj_in (hL := hL) hi (by decide)) dL_law_360 ?_
  rw [nI_clamp (show i + 2 < 2 ^ 31 by omega)]
  refine lj_call (a := 0) [.int (xs (i + 1)), .int (xs (i + 2))] [] (.int r :: []) 364 rfl (Nat.le_of_ble_eq_true rfl) cb_X8_mixes cv_L_48 sc_0 cn_X8 rfl (Nat.le_of_ble_eq_true rfl) dL_law_361 rfl (e8_mixes_0 (by decide) (xs (i + 1)) (xs (i + 2)) h) e1 rfl ?_
  refine lj_aload_n 2 365 rfl dL_law_364 rfl rfl ?_
  refine lj_aload_n 0 366 rfl dL_law_365 rfl rfl ?_
  refine lj_iload_n 3 367 rfl dL_law_366 rfl rfl ?_
  refine lj_iconst 368 rfl dL_law_367 ic_1 ?_
  refine lj_iadd 369 rfl dL_law_368 ?_
  rw [lj_add1 i]
  refine lj_sld 370 rfl (lj_in (hL := hL) hi (by decide)) dL_law_369 ?_
  rw [nI_clamp (show i + 1 < 2 ^ 31 by omega)]
  refine lj_aload_n 0 371 rfl dL_law_370 rfl rfl ?_
  refine lj_iload_n 3 372 rfl dL_law_371 rfl rfl ?_
  refine lj_iconst 373 rfl dL_law_372 ic_2 ?_
  refine lj_iadd 374 rfl dL_law_373 ?_
  rw [lj_add2 i]
  refine lj_sld 375 rfl (lj_in (hL := hL) hi (by decide)) dL_law_374 ?_
  rw [nI_clamp (show i + 2 < 2 ^ 31 by omega)]
  refine lj_call (a := 40) [.int (xs (i + 1)), .int (xs (i + 2))] [.int r] (.int r :: [.int r]) 378 rfl (Nat.le_of_ble_eq_true rfl) cb_X9_mixes cv_L_51 sc_40 cn_X9 rfl (Nat.le_of_ble_eq_true rfl) dL_law_375 rfl (e9_mixes_40 (by decide) (xs (i + 1)) (xs (i + 2)) h1) e2 rfl ?_
  refine lj_same 828 rfl dL_law_378 ?_
  exact lj_next (k h2 hI2)
set_option maxRecDepth 20000 in
theorem lc_years {Inv : jv_H → Prop} (hok : ok_years Inv) {l : Launch} {b L : Nat} {xs : Nat → Int32} {i : Nat} {h : jv_H} (hL : L ≤ 2048) (hi : i + 4 ≤ L) (hI : Inv h) (k : ∀ h2, Inv h2 → lj_V l b L xs 18 [(0, .ref 2000), (1, .ref 0), (2, .ref 40), (3, .int (nI (i + 4)))] [] h2) : lj_V l b L xs 383 [(0, .ref 2000), (1, .ref 0), (2, .ref 40), (3, .int (nI i))] [] h := by
  obtain ⟨r, h1, h2, e1, e2, hI2⟩ := hok (xs (i + 1)) h hI
  refine lj_aload_n 1 384 rfl dL_law_383 rfl rfl ?_
  refine lj_aload_n 0 385 rfl dL_law_384 rfl rfl ?_
  refine lj_iload_n 3 386 rfl dL_law_385 rfl rfl ?_
  refine lj_iconst 387 rfl dL_law_386 ic_1 ?_
  refine lj_iadd 388 rfl dL_law_387 ?_
  rw [lj_add1 i]
  refine lj_sld 389 rfl (lj_in (hL := hL) hi (by decide)) dL_law_388 ?_
  rw [nI_clamp (show i + 1 < 2 ^ 31 by omega)]
  refine lj_call (a := 0) [.int (xs (i + 1))] [] (.int r :: []) 392 rfl (Nat.le_of_ble_eq_true rfl) cb_X8_years cv_L_52 sc_0 cn_X8 rfl (Nat.le_of_ble_eq_true rfl) dL_law_389 rfl (e8_years_0 (by decide) (xs (i + 1)) h) e1 rfl ?_
  refine lj_aload_n 2 393 rfl dL_law_392 rfl rfl ?_
  refine lj_aload_n 0 394 rfl dL_law_393 rfl rfl ?_
  refine lj_iload_n 3 395 rfl dL_law_394 rfl rfl ?_
  refine lj_iconst 396 rfl dL_law_395 ic_1 ?_
  refine lj_iadd 397 rfl dL_law_396 ?_
  rw [lj_add1 i]
  refine lj_sld 398 rfl (lj_in (hL := hL) hi (by decide)) dL_law_397 ?_
  rw [nI_clamp (show i + 1 < 2 ^ 31 by omega)]
  refine lj_call (a := 40) [.int (xs (i + 1))] [.int r] (.int r :: [.int r]) 401 rfl (Nat.le_of_ble_eq_true rfl) cb_X9_years cv_L_55 sc_40 cn_X9 rfl (Nat.le_of_ble_eq_true rfl) dL_law_398 rfl (e9_years_40 (by decide) (xs (i + 1)) h1) e2 rfl ?_
  refine lj_same 828 rfl dL_law_401 ?_
  exact lj_next (k h2 hI2)
set_option maxRecDepth 20000 in
theorem lc_undo {Inv : jv_H → Prop} (hok : ok_undo Inv) {l : Launch} {b L : Nat} {xs : Nat → Int32} {i : Nat} {h : jv_H} (hL : L ≤ 2048) (hi : i + 4 ≤ L) (hI : Inv h) (k : ∀ h2, Inv h2 → lj_V l b L xs 18 [(0, .ref 2000), (1, .ref 0), (2, .ref 40), (3, .int (nI (i + 4)))] [] h2) : lj_V l b L xs 406 [(0, .ref 2000), (1, .ref 0), (2, .ref 40), (3, .int (nI i))] [] h := by
  obtain ⟨r, h1, h2, e1, e2, hI2⟩ := hok  h hI
  refine lj_aload_n 1 407 rfl dL_law_406 rfl rfl ?_
  refine lj_call (a := 0) [] [] (.int r :: []) 410 rfl (Nat.le_of_ble_eq_true rfl) cb_X8_undo cv_L_56 sc_0 cn_X8 rfl (Nat.le_of_ble_eq_true rfl) dL_law_407 rfl (e8_undo_0 (by decide) h) e1 rfl ?_
  refine lj_aload_n 2 411 rfl dL_law_410 rfl rfl ?_
  refine lj_call (a := 40) [] [.int r] (.int r :: [.int r]) 414 rfl (Nat.le_of_ble_eq_true rfl) cb_X9_undo cv_L_59 sc_40 cn_X9 rfl (Nat.le_of_ble_eq_true rfl) dL_law_411 rfl (e9_undo_40 (by decide) h1) e2 rfl ?_
  refine lj_same 828 rfl dL_law_414 ?_
  exact lj_next (k h2 hI2)
set_option maxRecDepth 20000 in
theorem lc_now {Inv : jv_H → Prop} (hok : ok_now Inv) {l : Launch} {b L : Nat} {xs : Nat → Int32} {i : Nat} {h : jv_H} (hL : L ≤ 2048) (hi : i + 4 ≤ L) (hI : Inv h) (k : ∀ h2, Inv h2 → lj_V l b L xs 18 [(0, .ref 2000), (1, .ref 0), (2, .ref 40), (3, .int (nI (i + 4)))] [] h2) : lj_V l b L xs 419 [(0, .ref 2000), (1, .ref 0), (2, .ref 40), (3, .int (nI i))] [] h := by
  obtain ⟨r, h1, h2, e1, e2, hI2⟩ := hok (xs (i + 1)) h hI
  refine lj_aload_n 1 420 rfl dL_law_419 rfl rfl ?_
  refine lj_aload_n 0 421 rfl dL_law_420 rfl rfl ?_
  refine lj_iload_n 3 422 rfl dL_law_421 rfl rfl ?_
  refine lj_iconst 423 rfl dL_law_422 ic_1 ?_
  refine lj_iadd 424 rfl dL_law_423 ?_
  rw [lj_add1 i]
  refine lj_sld 425 rfl (lj_in (hL := hL) hi (by decide)) dL_law_424 ?_
  rw [nI_clamp (show i + 1 < 2 ^ 31 by omega)]
  refine lj_call (a := 0) [.int (xs (i + 1))] [] (.int r :: []) 428 rfl (Nat.le_of_ble_eq_true rfl) cb_X8_now cv_L_60 sc_0 cn_X8 rfl (Nat.le_of_ble_eq_true rfl) dL_law_425 rfl (e8_now_0 (by decide) (xs (i + 1)) h) e1 rfl ?_
  refine lj_aload_n 2 429 rfl dL_law_428 rfl rfl ?_
  refine lj_aload_n 0 430 rfl dL_law_429 rfl rfl ?_
  refine lj_iload_n 3 431 rfl dL_law_430 rfl rfl ?_
  refine lj_iconst 432 rfl dL_law_431 ic_1 ?_
  refine lj_iadd 433 rfl dL_law_432 ?_
  rw [lj_add1 i]
  refine lj_sld 434 rfl (lj_in (hL := hL) hi (by decide)) dL_law_433 ?_
  rw [nI_clamp (show i + 1 < 2 ^ 31 by omega)]
  refine lj_call (a := 40) [.int (xs (i + 1))] [.int r] (.int r :: [.int r]) 437 rfl (Nat.le_of_ble_eq_true rfl) cb_X9_now cv_L_63 sc_40 cn_X9 rfl (Nat.le_of_ble_eq_true rfl) dL_law_434 rfl (e9_now_40 (by decide) (xs (i + 1)) h1) e2 rfl ?_
  refine lj_same 828 rfl dL_law_437 ?_
  exact lj_next (k h2 hI2)
set_option maxRecDepth 20000 in
theorem lc_when {Inv : jv_H → Prop} (hok : ok_when Inv) {l : Launch} {b L : Nat} {xs : Nat → Int32} {i : Nat} {h : jv_H} (hL : L ≤ 2048) (hi : i + 4 ≤ L) (hI : Inv h) (k : ∀ h2, Inv h2 → lj_V l b L xs 18 [(0, .ref 2000), (1, .ref 0), (2, .ref 40), (3, .int (nI (i + 4)))] [] h2) : lj_V l b L xs 442 [(0, .ref 2000), (1, .ref 0), (2, .ref 40), (3, .int (nI i))] [] h := by
  obtain ⟨r, h1, h2, e1, e2, hI2⟩ := hok (xs (i + 1)) (xs (i + 2)) h hI
  refine lj_aload_n 1 443 rfl dL_law_442 rfl rfl ?_
  refine lj_aload_n 0 444 rfl dL_law_443 rfl rfl ?_
  refine lj_iload_n 3 445 rfl dL_law_444 rfl rfl ?_
  refine lj_iconst 446 rfl dL_law_445 ic_1 ?_
  refine lj_iadd 447 rfl dL_law_446 ?_
  rw [lj_add1 i]
  refine lj_sld 448 rfl (lj_in (hL := hL) hi (by decide)) dL_law_447 ?_
  rw [nI_clamp (show i + 1 < 2 ^ 31 by omega)]
  refine lj_aload_n 0 449 rfl dL_law_448 rfl rfl ?_
  refine lj_iload_n 3 450 rfl dL_law_449 rfl rfl ?_
  refine lj_iconst 451 rfl dL_law_450 ic_2 ?_
  refine lj_iadd 452 rfl dL_law_451 ?_
  rw [lj_add2 i]
  refine lj_sld 453 rfl (lj_in (hL := hL) hi (by decide)) dL_law_452 ?_
  rw [nI_clamp (show i + 2 < 2 ^ 31 by omega)]
  refine lj_call (a := 0) [.int (xs (i + 1)), .int (xs (i + 2))] [] (.int r :: []) 456 rfl (Nat.le_of_ble_eq_true rfl) cb_X8_when cv_L_64 sc_0 cn_X8 rfl (Nat.le_of_ble_eq_true rfl) dL_law_453 rfl (e8_when_0 (by decide) (xs (i + 1)) (xs (i + 2)) h) e1 rfl ?_
  refine lj_aload_n 2 457 rfl dL_law_456 rfl rfl ?_
  refine lj_aload_n 0 458 rfl dL_law_457 rfl rfl ?_
  refine lj_iload_n 3 459 rfl dL_law_458 rfl rfl ?_
  refine lj_iconst 460 rfl dL_law_459 ic_1 ?_
  refine lj_iadd 461 rfl dL_law_460 ?_
  rw [lj_add1 i]
  refine lj_sld 462 rfl (lj_in (hL := hL) hi (by decide)) dL_law_461 ?_
  rw [nI_clamp (show i + 1 < 2 ^ 31 by omega)]
  refine lj_aload_n 0 463 rfl dL_law_462 rfl rfl ?_
  refine lj_iload_n 3 464 rfl dL_law_463 rfl rfl ?_
  refine lj_iconst 465 rfl dL_law_464 ic_2 ?_
  refine lj_iadd 466 rfl dL_law_465 ?_
  rw [lj_add2 i]
  refine lj_sld 467 rfl (lj_in (hL := hL) hi (by decide)) dL_law_466 ?_
  rw [nI_clamp (show i + 2 < 2 ^ 31 by omega)]
  refine lj_call (a := 40) [.int (xs (i + 1)), .int (xs (i + 2))] [.int r] (.int r :: [.int r]) 470 rfl (Nat.le_of_ble_eq_true rfl) cb_X9_when cv_L_67 sc_40 cn_X9 rfl (Nat.le_of_ble_eq_true rfl) dL_law_467 rfl (e9_when_40 (by decide) (xs (i + 1)) (xs (i + 2)) h1) e2 rfl ?_
  refine lj_same 828 rfl dL_law_470 ?_
  exact lj_next (k h2 hI2)
set_option maxRecDepth 20000 in
theorem lc_hot {Inv : jv_H → Prop} (hok : ok_hot Inv) {l : Launch} {b L : Nat} {xs : Nat → Int32} {i : Nat} {h : jv_H} (hL : L ≤ 2048) (hi : i + 4 ≤ L) (hI : Inv h) (k : ∀ h2, Inv h2 → lj_V l b L xs 18 [(0, .ref 2000), (1, .ref 0), (2, .ref 40), (3, .int (nI (i + 4)))] [] h2) : lj_V l b L xs 475 [(0, .ref 2000), (1, .ref 0), (2, .ref 40), (3, .int (nI i))] [] h := by
  obtain ⟨r, h1, h2, e1, e2, hI2⟩ := hok (xs (i + 1)) (xs (i + 2)) h hI
  refine lj_aload_n 1 476 rfl dL_law_475 rfl rfl ?_
  refine lj_aload_n 0 477 rfl dL_law_476 rfl rfl ?_
  refine lj_iload_n 3 478 rfl dL_law_477 rfl rfl ?_
  refine lj_iconst 479 rfl dL_law_478 ic_1 ?_
  refine lj_iadd 480 rfl dL_law_479 ?_
  rw [lj_add1 i]
  refine lj_sld 481 rfl (lj_in (hL := hL) hi (by decide)) dL_law_480 ?_
  rw [nI_clamp (show i + 1 < 2 ^ 31 by omega)]
  refine lj_aload_n 0 482 rfl dL_law_481 rfl rfl ?_
  refine lj_iload_n 3 483 rfl dL_law_482 rfl rfl ?_
  refine lj_iconst 484 rfl dL_law_483 ic_2 ?_
  refine lj_iadd 485 rfl dL_law_484 ?_
  rw [lj_add2 i]
  refine lj_sld 486 rfl (lj_in (hL := hL) hi (by decide)) dL_law_485 ?_
  rw [nI_clamp (show i + 2 < 2 ^ 31 by omega)]
  refine lj_call (a := 0) [.int (xs (i + 1)), .int (xs (i + 2))] [] (.int r :: []) 489 rfl (Nat.le_of_ble_eq_true rfl) cb_X8_hot cv_L_68 sc_0 cn_X8 rfl (Nat.le_of_ble_eq_true rfl) dL_law_486 rfl (e8_hot_0 (by decide) (xs (i + 1)) (xs (i + 2)) h) e1 rfl ?_
  refine lj_aload_n 2 490 rfl dL_law_489 rfl rfl ?_
  refine lj_aload_n 0 491 rfl dL_law_490 rfl rfl ?_
  refine lj_iload_n 3 492 rfl dL_law_491 rfl rfl ?_
  refine lj_iconst 493 rfl dL_law_492 ic_1 ?_
  refine lj_iadd 494 rfl dL_law_493 ?_
  rw [lj_add1 i]
  refine lj_sld 495 rfl (lj_in (hL := hL) hi (by decide)) dL_law_494 ?_
  rw [nI_clamp (show i + 1 < 2 ^ 31 by omega)]
  refine lj_aload_n 0 496 rfl dL_law_495 rfl rfl ?_
  refine lj_iload_n 3 497 rfl dL_law_496 rfl rfl ?_
  refine lj_iconst 498 rfl dL_law_497 ic_2 ?_
  refine lj_iadd 499 rfl dL_law_498 ?_
  rw [lj_add2 i]
  refine lj_sld 500 rfl (lj_in (hL := hL) hi (by decide)) dL_law_499 ?_
  rw [nI_clamp (show i + 2 < 2 ^ 31 by omega)]
  refine lj_call (a := 40) [.int (xs (i + 1)), .int (xs (i + 2))] [.int r] (.int r :: [.int r]) 503 rfl (Nat.le_of_ble_eq_true rfl) cb_X9_hot cv_L_71 sc_40 cn_X9 rfl (Nat.le_of_ble_eq_true rfl) dL_law_500 rfl (e9_hot_40 (by decide) (xs (i + 1)) (xs (i + 2)) h1) e2 rfl ?_
  refine lj_same 828 rfl dL_law_503 ?_
  exact lj_next (k h2 hI2)
set_option maxRecDepth 20000 in
theorem lc_plan {Inv : jv_H → Prop} (hok : ok_plan Inv) {l : Launch} {b L : Nat} {xs : Nat → Int32} {i : Nat} {h : jv_H} (hL : L ≤ 2048) (hi : i + 4 ≤ L) (hI : Inv h) (k : ∀ h2, Inv h2 → lj_V l b L xs 18 [(0, .ref 2000), (1, .ref 0), (2, .ref 40), (3, .int (nI (i + 4)))] [] h2) : lj_V l b L xs 508 [(0, .ref 2000), (1, .ref 0), (2, .ref 40), (3, .int (nI i))] [] h := by
  obtain ⟨r, h1, h2, e1, e2, hI2⟩ := hok (xs (i + 1)) h hI
  refine lj_aload_n 1 509 rfl dL_law_508 rfl rfl ?_
  refine lj_aload_n 0 510 rfl dL_law_509 rfl rfl ?_
  refine lj_iload_n 3 511 rfl dL_law_510 rfl rfl ?_
  refine lj_iconst 512 rfl dL_law_511 ic_1 ?_
  refine lj_iadd 513 rfl dL_law_512 ?_
  rw [lj_add1 i]
  refine lj_sld 514 rfl (lj_in (hL := hL) hi (by decide)) dL_law_513 ?_
  rw [nI_clamp (show i + 1 < 2 ^ 31 by omega)]
  refine lj_call (a := 0) [.int (xs (i + 1))] [] (.int r :: []) 517 rfl (Nat.le_of_ble_eq_true rfl) cb_X8_plan cv_L_72 sc_0 cn_X8 rfl (Nat.le_of_ble_eq_true rfl) dL_law_514 rfl (e8_plan_0 (by decide) (xs (i + 1)) h) e1 rfl ?_
  refine lj_aload_n 2 518 rfl dL_law_517 rfl rfl ?_
  refine lj_aload_n 0 519 rfl dL_law_518 rfl rfl ?_
  refine lj_iload_n 3 520 rfl dL_law_519 rfl rfl ?_
  refine lj_iconst 521 rfl dL_law_520 ic_1 ?_
  refine lj_iadd 522 rfl dL_law_521 ?_
  rw [lj_add1 i]
  refine lj_sld 523 rfl (lj_in (hL := hL) hi (by decide)) dL_law_522 ?_
  rw [nI_clamp (show i + 1 < 2 ^ 31 by omega)]
  refine lj_call (a := 40) [.int (xs (i + 1))] [.int r] (.int r :: [.int r]) 526 rfl (Nat.le_of_ble_eq_true rfl) cb_X9_plan cv_L_75 sc_40 cn_X9 rfl (Nat.le_of_ble_eq_true rfl) dL_law_523 rfl (e9_plan_40 (by decide) (xs (i + 1)) h1) e2 rfl ?_
  refine lj_same 828 rfl dL_law_526 ?_
  exact lj_next (k h2 hI2)
set_option maxRecDepth 20000 in
theorem lc_best {Inv : jv_H → Prop} (hok : ok_best Inv) {l : Launch} {b L : Nat} {xs : Nat → Int32} {i : Nat} {h : jv_H} (hL : L ≤ 2048) (hi : i + 4 ≤ L) (hI : Inv h) (k : ∀ h2, Inv h2 → lj_V l b L xs 18 [(0, .ref 2000), (1, .ref 0), (2, .ref 40), (3, .int (nI (i + 4)))] [] h2) : lj_V l b L xs 531 [(0, .ref 2000), (1, .ref 0), (2, .ref 40), (3, .int (nI i))] [] h := by
  obtain ⟨r, h1, h2, e1, e2, hI2⟩ := hok (xs (i + 1)) (xs (i + 2)) h hI
  refine lj_aload_n 1 532 rfl dL_law_531 rfl rfl ?_
  refine lj_aload_n 0 533 rfl dL_law_532 rfl rfl ?_
  refine lj_iload_n 3 534 rfl dL_law_533 rfl rfl ?_
  refine lj_iconst 535 rfl dL_law_534 ic_1 ?_
  refine lj_iadd 536 rfl dL_law_535 ?_
  rw [lj_add1 i]
  refine lj_sld 537 rfl (lj_in (hL := hL) hi (by decide)) dL_law_536 ?_
  rw [nI_clamp (show i + 1 < 2 ^ 31 by omega)]
  refine lj_aload_n 0 538 rfl dL_law_537 rfl rfl ?_
  refine lj_iload_n 3 539 rfl dL_law_538 rfl rfl ?_
  refine lj_iconst 540 rfl dL_law_539 ic_2 ?_
  refine lj_iadd 541 rfl dL_law_540 ?_
  rw [lj_add2 i]
  refine lj_sld 542 rfl (lj_in (hL := hL) hi (by decide)) dL_law_541 ?_
  rw [nI_clamp (show i + 2 < 2 ^ 31 by omega)]
  refine lj_call (a := 0) [.int (xs (i + 1)), .int (xs (i + 2))] [] (.int r :: []) 545 rfl (Nat.le_of_ble_eq_true rfl) cb_X8_best cv_L_76 sc_0 cn_X8 rfl (Nat.le_of_ble_eq_true rfl) dL_law_542 rfl (e8_best_0 (by decide) (xs (i + 1)) (xs (i + 2)) h) e1 rfl ?_
  refine lj_aload_n 2 546 rfl dL_law_545 rfl rfl ?_
  refine lj_aload_n 0 547 rfl dL_law_546 rfl rfl ?_
  refine lj_iload_n 3 548 rfl dL_law_547 rfl rfl ?_
  refine lj_iconst 549 rfl dL_law_548 ic_1 ?_
  refine lj_iadd 550 rfl dL_law_549 ?_
  rw [lj_add1 i]
  refine lj_sld 551 rfl (lj_in (hL := hL) hi (by decide)) dL_law_550 ?_
  rw [nI_clamp (show i + 1 < 2 ^ 31 by omega)]
  refine lj_aload_n 0 552 rfl dL_law_551 rfl rfl ?_
  refine lj_iload_n 3 553 rfl dL_law_552 rfl rfl ?_
  refine lj_iconst 554 rfl dL_law_553 ic_2 ?_
  refine lj_iadd 555 rfl dL_law_554 ?_
  rw [lj_add2 i]
  refine lj_sld 556 rfl (lj_in (hL := hL) hi (by decide)) dL_law_555 ?_
  rw [nI_clamp (show i + 2 < 2 ^ 31 by omega)]
  refine lj_call (a := 40) [.int (xs (i + 1)), .int (xs (i + 2))] [.int r] (.int r :: [.int r]) 559 rfl (Nat.le_of_ble_eq_true rfl) cb_X9_best cv_L_79 sc_40 cn_X9 rfl (Nat.le_of_ble_eq_true rfl) dL_law_556 rfl (e9_best_40 (by decide) (xs (i + 1)) (xs (i + 2)) h1) e2 rfl ?_
  refine lj_same 828 rfl dL_law_559 ?_
  exact lj_next (k h2 hI2)
set_option maxRecDepth 20000 in
theorem lc_beds {Inv : jv_H → Prop} (hok : ok_beds Inv) {l : Launch} {b L : Nat} {xs : Nat → Int32} {i : Nat} {h : jv_H} (hL : L ≤ 2048) (hi : i + 4 ≤ L) (hI : Inv h) (k : ∀ h2, Inv h2 → lj_V l b L xs 18 [(0, .ref 2000), (1, .ref 0), (2, .ref 40), (3, .int (nI (i + 4)))] [] h2) : lj_V l b L xs 564 [(0, .ref 2000), (1, .ref 0), (2, .ref 40), (3, .int (nI i))] [] h := by
  obtain ⟨r, h1, h2, e1, e2, hI2⟩ := hok (xs (i + 1)) (xs (i + 2)) h hI
  refine lj_aload_n 1 565 rfl dL_law_564 rfl rfl ?_
  refine lj_aload_n 0 566 rfl dL_law_565 rfl rfl ?_
  refine lj_iload_n 3 567 rfl dL_law_566 rfl rfl ?_
  refine lj_iconst 568 rfl dL_law_567 ic_1 ?_
  refine lj_iadd 569 rfl dL_law_568 ?_
  rw [lj_add1 i]
  refine lj_sld 570 rfl (lj_in (hL := hL) hi (by decide)) dL_law_569 ?_
  rw [nI_clamp (show i + 1 < 2 ^ 31 by omega)]
  refine lj_aload_n 0 571 rfl dL_law_570 rfl rfl ?_
  refine lj_iload_n 3 572 rfl dL_law_571 rfl rfl ?_
  refine lj_iconst 573 rfl dL_law_572 ic_2 ?_
  refine lj_iadd 574 rfl dL_law_573 ?_
  rw [lj_add2 i]
  refine lj_sld 575 rfl (lj_in (hL := hL) hi (by decide)) dL_law_574 ?_
  rw [nI_clamp (show i + 2 < 2 ^ 31 by omega)]
  refine lj_call (a := 0) [.int (xs (i + 1)), .int (xs (i + 2))] [] (.int r :: []) 578 rfl (Nat.le_of_ble_eq_true rfl) cb_X8_beds cv_L_80 sc_0 cn_X8 rfl (Nat.le_of_ble_eq_true rfl) dL_law_575 rfl (e8_beds_0 (by decide) (xs (i + 1)) (xs (i + 2)) h) e1 rfl ?_
  refine lj_aload_n 2 579 rfl dL_law_578 rfl rfl ?_
  refine lj_aload_n 0 580 rfl dL_law_579 rfl rfl ?_
  refine lj_iload_n 3 581 rfl dL_law_580 rfl rfl ?_
  refine lj_iconst 582 rfl dL_law_581 ic_1 ?_
  refine lj_iadd 583 rfl dL_law_582 ?_
  rw [lj_add1 i]
  refine lj_sld 584 rfl (lj_in (hL := hL) hi (by decide)) dL_law_583 ?_
  rw [nI_clamp (show i + 1 < 2 ^ 31 by omega)]
  refine lj_aload_n 0 585 rfl dL_law_584 rfl rfl ?_
  refine lj_iload_n 3 586 rfl dL_law_585 rfl rfl ?_
  refine lj_iconst 587 rfl dL_law_586 ic_2 ?_
  refine lj_iadd 588 rfl dL_law_587 ?_
  rw [lj_add2 i]
  refine lj_sld 589 rfl (lj_in (hL := hL) hi (by decide)) dL_law_588 ?_
  rw [nI_clamp (show i + 2 < 2 ^ 31 by omega)]
  refine lj_call (a := 40) [.int (xs (i + 1)), .int (xs (i + 2))] [.int r] (.int r :: [.int r]) 592 rfl (Nat.le_of_ble_eq_true rfl) cb_X9_beds cv_L_83 sc_40 cn_X9 rfl (Nat.le_of_ble_eq_true rfl) dL_law_589 rfl (e9_beds_40 (by decide) (xs (i + 1)) (xs (i + 2)) h1) e2 rfl ?_
  refine lj_same 828 rfl dL_law_592 ?_
  exact lj_next (k h2 hI2)
set_option maxRecDepth 20000 in
theorem lc_odds {Inv : jv_H → Prop} (hok : ok_odds Inv) {l : Launch} {b L : Nat} {xs : Nat → Int32} {i : Nat} {h : jv_H} (hL : L ≤ 2048) (hi : i + 4 ≤ L) (hI : Inv h) (k : ∀ h2, Inv h2 → lj_V l b L xs 18 [(0, .ref 2000), (1, .ref 0), (2, .ref 40), (3, .int (nI (i + 4)))] [] h2) : lj_V l b L xs 597 [(0, .ref 2000), (1, .ref 0), (2, .ref 40), (3, .int (nI i))] [] h := by
  obtain ⟨r, h1, h2, e1, e2, hI2⟩ := hok (xs (i + 1)) (xs (i + 2)) (xs (i + 3)) h hI
  refine lj_aload_n 1 598 rfl dL_law_597 rfl rfl ?_
  refine lj_aload_n 0 599 rfl dL_law_598 rfl rfl ?_
  refine lj_iload_n 3 600 rfl dL_law_599 rfl rfl ?_
  refine lj_iconst 601 rfl dL_law_600 ic_1 ?_
  refine lj_iadd 602 rfl dL_law_601 ?_
  rw [lj_add1 i]
  refine lj_sld 603 rfl (lj_in (hL := hL) hi (by decide)) dL_law_602 ?_
  rw [nI_clamp (show i + 1 < 2 ^ 31 by omega)]
  refine lj_aload_n 0 604 rfl dL_law_603 rfl rfl ?_
  refine lj_iload_n 3 605 rfl dL_law_604 rfl rfl ?_
  refine lj_iconst 606 rfl dL_law_605 ic_2 ?_
  refine lj_iadd 607 rfl dL_law_606 ?_
  rw [lj_add2 i]
  refine lj_sld 608 rfl (lj_in (hL := hL) hi (by decide)) dL_law_607 ?_
  rw [nI_clamp (show i + 2 < 2 ^ 31 by omega)]
  refine lj_aload_n 0 609 rfl dL_law_608 rfl rfl ?_
  refine lj_iload_n 3 610 rfl dL_law_609 rfl rfl ?_
  refine lj_iconst 611 rfl dL_law_610 ic_3 ?_
  refine lj_iadd 612 rfl dL_law_611 ?_
  rw [lj_add3 i]
  refine lj_sld 613 rfl (lj_in (hL := hL) hi (by decide)) dL_law_612 ?_
  rw [nI_clamp (show i + 3 < 2 ^ 31 by omega)]
  refine lj_call (a := 0) [.int (xs (i + 1)), .int (xs (i + 2)), .int (xs (i + 3))] [] (.int r :: []) 616 rfl (Nat.le_of_ble_eq_true rfl) cb_X8_odds cv_L_84 sc_0 cn_X8 rfl (Nat.le_of_ble_eq_true rfl) dL_law_613 rfl (e8_odds_0 (by decide) (xs (i + 1)) (xs (i + 2)) (xs (i + 3)) h) e1 rfl ?_
  refine lj_aload_n 2 617 rfl dL_law_616 rfl rfl ?_
  refine lj_aload_n 0 618 rfl dL_law_617 rfl rfl ?_
  refine lj_iload_n 3 619 rfl dL_law_618 rfl rfl ?_
  refine lj_iconst 620 rfl dL_law_619 ic_1 ?_
  refine lj_iadd 621 rfl dL_law_620 ?_
  rw [lj_add1 i]
  refine lj_sld 622 rfl (lj_in (hL := hL) hi (by decide)) dL_law_621 ?_
  rw [nI_clamp (show i + 1 < 2 ^ 31 by omega)]
  refine lj_aload_n 0 623 rfl dL_law_622 rfl rfl ?_
  refine lj_iload_n 3 624 rfl dL_law_623 rfl rfl ?_
  refine lj_iconst 625 rfl dL_law_624 ic_2 ?_
  refine lj_iadd 626 rfl dL_law_625 ?_
  rw [lj_add2 i]
  refine lj_sld 627 rfl (lj_in (hL := hL) hi (by decide)) dL_law_626 ?_
  rw [nI_clamp (show i + 2 < 2 ^ 31 by omega)]
  refine lj_aload_n 0 628 rfl dL_law_627 rfl rfl ?_
  refine lj_iload_n 3 629 rfl dL_law_628 rfl rfl ?_
  refine lj_iconst 630 rfl dL_law_629 ic_3 ?_
  refine lj_iadd 631 rfl dL_law_630 ?_
  rw [lj_add3 i]
  refine lj_sld 632 rfl (lj_in (hL := hL) hi (by decide)) dL_law_631 ?_
  rw [nI_clamp (show i + 3 < 2 ^ 31 by omega)]
  refine lj_call (a := 40) [.int (xs (i + 1)), .int (xs (i + 2)), .int (xs (i + 3))] [.int r] (.int r :: [.int r]) 635 rfl (Nat.le_of_ble_eq_true rfl) cb_X9_odds cv_L_88 sc_40 cn_X9 rfl (Nat.le_of_ble_eq_true rfl) dL_law_632 rfl (e9_odds_40 (by decide) (xs (i + 1)) (xs (i + 2)) (xs (i + 3)) h1) e2 rfl ?_
  refine lj_same 828 rfl dL_law_635 ?_
  exact lj_next (k h2 hI2)
set_option maxRecDepth 20000 in
theorem lc_hears {Inv : jv_H → Prop} (hok : ok_hears Inv) {l : Launch} {b L : Nat} {xs : Nat → Int32} {i : Nat} {h : jv_H} (hL : L ≤ 2048) (hi : i + 4 ≤ L) (hI : Inv h) (k : ∀ h2, Inv h2 → lj_V l b L xs 18 [(0, .ref 2000), (1, .ref 0), (2, .ref 40), (3, .int (nI (i + 4)))] [] h2) : lj_V l b L xs 640 [(0, .ref 2000), (1, .ref 0), (2, .ref 40), (3, .int (nI i))] [] h := by
  obtain ⟨r, h1, h2, e1, e2, hI2⟩ := hok (xs (i + 1)) (xs (i + 2)) h hI
  refine lj_aload_n 1 641 rfl dL_law_640 rfl rfl ?_
  refine lj_aload_n 0 642 rfl dL_law_641 rfl rfl ?_
  refine lj_iload_n 3 643 rfl dL_law_642 rfl rfl ?_
  refine lj_iconst 644 rfl dL_law_643 ic_1 ?_
  refine lj_iadd 645 rfl dL_law_644 ?_
  rw [lj_add1 i]
  refine lj_sld 646 rfl (lj_in (hL := hL) hi (by decide)) dL_law_645 ?_
  rw [nI_clamp (show i + 1 < 2 ^ 31 by omega)]
  refine lj_aload_n 0 647 rfl dL_law_646 rfl rfl ?_
  refine lj_iload_n 3 648 rfl dL_law_647 rfl rfl ?_
  refine lj_iconst 649 rfl dL_law_648 ic_2 ?_
  refine lj_iadd 650 rfl dL_law_649 ?_
  rw [lj_add2 i]
  refine lj_sld 651 rfl (lj_in (hL := hL) hi (by decide)) dL_law_650 ?_
  rw [nI_clamp (show i + 2 < 2 ^ 31 by omega)]
  refine lj_call (a := 0) [.int (xs (i + 1)), .int (xs (i + 2))] [] (.int r :: []) 654 rfl (Nat.le_of_ble_eq_true rfl) cb_X8_hears cv_L_89 sc_0 cn_X8 rfl (Nat.le_of_ble_eq_true rfl) dL_law_651 rfl (e8_hears_0 (by decide) (xs (i + 1)) (xs (i + 2)) h) e1 rfl ?_
  refine lj_aload_n 2 655 rfl dL_law_654 rfl rfl ?_
  refine lj_aload_n 0 656 rfl dL_law_655 rfl rfl ?_
  refine lj_iload_n 3 657 rfl dL_law_656 rfl rfl ?_
  refine lj_iconst 658 rfl dL_law_657 ic_1 ?_
  refine lj_iadd 659 rfl dL_law_658 ?_
  rw [lj_add1 i]
  refine lj_sld 660 rfl (lj_in (hL := hL) hi (by decide)) dL_law_659 ?_
  rw [nI_clamp (show i + 1 < 2 ^ 31 by omega)]
  refine lj_aload_n 0 661 rfl dL_law_660 rfl rfl ?_
  refine lj_iload_n 3 662 rfl dL_law_661 rfl rfl ?_
  refine lj_iconst 663 rfl dL_law_662 ic_2 ?_
  refine lj_iadd 664 rfl dL_law_663 ?_
  rw [lj_add2 i]
  refine lj_sld 665 rfl (lj_in (hL := hL) hi (by decide)) dL_law_664 ?_
  rw [nI_clamp (show i + 2 < 2 ^ 31 by omega)]
  refine lj_call (a := 40) [.int (xs (i + 1)), .int (xs (i + 2))] [.int r] (.int r :: [.int r]) 668 rfl (Nat.le_of_ble_eq_true rfl) cb_X9_hears cv_L_92 sc_40 cn_X9 rfl (Nat.le_of_ble_eq_true rfl) dL_law_665 rfl (e9_hears_40 (by decide) (xs (i + 1)) (xs (i + 2)) h1) e2 rfl ?_
  refine lj_same 828 rfl dL_law_668 ?_
  exact lj_next (k h2 hI2)
set_option maxRecDepth 20000 in
theorem lc_forget {Inv : jv_H → Prop} (hok : ok_forget Inv) {l : Launch} {b L : Nat} {xs : Nat → Int32} {i : Nat} {h : jv_H} (hL : L ≤ 2048) (hi : i + 4 ≤ L) (hI : Inv h) (k : ∀ h2, Inv h2 → lj_V l b L xs 18 [(0, .ref 2000), (1, .ref 0), (2, .ref 40), (3, .int (nI (i + 4)))] [] h2) : lj_V l b L xs 673 [(0, .ref 2000), (1, .ref 0), (2, .ref 40), (3, .int (nI i))] [] h := by
  obtain ⟨r, h1, h2, e1, e2, hI2⟩ := hok  h hI
  refine lj_aload_n 1 674 rfl dL_law_673 rfl rfl ?_
  refine lj_call (a := 0) [] [] (.int r :: []) 677 rfl (Nat.le_of_ble_eq_true rfl) cb_X8_forget cv_L_93 sc_0 cn_X8 rfl (Nat.le_of_ble_eq_true rfl) dL_law_674 rfl (e8_forget_0 (by decide) h) e1 rfl ?_
  refine lj_aload_n 2 678 rfl dL_law_677 rfl rfl ?_
  refine lj_call (a := 40) [] [.int r] (.int r :: [.int r]) 681 rfl (Nat.le_of_ble_eq_true rfl) cb_X9_forget cv_L_96 sc_40 cn_X9 rfl (Nat.le_of_ble_eq_true rfl) dL_law_678 rfl (e9_forget_40 (by decide) h1) e2 rfl ?_
  refine lj_same 828 rfl dL_law_681 ?_
  exact lj_next (k h2 hI2)
set_option maxRecDepth 20000 in
theorem lc_whose {Inv : jv_H → Prop} (hok : ok_whose Inv) {l : Launch} {b L : Nat} {xs : Nat → Int32} {i : Nat} {h : jv_H} (hL : L ≤ 2048) (hi : i + 4 ≤ L) (hI : Inv h) (k : ∀ h2, Inv h2 → lj_V l b L xs 18 [(0, .ref 2000), (1, .ref 0), (2, .ref 40), (3, .int (nI (i + 4)))] [] h2) : lj_V l b L xs 686 [(0, .ref 2000), (1, .ref 0), (2, .ref 40), (3, .int (nI i))] [] h := by
  obtain ⟨r, h1, h2, e1, e2, hI2⟩ := hok  h hI
  refine lj_aload_n 1 687 rfl dL_law_686 rfl rfl ?_
  refine lj_call (a := 0) [] [] (.int r :: []) 690 rfl (Nat.le_of_ble_eq_true rfl) cb_X8_whose cv_L_97 sc_0 cn_X8 rfl (Nat.le_of_ble_eq_true rfl) dL_law_687 rfl (e8_whose_0 (by decide) h) e1 rfl ?_
  refine lj_aload_n 2 691 rfl dL_law_690 rfl rfl ?_
  refine lj_call (a := 40) [] [.int r] (.int r :: [.int r]) 694 rfl (Nat.le_of_ble_eq_true rfl) cb_X9_whose cv_L_100 sc_40 cn_X9 rfl (Nat.le_of_ble_eq_true rfl) dL_law_691 rfl (e9_whose_40 (by decide) h1) e2 rfl ?_
  refine lj_same 828 rfl dL_law_694 ?_
  exact lj_next (k h2 hI2)
set_option maxRecDepth 20000 in
theorem lc_ask {Inv : jv_H → Prop} (hok : ok_ask Inv) {l : Launch} {b L : Nat} {xs : Nat → Int32} {i : Nat} {h : jv_H} (hL : L ≤ 2048) (hi : i + 4 ≤ L) (hI : Inv h) (k : ∀ h2, Inv h2 → lj_V l b L xs 18 [(0, .ref 2000), (1, .ref 0), (2, .ref 40), (3, .int (nI (i + 4)))] [] h2) : lj_V l b L xs 699 [(0, .ref 2000), (1, .ref 0), (2, .ref 40), (3, .int (nI i))] [] h := by
  obtain ⟨r, h1, h2, e1, e2, hI2⟩ := hok  h hI
  refine lj_aload_n 1 700 rfl dL_law_699 rfl rfl ?_
  refine lj_call (a := 0) [] [] (.int r :: []) 703 rfl (Nat.le_of_ble_eq_true rfl) cb_X8_ask cv_L_101 sc_0 cn_X8 rfl (Nat.le_of_ble_eq_true rfl) dL_law_700 rfl (e8_ask_0 (by decide) h) e1 rfl ?_
  refine lj_aload_n 2 704 rfl dL_law_703 rfl rfl ?_
  refine lj_call (a := 40) [] [.int r] (.int r :: [.int r]) 707 rfl (Nat.le_of_ble_eq_true rfl) cb_X9_ask cv_L_104 sc_40 cn_X9 rfl (Nat.le_of_ble_eq_true rfl) dL_law_704 rfl (e9_ask_40 (by decide) h1) e2 rfl ?_
  refine lj_same 828 rfl dL_law_707 ?_
  exact lj_next (k h2 hI2)
set_option maxRecDepth 20000 in
theorem lc_mark {Inv : jv_H → Prop} (hok : ok_mark Inv) {l : Launch} {b L : Nat} {xs : Nat → Int32} {i : Nat} {h : jv_H} (hL : L ≤ 2048) (hi : i + 4 ≤ L) (hI : Inv h) (k : ∀ h2, Inv h2 → lj_V l b L xs 18 [(0, .ref 2000), (1, .ref 0), (2, .ref 40), (3, .int (nI (i + 4)))] [] h2) : lj_V l b L xs 712 [(0, .ref 2000), (1, .ref 0), (2, .ref 40), (3, .int (nI i))] [] h := by
  obtain ⟨r, h1, h2, e1, e2, hI2⟩ := hok (xs (i + 1)) (xs (i + 2)) h hI
  refine lj_aload_n 1 713 rfl dL_law_712 rfl rfl ?_
  refine lj_aload_n 0 714 rfl dL_law_713 rfl rfl ?_
  refine lj_iload_n 3 715 rfl dL_law_714 rfl rfl ?_
  refine lj_iconst 716 rfl dL_law_715 ic_1 ?_
  refine lj_iadd 717 rfl dL_law_716 ?_
  rw [lj_add1 i]
  refine lj_sld 718 rfl (lj_in (hL := hL) hi (by decide)) dL_law_717 ?_
  rw [nI_clamp (show i + 1 < 2 ^ 31 by omega)]
  refine lj_aload_n 0 719 rfl dL_law_718 rfl rfl ?_
  refine lj_iload_n 3 720 rfl dL_law_719 rfl rfl ?_
  refine lj_iconst 721 rfl dL_law_720 ic_2 ?_
  refine lj_iadd 722 rfl dL_law_721 ?_
  rw [lj_add2 i]
  refine lj_sld 723 rfl (lj_in (hL := hL) hi (by decide)) dL_law_722 ?_
  rw [nI_clamp (show i + 2 < 2 ^ 31 by omega)]
  refine lj_call (a := 0) [.int (xs (i + 1)), .int (xs (i + 2))] [] (.int r :: []) 726 rfl (Nat.le_of_ble_eq_true rfl) cb_X8_mark cv_L_105 sc_0 cn_X8 rfl (Nat.le_of_ble_eq_true rfl) dL_law_723 rfl (e8_mark_0 (by decide) (xs (i + 1)) (xs (i + 2)) h) e1 rfl ?_
  refine lj_aload_n 2 727 rfl dL_law_726 rfl rfl ?_
  refine lj_aload_n 0 728 rfl dL_law_727 rfl rfl ?_
  refine lj_iload_n 3 729 rfl dL_law_728 rfl rfl ?_
  refine lj_iconst 730 rfl dL_law_729 ic_1 ?_
  refine lj_iadd 731 rfl dL_law_730 ?_
  rw [lj_add1 i]
  refine lj_sld 732 rfl (lj_in (hL := hL) hi (by decide)) dL_law_731 ?_
  rw [nI_clamp (show i + 1 < 2 ^ 31 by omega)]
  refine lj_aload_n 0 733 rfl dL_law_732 rfl rfl ?_
  refine lj_iload_n 3 734 rfl dL_law_733 rfl rfl ?_
  refine lj_iconst 735 rfl dL_law_734 ic_2 ?_
  refine lj_iadd 736 rfl dL_law_735 ?_
  rw [lj_add2 i]
  refine lj_sld 737 rfl (lj_in (hL := hL) hi (by decide)) dL_law_736 ?_
  rw [nI_clamp (show i + 2 < 2 ^ 31 by omega)]
  refine lj_call (a := 40) [.int (xs (i + 1)), .int (xs (i + 2))] [.int r] (.int r :: [.int r]) 740 rfl (Nat.le_of_ble_eq_true rfl) cb_X9_mark cv_L_108 sc_40 cn_X9 rfl (Nat.le_of_ble_eq_true rfl) dL_law_737 rfl (e9_mark_40 (by decide) (xs (i + 1)) (xs (i + 2)) h1) e2 rfl ?_
  refine lj_same 828 rfl dL_law_740 ?_
  exact lj_next (k h2 hI2)
set_option maxRecDepth 20000 in
theorem lc_keep {Inv : jv_H → Prop} (hok : ok_keep Inv) {l : Launch} {b L : Nat} {xs : Nat → Int32} {i : Nat} {h : jv_H} (hL : L ≤ 2048) (hi : i + 4 ≤ L) (hI : Inv h) (k : ∀ h2, Inv h2 → lj_V l b L xs 18 [(0, .ref 2000), (1, .ref 0), (2, .ref 40), (3, .int (nI (i + 4)))] [] h2) : lj_V l b L xs 745 [(0, .ref 2000), (1, .ref 0), (2, .ref 40), (3, .int (nI i))] [] h := by
  obtain ⟨r, h1, h2, e1, e2, hI2⟩ := hok (xs (i + 1)) h hI
  refine lj_aload_n 1 746 rfl dL_law_745 rfl rfl ?_
  refine lj_aload_n 0 747 rfl dL_law_746 rfl rfl ?_
  refine lj_iload_n 3 748 rfl dL_law_747 rfl rfl ?_
  refine lj_iconst 749 rfl dL_law_748 ic_1 ?_
  refine lj_iadd 750 rfl dL_law_749 ?_
  rw [lj_add1 i]
  refine lj_sld 751 rfl (lj_in (hL := hL) hi (by decide)) dL_law_750 ?_
  rw [nI_clamp (show i + 1 < 2 ^ 31 by omega)]
  refine lj_call (a := 0) [.int (xs (i + 1))] [] (.int r :: []) 754 rfl (Nat.le_of_ble_eq_true rfl) cb_X8_keep cv_L_109 sc_0 cn_X8 rfl (Nat.le_of_ble_eq_true rfl) dL_law_751 rfl (e8_keep_0 (by decide) (xs (i + 1)) h) e1 rfl ?_
  refine lj_aload_n 2 755 rfl dL_law_754 rfl rfl ?_
  refine lj_aload_n 0 756 rfl dL_law_755 rfl rfl ?_
  refine lj_iload_n 3 757 rfl dL_law_756 rfl rfl ?_
  refine lj_iconst 758 rfl dL_law_757 ic_1 ?_
  refine lj_iadd 759 rfl dL_law_758 ?_
  rw [lj_add1 i]
  refine lj_sld 760 rfl (lj_in (hL := hL) hi (by decide)) dL_law_759 ?_
  rw [nI_clamp (show i + 1 < 2 ^ 31 by omega)]
  refine lj_call (a := 40) [.int (xs (i + 1))] [.int r] (.int r :: [.int r]) 763 rfl (Nat.le_of_ble_eq_true rfl) cb_X9_keep cv_L_112 sc_40 cn_X9 rfl (Nat.le_of_ble_eq_true rfl) dL_law_760 rfl (e9_keep_40 (by decide) (xs (i + 1)) h1) e2 rfl ?_
  refine lj_same 828 rfl dL_law_763 ?_
  exact lj_next (k h2 hI2)
set_option maxRecDepth 20000 in
theorem lc_back {Inv : jv_H → Prop} (hok : ok_back Inv) {l : Launch} {b L : Nat} {xs : Nat → Int32} {i : Nat} {h : jv_H} (hL : L ≤ 2048) (hi : i + 4 ≤ L) (hI : Inv h) (k : ∀ h2, Inv h2 → lj_V l b L xs 18 [(0, .ref 2000), (1, .ref 0), (2, .ref 40), (3, .int (nI (i + 4)))] [] h2) : lj_V l b L xs 768 [(0, .ref 2000), (1, .ref 0), (2, .ref 40), (3, .int (nI i))] [] h := by
  obtain ⟨r, h1, h2, e1, e2, hI2⟩ := hok (xs (i + 1)) h hI
  refine lj_aload_n 1 769 rfl dL_law_768 rfl rfl ?_
  refine lj_aload_n 0 770 rfl dL_law_769 rfl rfl ?_
  refine lj_iload_n 3 771 rfl dL_law_770 rfl rfl ?_
  refine lj_iconst 772 rfl dL_law_771 ic_1 ?_
  refine lj_iadd 773 rfl dL_law_772 ?_
  rw [lj_add1 i]
  refine lj_sld 774 rfl (lj_in (hL := hL) hi (by decide)) dL_law_773 ?_
  rw [nI_clamp (show i + 1 < 2 ^ 31 by omega)]
  refine lj_call (a := 0) [.int (xs (i + 1))] [] (.int r :: []) 777 rfl (Nat.le_of_ble_eq_true rfl) cb_X8_back cv_L_113 sc_0 cn_X8 rfl (Nat.le_of_ble_eq_true rfl) dL_law_774 rfl (e8_back_0 (by decide) (xs (i + 1)) h) e1 rfl ?_
  refine lj_aload_n 2 778 rfl dL_law_777 rfl rfl ?_
  refine lj_aload_n 0 779 rfl dL_law_778 rfl rfl ?_
  refine lj_iload_n 3 780 rfl dL_law_779 rfl rfl ?_
  refine lj_iconst 781 rfl dL_law_780 ic_1 ?_
  refine lj_iadd 782 rfl dL_law_781 ?_
  rw [lj_add1 i]
  refine lj_sld 783 rfl (lj_in (hL := hL) hi (by decide)) dL_law_782 ?_
  rw [nI_clamp (show i + 1 < 2 ^ 31 by omega)]
  refine lj_call (a := 40) [.int (xs (i + 1))] [.int r] (.int r :: [.int r]) 786 rfl (Nat.le_of_ble_eq_true rfl) cb_X9_back cv_L_116 sc_40 cn_X9 rfl (Nat.le_of_ble_eq_true rfl) dL_law_783 rfl (e9_back_40 (by decide) (xs (i + 1)) h1) e2 rfl ?_
  refine lj_same 828 rfl dL_law_786 ?_
  exact lj_next (k h2 hI2)
set_option maxRecDepth 20000 in
theorem lc_count {Inv : jv_H → Prop} (hok : ok_count Inv) {l : Launch} {b L : Nat} {xs : Nat → Int32} {i : Nat} {h : jv_H} (hL : L ≤ 2048) (hi : i + 4 ≤ L) (hI : Inv h) (k : ∀ h2, Inv h2 → lj_V l b L xs 18 [(0, .ref 2000), (1, .ref 0), (2, .ref 40), (3, .int (nI (i + 4)))] [] h2) : lj_V l b L xs 791 [(0, .ref 2000), (1, .ref 0), (2, .ref 40), (3, .int (nI i))] [] h := by
  obtain ⟨r, h1, h2, e1, e2, hI2⟩ := hok (xs (i + 1)) h hI
  refine lj_aload_n 1 792 rfl dL_law_791 rfl rfl ?_
  refine lj_aload_n 0 793 rfl dL_law_792 rfl rfl ?_
  refine lj_iload_n 3 794 rfl dL_law_793 rfl rfl ?_
  refine lj_iconst 795 rfl dL_law_794 ic_1 ?_
  refine lj_iadd 796 rfl dL_law_795 ?_
  rw [lj_add1 i]
  refine lj_sld 797 rfl (lj_in (hL := hL) hi (by decide)) dL_law_796 ?_
  rw [nI_clamp (show i + 1 < 2 ^ 31 by omega)]
  refine lj_call (a := 0) [.int (xs (i + 1))] [] (.int r :: []) 800 rfl (Nat.le_of_ble_eq_true rfl) cb_X8_count cv_L_117 sc_0 cn_X8 rfl (Nat.le_of_ble_eq_true rfl) dL_law_797 rfl (e8_count_0 (by decide) (xs (i + 1)) h) e1 rfl ?_
  refine lj_aload_n 2 801 rfl dL_law_800 rfl rfl ?_
  refine lj_aload_n 0 802 rfl dL_law_801 rfl rfl ?_
  refine lj_iload_n 3 803 rfl dL_law_802 rfl rfl ?_
  refine lj_iconst 804 rfl dL_law_803 ic_1 ?_
  refine lj_iadd 805 rfl dL_law_804 ?_
  rw [lj_add1 i]
  refine lj_sld 806 rfl (lj_in (hL := hL) hi (by decide)) dL_law_805 ?_
  rw [nI_clamp (show i + 1 < 2 ^ 31 by omega)]
  refine lj_call (a := 40) [.int (xs (i + 1))] [.int r] (.int r :: [.int r]) 809 rfl (Nat.le_of_ble_eq_true rfl) cb_X9_count cv_L_120 sc_40 cn_X9 rfl (Nat.le_of_ble_eq_true rfl) dL_law_806 rfl (e9_count_40 (by decide) (xs (i + 1)) h1) e2 rfl ?_
  refine lj_same 828 rfl dL_law_809 ?_
  exact lj_next (k h2 hI2)
set_option maxRecDepth 20000 in
theorem lc_trace {Inv : jv_H → Prop} (hok : ok_trace Inv) {l : Launch} {b L : Nat} {xs : Nat → Int32} {i : Nat} {h : jv_H} (hL : L ≤ 2048) (hi : i + 4 ≤ L) (hI : Inv h) (k : ∀ h2, Inv h2 → lj_V l b L xs 18 [(0, .ref 2000), (1, .ref 0), (2, .ref 40), (3, .int (nI (i + 4)))] [] h2) : lj_V l b L xs 814 [(0, .ref 2000), (1, .ref 0), (2, .ref 40), (3, .int (nI i))] [] h := by
  obtain ⟨r, h1, h2, e1, e2, hI2⟩ := hok  h hI
  refine lj_aload_n 1 815 rfl dL_law_814 rfl rfl ?_
  refine lj_call (a := 0) [] [] (.long r :: []) 818 rfl (Nat.le_of_ble_eq_true rfl) cb_X8_trace cv_L_121 sc_0 cn_X8 rfl (Nat.le_of_ble_eq_true rfl) dL_law_815 rfl (e8_trace_0 (by decide) h) e1 rfl ?_
  refine lj_aload_n 2 819 rfl dL_law_818 rfl rfl ?_
  refine lj_call (a := 40) [] [.long r] (.long r :: [.long r]) 822 rfl (Nat.le_of_ble_eq_true rfl) cb_X9_trace cv_L_125 sc_40 cn_X9 rfl (Nat.le_of_ble_eq_true rfl) dL_law_819 rfl (e9_trace_40 (by decide) h1) e2 rfl ?_
  refine lj_lcmp 823 rfl dL_law_822 ?_
  refine lj_zero 828 rfl (lj_cmp r) dL_law_823 ?_
  exact lj_next (k h2 hI2)
set_option maxRecDepth 20000 in
theorem lj_loop {Inv : jv_H → Prop} (hok : lw_ok Inv) {l : Launch} {b L : Nat} {xs : Nat → Int32} (hL : L ≤ 2048) : ∀ (n i : Nat) (h : jv_H), i ≤ L + 4 → L + 5 ≤ i + n → Inv h → lj_V l b L xs 18 [(0, .ref 2000), (1, .ref 0), (2, .ref 40), (3, .int (nI i))] [] h := by
  obtain ⟨o_type, o_clear, o_hill, o_temper, o_nurse, o_sends, o_fetches, o_visits, o_mixes, o_years, o_undo, o_now, o_when, o_hot, o_plan, o_best, o_beds, o_odds, o_hears, o_forget, o_whose, o_ask, o_mark, o_keep, o_back, o_count, o_trace⟩ := hok
  intro n
  induction n with
  | zero => intro i h h1 h2; exact absurd h2 (by omega)
  | succ n ih =>
    intro i h hi hin hI
    refine lj_iload_n 3 19 rfl dL_law_18 rfl rfl ?_
    refine lj_aload_n 0 20 rfl dL_law_19 rfl rfl ?_
    refine lj_slen 21 rfl dL_law_20 ?_
    refine lj_iconst 22 rfl dL_law_21 ic_4 ?_
    refine lj_isub 23 rfl dL_law_22 ?_
    have hT : (nI L - 4).toInt = (L : Int) - 4 := pk_sub_toInt (a := L) (b := 4) (by omega) (by omega)
    have hTi : (nI i).toInt = (i : Int) := nI_toInt (by omega)
    refine lj_gt 834 26 rfl rfl dL_law_23 (fun _ => ?_) (fun hc => ?_)
    · refine lj_iconst 835 rfl dL_law_834 ic_1 ?_
      exact lj_end dL_law_835
    · have hi4 : i + 4 ≤ L := by
        rw [Int32.lt_iff_toInt_lt, hT, hTi] at hc
        omega
      have k : ∀ h2, Inv h2 → lj_V l b L xs 18 [(0, .ref 2000), (1, .ref 0), (2, .ref 40), (3, .int (nI (i + 4)))] [] h2 := fun h2 hI2 => ih (i + 4) h2 (by omega) (by omega) hI2
      refine lj_aload_n 0 27 rfl dL_law_26 rfl rfl ?_
      refine lj_iload_n 3 28 rfl dL_law_27 rfl rfl ?_
      refine lj_sld 29 rfl (lj_in (k := 0) (hL := hL) hi4 (by decide)) dL_law_28 ?_
      refine lj_bipush 31 rfl dL_law_29 bp_31 ?_
      refine lj_iand 32 rfl dL_law_31 ?_
      refine lj_tabc (0 : Int32) (off := 124) 156 dL_law_32 (by decide +kernel) rfl (fun _ => ?_) (fun c0 => ?_)
      · exact lc_type o_type hL hi4 hI k
      refine lj_tabc (1 : Int32) (off := 147) 179 dL_law_32 (by decide +kernel) rfl (fun _ => ?_) (fun c1 => ?_)
      · exact lc_clear o_clear hL hi4 hI k
      refine lj_tabc (2 : Int32) (off := 160) 192 dL_law_32 (by decide +kernel) rfl (fun _ => ?_) (fun c2 => ?_)
      · exact lc_hill o_hill hL hi4 hI k
      refine lj_tabc (3 : Int32) (off := 173) 205 dL_law_32 (by decide +kernel) rfl (fun _ => ?_) (fun c3 => ?_)
      · exact lc_temper o_temper hL hi4 hI k
      refine lj_tabc (4 : Int32) (off := 206) 238 dL_law_32 (by decide +kernel) rfl (fun _ => ?_) (fun c4 => ?_)
      · exact lc_nurse o_nurse hL hi4 hI k
      refine lj_tabc (5 : Int32) (off := 239) 271 dL_law_32 (by decide +kernel) rfl (fun _ => ?_) (fun c5 => ?_)
      · exact lc_sends o_sends hL hi4 hI k
      refine lj_tabc (6 : Int32) (off := 272) 304 dL_law_32 (by decide +kernel) rfl (fun _ => ?_) (fun c6 => ?_)
      · exact lc_fetches o_fetches hL hi4 hI k
      refine lj_tabc (7 : Int32) (off := 295) 327 dL_law_32 (by decide +kernel) rfl (fun _ => ?_) (fun c7 => ?_)
      · exact lc_visits o_visits hL hi4 hI k
      refine lj_tabc (8 : Int32) (off := 318) 350 dL_law_32 (by decide +kernel) rfl (fun _ => ?_) (fun c8 => ?_)
      · exact lc_mixes o_mixes hL hi4 hI k
      refine lj_tabc (9 : Int32) (off := 351) 383 dL_law_32 (by decide +kernel) rfl (fun _ => ?_) (fun c9 => ?_)
      · exact lc_years o_years hL hi4 hI k
      refine lj_tabc (10 : Int32) (off := 374) 406 dL_law_32 (by decide +kernel) rfl (fun _ => ?_) (fun c10 => ?_)
      · exact lc_undo o_undo hL hi4 hI k
      refine lj_tabc (11 : Int32) (off := 387) 419 dL_law_32 (by decide +kernel) rfl (fun _ => ?_) (fun c11 => ?_)
      · exact lc_now o_now hL hi4 hI k
      refine lj_tabc (12 : Int32) (off := 410) 442 dL_law_32 (by decide +kernel) rfl (fun _ => ?_) (fun c12 => ?_)
      · exact lc_when o_when hL hi4 hI k
      refine lj_tabc (13 : Int32) (off := 443) 475 dL_law_32 (by decide +kernel) rfl (fun _ => ?_) (fun c13 => ?_)
      · exact lc_hot o_hot hL hi4 hI k
      refine lj_tabc (14 : Int32) (off := 476) 508 dL_law_32 (by decide +kernel) rfl (fun _ => ?_) (fun c14 => ?_)
      · exact lc_plan o_plan hL hi4 hI k
      refine lj_tabc (15 : Int32) (off := 499) 531 dL_law_32 (by decide +kernel) rfl (fun _ => ?_) (fun c15 => ?_)
      · exact lc_best o_best hL hi4 hI k
      refine lj_tabc (16 : Int32) (off := 532) 564 dL_law_32 (by decide +kernel) rfl (fun _ => ?_) (fun c16 => ?_)
      · exact lc_beds o_beds hL hi4 hI k
      refine lj_tabc (17 : Int32) (off := 565) 597 dL_law_32 (by decide +kernel) rfl (fun _ => ?_) (fun c17 => ?_)
      · exact lc_odds o_odds hL hi4 hI k
      refine lj_tabc (18 : Int32) (off := 608) 640 dL_law_32 (by decide +kernel) rfl (fun _ => ?_) (fun c18 => ?_)
      · exact lc_hears o_hears hL hi4 hI k
      refine lj_tabc (19 : Int32) (off := 641) 673 dL_law_32 (by decide +kernel) rfl (fun _ => ?_) (fun c19 => ?_)
      · exact lc_forget o_forget hL hi4 hI k
      refine lj_tabc (20 : Int32) (off := 654) 686 dL_law_32 (by decide +kernel) rfl (fun _ => ?_) (fun c20 => ?_)
      · exact lc_whose o_whose hL hi4 hI k
      refine lj_tabc (21 : Int32) (off := 667) 699 dL_law_32 (by decide +kernel) rfl (fun _ => ?_) (fun c21 => ?_)
      · exact lc_ask o_ask hL hi4 hI k
      refine lj_tabc (22 : Int32) (off := 680) 712 dL_law_32 (by decide +kernel) rfl (fun _ => ?_) (fun c22 => ?_)
      · exact lc_mark o_mark hL hi4 hI k
      refine lj_tabc (23 : Int32) (off := 713) 745 dL_law_32 (by decide +kernel) rfl (fun _ => ?_) (fun c23 => ?_)
      · exact lc_keep o_keep hL hi4 hI k
      refine lj_tabc (24 : Int32) (off := 736) 768 dL_law_32 (by decide +kernel) rfl (fun _ => ?_) (fun c24 => ?_)
      · exact lc_back o_back hL hi4 hI k
      refine lj_tabc (25 : Int32) (off := 759) 791 dL_law_32 (by decide +kernel) rfl (fun _ => ?_) (fun c25 => ?_)
      · exact lc_count o_count hL hi4 hI k
      refine lj_tabc (26 : Int32) (off := 782) 814 dL_law_32 (by decide +kernel) rfl (fun _ => ?_) (fun c26 => ?_)
      · exact lc_trace o_trace hL hi4 hI k
      refine lj_tabd 828 dL_law_32 (by have := lv_neT (a := 0) c0 rfl; have := lv_neT (a := 1) c1 rfl; have := lv_neT (a := 2) c2 rfl; have := lv_neT (a := 3) c3 rfl; have := lv_neT (a := 4) c4 rfl; have := lv_neT (a := 5) c5 rfl; have := lv_neT (a := 6) c6 rfl; have := lv_neT (a := 7) c7 rfl; have := lv_neT (a := 8) c8 rfl; have := lv_neT (a := 9) c9 rfl; have := lv_neT (a := 10) c10 rfl; have := lv_neT (a := 11) c11 rfl; have := lv_neT (a := 12) c12 rfl; have := lv_neT (a := 13) c13 rfl; have := lv_neT (a := 14) c14 rfl; have := lv_neT (a := 15) c15 rfl; have := lv_neT (a := 16) c16 rfl; have := lv_neT (a := 17) c17 rfl; have := lv_neT (a := 18) c18 rfl; have := lv_neT (a := 19) c19 rfl; have := lv_neT (a := 20) c20 rfl; have := lv_neT (a := 21) c21 rfl; have := lv_neT (a := 22) c22 rfl; have := lv_neT (a := 23) c23 rfl; have := lv_neT (a := 24) c24 rfl; have := lv_neT (a := 25) c25 rfl; have := lv_neT (a := 26) c26 rfl; omega) rfl ?_
      exact lj_next (k h hI)
