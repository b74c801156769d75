/-! rows of the quiet machine: fields, rows of numbers, ends, calls -/
section JW
variable {ρ : Type} {l : Launch} {own : String} {cc : ByteArray} {nL : Nat} {rt : Option FieldType} {d : Nat} {S : List jv_S} {rv : ρ → Option Value} {pc : Nat} {lv : List (Nat × Value)} {st : List Value} {h : jv_H} {o o1 o2 : Option (ρ × jv_H)}
theorem jv_Tx {w : Cond} {p : Program} {s : State} {m : MethodId} {args : Array Value} {meth : Method} {c : Code} (C : jv_C own cc nL rt p s m args meth c) (hw : w ∈ jv_T) : w.before args s = true := C.2.2.2.2.2.1 w hw
theorem v_get {ix ci j a : Nat} {fin : Bool} {ty : FieldType} {fs : List Value} {w v : Value} (pc' : Nat) (hp : pc' = pc + 3) (hf : jv_fl own ix ci j fin ty) (hS : S[a]? = some (.inr (ci, fs))) (hj : fs[j]? = some w) (hv : ∀ ad : Nat → Nat, jv_f ad h a j w = jv_rz ad v) (hd : decode cc pc = .ok (.getfield ix, 3)) (k : jv_V l own cc nL rt d S rv pc' lv (v :: st) h o) : jv_V l own cc nL rt d S rv pc lv (.ref a :: st) h o := by
  subst hp
  intro res ho p e s m args below meth c ca D ad H locs ls C N J P Sx L
  obtain ⟨Cn, T, n, ty0, h1, h2, h3, h4, h5, h6, h7, h8⟩ := hf
  have hat : (jv_w ca ad h S)[a]? = some (ad a, .inr (ci, fs.mapIdx (jv_f ad h a))) := jv_w_at hS
  exact va_get (D := D) (ci := ci) (v := jv_rz ad v) C.1 C.2.1 (fun w hw => jv_Tx C hw) h3 C.2.2.2.2.1 N.1 P a hat h1 j h2 (jv_Tx C h4) (fun _ h9 => h9) (by rw [jv_f_at hj, hv]) hd (k res ho p e s m args below meth c ca D ad H locs ls C N J P Sx L)
theorem v_geti {ix ci j a : Nat} {fin : Bool} {ty : FieldType} {fs : List Value} (pc' : Nat) (hp : pc' = pc + 3) (hf : jv_fl own ix ci j fin ty) (hS : S[a]? = some (.inr (ci, fs))) (hj : fs[j]? = some (.int 0)) (hd : decode cc pc = .ok (.getfield ix, 3)) (k : jv_V l own cc nL rt d S rv pc' lv (.int (h.1 a j) :: st) h o) : jv_V l own cc nL rt d S rv pc lv (.ref a :: st) h o := v_get pc' hp hf hS hj (fun _ => rfl) hd k
theorem v_getl {ix ci j a : Nat} {fin : Bool} {ty : FieldType} {fs : List Value} (pc' : Nat) (hp : pc' = pc + 3) (hf : jv_fl own ix ci j fin ty) (hS : S[a]? = some (.inr (ci, fs))) (hj : fs[j]? = some (.long 0)) (hd : decode cc pc = .ok (.getfield ix, 3)) (k : jv_V l own cc nL rt d S rv pc' lv (.long (h.2 a j) :: st) h o) : jv_V l own cc nL rt d S rv pc lv (.ref a :: st) h o := v_get pc' hp hf hS hj (fun _ => rfl) hd k
theorem v_getr {ix ci j a r : Nat} {fin : Bool} {ty : FieldType} {fs : List Value} (pc' : Nat) (hp : pc' = pc + 3) (hf : jv_fl own ix ci j fin ty) (hS : S[a]? = some (.inr (ci, fs))) (hj : fs[j]? = some (.ref r)) (hd : decode cc pc = .ok (.getfield ix, 3)) (k : jv_V l own cc nL rt d S rv pc' lv (.ref r :: st) h o) : jv_V l own cc nL rt d S rv pc lv (.ref a :: st) h o := v_get pc' hp hf hS hj (fun _ => rfl) hd k
theorem v_puti {ix ci j a : Nat} {fs : List Value} {v : Int32} (pc' : Nat) (hp : pc' = pc + 3) (hf : jv_fl own ix ci j false .int) (hS : S[a]? = some (.inr (ci, fs))) (hj : fs[j]? = some (.int 0)) (hd : decode cc pc = .ok (.putfield ix, 3)) (k : jv_V l own cc nL rt d S rv pc' lv st (jv_s h a (upd (h.1 a) j v)) o) : jv_V l own cc nL rt d S rv pc lv (.int v :: .ref a :: st) h o := by
  subst hp
  intro res ho p e s m args below meth c ca D ad H locs ls C N J P Sx L
  obtain ⟨Cn, T, n, ty0, h1, h2, h3, h4, h5, h6, h7, h8⟩ := hf
  have hat : (jv_w ca ad h S)[a]? = some (ad a, .inr (ci, fs.mapIdx (jv_f ad h a))) := jv_w_at hS
  refine va_put (D := D) (ci := ci) (v := .int v) (ty := .int) C.1 C.2.1 (fun w hw => jv_Tx C hw) h3 ty0 h7 h8 C.2.2.2.2.1 N.1 P (jv_D J h) Sx a hat h1 j h2 (jv_Tx C h4) (fun _ h9 => h9) h5 h6 rfl rfl (by simpa using (List.getElem?_eq_some_iff.mp hj).1) hd (fun H1 locs1 P1 _ S1 => ?_)
  rw [jv_w_i hS hj v] at P1
  exact k res ho p e s m args below meth c ca D ad H1 locs1 ls C N J P1 S1 L
theorem v_putl {ix ci j a : Nat} {fs : List Value} {v : Int64} (pc' : Nat) (hp : pc' = pc + 3) (hf : jv_fl own ix ci j false .long) (hS : S[a]? = some (.inr (ci, fs))) (hj : fs[j]? = some (.long 0)) (hd : decode cc pc = .ok (.putfield ix, 3)) (k : jv_V l own cc nL rt d S rv pc' lv st (jv_l h a j v) o) : jv_V l own cc nL rt d S rv pc lv (.long v :: .ref a :: st) h o := by
  subst hp
  intro res ho p e s m args below meth c ca D ad H locs ls C N J P Sx L
  obtain ⟨Cn, T, n, ty0, h1, h2, h3, h4, h5, h6, h7, h8⟩ := hf
  have hat : (jv_w ca ad h S)[a]? = some (ad a, .inr (ci, fs.mapIdx (jv_f ad h a))) := jv_w_at hS
  refine va_put (D := D) (ci := ci) (v := .long v) (ty := .long) C.1 C.2.1 (fun w hw => jv_Tx C hw) h3 ty0 h7 h8 C.2.2.2.2.1 N.1 P (jv_D J h) Sx a hat h1 j h2 (jv_Tx C h4) (fun _ h9 => h9) h5 h6 rfl rfl (by simpa using (List.getElem?_eq_some_iff.mp hj).1) hd (fun H1 locs1 P1 _ S1 => ?_)
  rw [jv_w_l hS hj v] at P1
  exact k res ho p e s m args below meth c ca D ad H1 locs1 ls C N J P1 S1 L
/-- a place that a row of n has -/
abbrev jv_ix (i : Int32) (n : Nat) : Prop := 0 ≤ i.toInt ∧ i.toInt < n
theorem v_iald {a n : Nat} {i : Int32} {inst : Decidable (jv_ix i n)} (pc' : Nat) (hp : pc' = pc + 1) (hS : S[a]? = some (.inl (false, n))) (hd : decode cc pc = .ok (.iaload, 1)) (k : jv_ix i n → jv_V l own cc nL rt d S rv pc' lv (.int (h.1 a i.toNatClampNeg) :: st) h o) : jv_V l own cc nL rt d S rv pc lv (.int i :: .ref a :: st) h (@ite _ (jv_ix i n) inst o none) := by
  subst hp
  intro res ho p e s m args below meth c ca D ad H locs ls C N J P Sx L
  by_cases hi : jv_ix i n
  · rw [if_pos hi] at ho
    exact va_iald C.1 C.2.1 N.1 P a 0 (jv_w_at hS) rfl (vp_in_iff.mpr hi) hd (k hi res ho p e s m args below meth c ca D ad H locs ls C N J P Sx L)
  · rw [if_neg hi] at ho; cases ho
theorem v_zald {a n : Nat} {i : Int32} {inst : Decidable (jv_ix i n)} (pc' : Nat) (hp : pc' = pc + 1) (hS : S[a]? = some (.inl (true, n))) (hd : decode cc pc = .ok (.baload, 1)) (k : jv_ix i n → jv_V l own cc nL rt d S rv pc' lv (.int (h.1 a i.toNatClampNeg) :: st) h o) : jv_V l own cc nL rt d S rv pc lv (.int i :: .ref a :: st) h (@ite _ (jv_ix i n) inst o none) := by
  subst hp
  intro res ho p e s m args below meth c ca D ad H locs ls C N J P Sx L
  by_cases hi : jv_ix i n
  · rw [if_pos hi] at ho
    exact va_zald C.1 C.2.1 N.1 P a 1 (jv_w_at hS) rfl (vp_in_iff.mpr hi) hd (k hi res ho p e s m args below meth c ca D ad H locs ls C N J P Sx L)
  · rw [if_neg hi] at ho; cases ho
theorem v_iast {a n : Nat} {i x : Int32} {inst : Decidable (jv_ix i n)} (pc' : Nat) (hp : pc' = pc + 1) (hS : S[a]? = some (.inl (false, n))) (hd : decode cc pc = .ok (.iastore, 1)) (k : jv_ix i n → jv_V l own cc nL rt d S rv pc' lv st (jv_s h a (upd (h.1 a) i.toNatClampNeg x)) o) : jv_V l own cc nL rt d S rv pc lv (.int x :: .int i :: .ref a :: st) h (@ite _ (jv_ix i n) inst o none) := by
  subst hp
  intro res ho p e s m args below meth c ca D ad H locs ls C N J P Sx L
  by_cases hi : jv_ix i n
  · rw [if_pos hi] at ho
    refine va_iast C.1 C.2.1 N.1 P (jv_D J h) Sx a 0 (jv_w_at hS) rfl (vp_in_iff.mpr hi) hd (fun H1 locs1 P1 _ S1 => ?_)
    rw [jv_w_arr hS] at P1
    exact k hi res ho p e s m args below meth c ca D ad H1 locs1 ls C N J P1 S1 L
  · rw [if_neg hi] at ho; cases ho
theorem v_zast {a n : Nat} {i x : Int32} {inst : Decidable (jv_ix i n)} (pc' : Nat) (hp : pc' = pc + 1) (hS : S[a]? = some (.inl (true, n))) (hd : decode cc pc = .ok (.bastore, 1)) (k : jv_ix i n → jv_V l own cc nL rt d S rv pc' lv st (jv_s h a (upd (h.1 a) i.toNatClampNeg (vp_nar .boolean x))) o) : jv_V l own cc nL rt d S rv pc lv (.int x :: .int i :: .ref a :: st) h (@ite _ (jv_ix i n) inst o none) := by
  subst hp
  intro res ho p e s m args below meth c ca D ad H locs ls C N J P Sx L
  by_cases hi : jv_ix i n
  · rw [if_pos hi] at ho
    refine va_zast C.1 C.2.1 N.1 P (jv_D J h) Sx a 1 (jv_w_at hS) rfl (vp_in_iff.mpr hi) hd (fun H1 locs1 P1 _ S1 => ?_)
    rw [jv_w_arr hS] at P1
    exact k hi res ho p e s m args below meth c ca D ad H1 locs1 ls C N J P1 S1 L
  · rw [if_neg hi] at ho; cases ho
theorem v_alen {a n : Nat} {z : Bool} {v : Int32} (pc' : Nat) (hp : pc' = pc + 1) (hS : S[a]? = some (.inl (z, n))) (hv : Int32.ofNat n = v) (hd : decode cc pc = .ok (.arraylength, 1)) (k : jv_V l own cc nL rt d S rv pc' lv (.int v :: st) h o) : jv_V l own cc nL rt d S rv pc lv (.ref a :: st) h o := by
  subst hp
  intro res ho p e s m args below meth c ca D ad H locs ls C N J P Sx L
  cases z with
  | false => exact va_alen C.1 C.2.1 N.1 P a 0 (jv_w_at hS) (ty := .int) rfl hv hd (k res ho p e s m args below meth c ca D ad H locs ls C N J P Sx L)
  | true => exact va_alen C.1 C.2.1 N.1 P a 1 (jv_w_at hS) (ty := .boolean) rfl hv hd (k res ho p e s m args below meth c ca D ad H locs ls C N J P Sx L)
theorem v_gets {ix : Nat} (i : Nat) (pc' : Nat) (hp : pc' = pc + 3) (hi : i < 4) (hw : Cond.fieldLink own ix RX7 (jv_sn i) "[I" ∈ jv_T) (hd : decode cc pc = .ok (.getstatic ix, 3)) (k : jv_V l own cc nL rt d S rv pc' lv (.ref (1000 + i) :: st) h o) : jv_V l own cc nL rt d S rv pc lv st h o := by
  subst hp
  intro res ho p e s m args below meth c ca D ad H locs ls C N J P Sx L
  exact va_gets C.1 C.2.1 (N.2.2 i hi).1 Sx C.2.2.2.2.1 (jv_Tx C hw) (fun _ h9 => h9) hd (k res ho p e s m args below meth c ca D ad H locs ls C N J P Sx L)
theorem v_tald {j : Int32} {inst : Decidable (jv_ix j 3)} (i : Nat) (pc' : Nat) (hp : pc' = pc + 1) (hi : i < 4) (hd : decode cc pc = .ok (.iaload, 1)) (k : jv_ix j 3 → jv_V l own cc nL rt d S rv pc' lv (.int (jv_sc i j.toNatClampNeg) :: st) h o) : jv_V l own cc nL rt d S rv pc lv (.int j :: .ref (1000 + i) :: st) h (@ite _ (jv_ix j 3) inst o none) := by
  subst hp
  intro res ho p e s m args below meth c ca D ad H locs ls C N J P Sx L
  by_cases hj : jv_ix j 3
  · rw [if_pos hj] at ho
    exact va_ti C.1 C.2.1 (N.2.2 i hi).2 Sx (vp_in_iff.mpr hj) rfl hd (k hj res ho p e s m args below meth c ca D ad H locs ls C N J P Sx L)
  · rw [if_neg hj] at ho; cases ho
theorem v_mmax {ix : Nat} {x y : Int32} (pc' : Nat) (hp : pc' = pc + 3) (hd1 : 1 ≤ d) (hst : (st.map fun v => v.category).sum ≤ 8) (hw : Cond.methodLink own ix Lib.Math.max.name ∈ jv_T) (h2 : Cond.static Lib.Math.max.name ∈ jv_T) (h3 : Cond.initialized "java/lang/Math" ∈ jv_T) (h4 : Cond.code Lib.Math.max.name Lib.Math.max.code 2 (some .int) ∈ jv_T) (hd : decode cc pc = .ok (.invokestatic ix, 3)) (k : jv_V l own cc nL rt d S rv pc' lv (.int (if x < y then y else x) :: st) h o) : jv_V l own cc nL rt d S rv pc lv (.int y :: .int x :: st) h o := by
  subst hp
  intro res ho p e s m args below meth c ca D ad H locs ls C N J P Sx L
  exact va_mmax C.1 C.2.1 (C.2.2.2.1.trans L.1.symm) C.2.2.2.2.1 (jv_Tx C hw) (jv_Tx C h2) (jv_Tx C h3) (jv_Tx C h4) hd1 (by rw [jv_cats]; show _ ≤ 40 * d; omega) (Nat.zero_le _) (Nat.zero_le _) hd (k res ho p e s m args below meth c ca D ad H locs ls C N J P Sx L)
theorem v_mmin {ix : Nat} {x y : Int32} (pc' : Nat) (hp : pc' = pc + 3) (hd1 : 1 ≤ d) (hst : (st.map fun v => v.category).sum ≤ 8) (hw : Cond.methodLink own ix Lib.Math.min.name ∈ jv_T) (h2 : Cond.static Lib.Math.min.name ∈ jv_T) (h3 : Cond.initialized "java/lang/Math" ∈ jv_T) (h4 : Cond.code Lib.Math.min.name Lib.Math.min.code 2 (some .int) ∈ jv_T) (hd : decode cc pc = .ok (.invokestatic ix, 3)) (k : jv_V l own cc nL rt d S rv pc' lv (.int (if y < x then y else x) :: st) h o) : jv_V l own cc nL rt d S rv pc lv (.int y :: .int x :: st) h o := by
  subst hp
  intro res ho p e s m args below meth c ca D ad H locs ls C N J P Sx L
  exact va_mmin C.1 C.2.1 (C.2.2.2.1.trans L.1.symm) C.2.2.2.2.1 (jv_Tx C hw) (jv_Tx C h2) (jv_Tx C h3) (jv_Tx C h4) hd1 (by rw [jv_cats]; show _ ≤ 40 * d; omega) (Nat.zero_le _) (Nat.zero_le _) hd (k res ho p e s m args below meth c ca D ad H locs ls C N J P Sx L)
/-- n ints can be taken from place sp of n0 to place dp of n1 -/
abbrev jv_cp (sp dp n : Int32) (n0 n1 : Nat) : Prop := 0 ≤ sp.toInt ∧ 0 ≤ dp.toInt ∧ 0 ≤ n.toInt ∧ sp.toInt + n.toInt ≤ n0 ∧ dp.toInt + n.toInt ≤ n1
theorem jv_clamp {x : Int32} (h : 0 ≤ x.toInt) : ¬ x < 0 ∧ (x.toNatClampNeg : Int) = x.toInt := by
  refine ⟨fun q => ?_, ?_⟩
  · have h1 : x.toInt < (0 : Int32).toInt := Int32.lt_iff_toInt_lt.mp q
    have h2 : (0 : Int32).toInt = 0 := rfl
    omega
  · show ((x.toInt.toNat : Nat) : Int) = x.toInt
    omega
theorem jv_native : nativeFrameWords "java/lang/System" "arraycopy" 5 = 7 := by decide +kernel
theorem v_copy {ix a0 a1 n0 n1 : Nat} {sp dp n : Int32} {inst : Decidable (jv_cp sp dp n n0 n1)} (pc' : Nat) (hp : pc' = pc + 3) (hd1 : 1 ≤ d) (hst : (st.map fun v => v.category).sum ≤ 8) (hS0 : S[a0]? = some (.inl (false, n0))) (hS1 : S[a1]? = some (.inl (false, n1))) (hw : Cond.methodLink own ix arraycopyName ∈ jv_T) (h2 : Cond.native arraycopyName ∈ jv_T) (h3 : Cond.static arraycopyName ∈ jv_T) (h4 : Cond.initialized "java/lang/System" ∈ jv_T) (hd : decode cc pc = .ok (.invokestatic ix, 3)) (k : jv_cp sp dp n n0 n1 → jv_V l own cc nL rt d S rv pc' lv st (jv_s h a1 (va_cpy (h.1 a0) (h.1 a1) sp.toNatClampNeg dp.toNatClampNeg n.toNatClampNeg)) o) : jv_V l own cc nL rt d S rv pc lv (.int n :: .int dp :: .ref a1 :: .int sp :: .ref a0 :: st) h (@ite _ (jv_cp sp dp n n0 n1) inst o none) := by
  subst hp
  intro res ho p e s m args below meth c ca D ad H locs ls C N J P Sx L
  by_cases hi : jv_cp sp dp n n0 n1
  · rw [if_pos hi] at ho
    obtain ⟨b1, b2, b3, b4, b5⟩ := hi
    have g1 := jv_clamp b1
    have g2 := jv_clamp b2
    have g3 := jv_clamp b3
    refine va_copyi (ty := .int) C.1 C.2.1 (C.2.2.2.1.trans L.1.symm) C.2.2.2.2.1 (jv_Tx C hw) (jv_Tx C h2) (jv_Tx C h3) (jv_Tx C h4) N.1 P (jv_D J h) Sx a0 a1 0 0 (jv_w_at hS0) (jv_w_at hS1) rfl rfl rfl g1.1 g2.1 g3.1 (by omega) (by omega) (fun _ _ => rfl) hd1 (by rw [jv_cats, jv_native]; show _ ≤ 40 * d; omega) hd (fun H1 locs1 P1 _ S1 => ?_)
    rw [jv_w_arr hS1] at P1
    exact k ⟨b1, b2, b3, b4, b5⟩ res ho p e s m args below meth c ca D ad H1 locs1 ls C N J P1 S1 L
  · rw [if_neg hi] at ho; cases ho
-- ends
theorem v_iret {v : Int32} (hr : rt = some .int) (hd : decode cc pc = .ok (.ireturn, 1)) : jv_V l own cc nL rt d S jv_ri pc lv [.int v] h (some (v, h)) := by
  subst hr
  intro res ho p e s m args below meth c ca D ad H locs ls C N J P Sx L
  cases ho
  exact W.iret C.1 C.2.1 C.2.2.1 (fun t ht _ => ⟨rfl, by rw [ht]; exact P, Sx.F ht⟩) Sx.2.2 hd (hlocks := C.2.2.2.2.2.2)
theorem v_zret {v : Int32} {inst : Decidable (v = 0 ∨ v = 1)} (hr : rt = some .boolean) (hd : decode cc pc = .ok (.ireturn, 1)) : jv_V l own cc nL rt d S jv_ri pc lv [.int v] h (@ite _ (v = 0 ∨ v = 1) inst (some (v, h)) none) := by
  subst hr
  intro res ho p e s m args below meth c ca D ad H locs ls C N J P Sx L
  by_cases hv : v = 0 ∨ v = 1
  · rw [if_pos hv] at ho
    cases ho
    exact W.zret C.1 C.2.1 C.2.2.1 (by rcases hv with rfl | rfl <;> rfl) (fun t ht _ => ⟨rfl, by rw [ht]; exact P, Sx.F ht⟩) Sx.2.2 hd (hlocks := C.2.2.2.2.2.2)
  · rw [if_neg hv] at ho; cases ho
theorem v_lret {v : Int64} (hr : rt = some .long) (hd : decode cc pc = .ok (.lreturn, 1)) : jv_V l own cc nL rt d S jv_rl pc lv [.long v] h (some (v, h)) := by
  subst hr
  intro res ho p e s m args below meth c ca D ad H locs ls C N J P Sx L
  cases ho
  exact W.lret C.1 C.2.1 C.2.2.1 (fun t ht _ => ⟨rfl, by rw [ht]; exact P, Sx.F ht⟩) Sx.2.2 hd (hlocks := C.2.2.2.2.2.2)
theorem v_aret {v : Nat} {nm : String} (hr : rt = some (.object nm)) (hd : decode cc pc = .ok (.areturn, 1)) : jv_V l own cc nL rt d S jv_rr pc lv [.ref v] h (some (v, h)) := by
  subst hr
  intro res ho p e s m args below meth c ca D ad H locs ls C N J P Sx L
  cases ho
  exact W.aret C.1 C.2.1 C.2.2.1 (Or.inl ⟨_, rfl⟩) (Or.inr ⟨_, rfl⟩) (fun t ht _ => ⟨rfl, by rw [ht]; exact P, Sx.F ht⟩) Sx.2.2 hd (hlocks := C.2.2.2.2.2.2)
theorem v_vret (hr : rt = none) (hd : decode cc pc = .ok (.return_, 1)) : jv_V l own cc nL rt d S jv_rv pc lv [] h (some ((), h)) := by
  subst hr
  intro res ho p e s m args below meth c ca D ad H locs ls C N J P Sx L
  cases ho
  exact W.vret C.1 C.2.1 C.2.2.1 (fun t ht _ => ⟨rfl, by rw [ht]; exact P, Sx.F ht⟩) Sx.2.2 hd (hlocks := C.2.2.2.2.2.2)
-- calls
theorem jv_blind {ca : Bool → ClassId} {D : va_G} {ad : Nat → Nat} {as : List Value} {h : jv_H} : FrameBlind (jv_P ca D ad S as h) := fun a U g mk q => ⟨q.1, jv_N_calling g mk a q.2.1, q.2.2.1, q.2.2.2⟩
theorem jv_go {p : Program} {e : Env} {s : State} {m : MethodId} {args : Array Value} {below : List Frame} {meth : Method} {c : Code} {ca : Bool → ClassId} {D : va_G} {ad : Nat → Nat} {H : Heap} {locs : List Loc} {ls : Array Slot} {Q : State → Prop} {r : Option Value} {h1 : jv_H} {st0 rest : List Value} {a : Array Value}
    (hr : va_Run p l e (jv_R d) s m args below meth c H locs 0 0 0 0 (F0 m pc ls st0) rest (jv_Q ca D ad S r h1 a) (jv_A ad S)) (Sx : va_S (jv_A ad S) s.heap H locs)
    (kk : ∀ (H1 : Heap) (locs1 : List Loc), va_P D vwCl (jv_w ca ad h1 S) H1 → va_S (jv_A ad S) s.heap H1 locs1 → W p l e (jv_R d) s m args below meth c H1 locs1 0 0 Q (F0 m (pc + 3) ls ((r.map (jv_rz ad)).toList ++ rest))) :
    W p l e (jv_R d) s m args below meth c H locs 0 0 Q (F0 m pc ls st0) := by
  intro T hT X
  obtain ⟨v, st₀, t, T', L, h0, X', hL, e1, e2, ⟨hv, hP, hz, hk⟩, st⟩ := hr T hT X
  cases hv
  rw [h0] at hz hk
  obtain ⟨t2, a1, b1⟩ := kk T'.heap (locs ++ L) (by rw [e1]; exact hP) ⟨Nat.le_trans Sx.1 (by rw [e1]; exact hz), fun q q1 q2 => by rw [e1, hk q (Nat.lt_of_lt_of_le q1 Sx.1) q2]; exact Sx.2.1 q q1 q2, fun q hq => by
    rcases List.mem_append.mp hq with g | g
    · exact Sx.2.2 q g
    · exact hL q g⟩ T' rfl X'
  exact ⟨t2, st t2 a1, b1⟩
theorem jv_pre {p : Program} {s : State} {m : MethodId} {args : Array Value} {meth : Method} {c : Code} {ca : Bool → ClassId} {D : va_G} {ad : Nat → Nat} {H : Heap} {locs : List Loc} {as : List Value} (N : jv_N ca D ad S s) (J : jv_J ad S) (P : va_P D vwCl (jv_w ca ad h S) H) (Sx : va_S (jv_A ad S) s.heap H locs) : ∀ U : State, U.heap = H → s.WarmedH U.vm → jv_P ca D ad S as h (as.map (jv_rz ad)).toArray U :=
  fun U hU hW => ⟨rfl, jv_N_moved N hW (fun a ha hn => by rw [hU]; exact Sx.2.1 a ha hn), J, by rw [hU]; exact P⟩
theorem jv_words {y : MethodName} {cc' : ByteArray} {nL' : Nat} {rt' : Option FieldType} (hc : Cond.code y cc' nL' rt' ∈ jv_T) (ws0 : List Cond) (h0 : ∀ w ∈ ws0, w ∈ jv_T) : GoodIn jv_T (ws0 ++ (Cond.code y cc' nL' rt' :: jv_T)) := jv_good fun w hw => by
  rcases List.mem_append.mp hw with q | q
  · exact h0 w q
  · rcases List.mem_cons.mp q with rfl | q
    · exact hc
    · exact q
theorem v_callv {ρ' : Type} {rv' : ρ' → Option Value} {y : MethodName} {cc' : ByteArray} {nL' n ix a ci : Nat} {rt' : Option FieldType} {as : List Value} {fs : List Value} {f : Option (ρ' × jv_H)} {g : ρ' × jv_H → Option (ρ × jv_H)} (pc' : Nat) (hp : pc' = pc + 3) (hd1 : 1 ≤ d) (hnl : nL' ≤ 21) (hcb : jv_cb y cc' nL' rt' n) (hcv : jv_cv own ix y) (hS : S[a]? = some (.inr (ci, fs))) (hci : vwCl[ci]?.map (fun q => q.1) = some y.cls) (hn : as.length = n) (hst : (st.map fun v => v.category).sum ≤ 8) (hd : decode cc pc = .ok (.invokevirtual ix, 3))
    (hE : jv_E l y cc' nL' rt' (d - 1) S rv' (.ref a :: as) h f) (k : ∀ q, jv_V l own cc nL rt d S rv pc' lv ((rv' q.1).toList ++ st) q.2 (g q)) : jv_V l own cc nL rt d S rv pc lv (as.reverse ++ .ref a :: st) h (f.bind g) := by
  subst hp
  intro res ho p e s m args below meth c ca D ad H locs ls C N J P Sx L
  cases hf : f with
  | none => rw [hf] at ho; cases ho
  | some q =>
    rw [hf] at ho
    have hM := hE q hf ca D ad
    have hK := k q res ho
    obtain ⟨w1, w2, w3⟩ := hcv
    obtain ⟨w4, w5, w6⟩ := hcb
    cases hcl : vwCl[ci]? with
    | none => rw [hcl] at hci; cases hci
    | some r =>
      rw [hcl] at hci
      have hrc : r.1 = y.cls := Option.some.inj hci
      have cw : CallW (jv_R d) s args own y.cls ix y cc' nL' rt' (Cond.code y cc' nL' rt' :: jv_T) (jv_R (d - 1)) 0 0 n := cwV n C.2.2.2.2.2.1 (jv_words w5 [.methodLink own ix y, .instanceMethod y, .selects y.cls y y, .initialized y.cls] (fun w hw => by
        simp only [List.mem_cons, List.not_mem_nil, or_false] at hw
        rcases hw with rfl | rfl | rfl | rfl
        · exact w1
        · exact w2
        · exact w3
        · exact w4)) rfl rfl rfl ⟨rfl, w6⟩ ⟨by show d - 1 + 1 ≤ d; omega, by show 8 + (nL' + 11) + 40 * (d - 1) ≤ 40 * d; omega⟩
      have hpre := jv_pre (as := .ref a :: as) (p := p) (m := m) (args := args) (meth := meth) (c := c) N J P Sx
      have hrec := va_recv N.1 P hcl (jv_w_at (ca := ca) (ad := ad) (h := h) hS)
      rw [hrc] at hrec
      have hstk : ((as.reverse ++ .ref a :: st).map (jv_rz ad)) = (as.map (jv_rz ad)).reverse ++ .ref (ad a) :: st.map (jv_rz ad) := by rw [List.map_append, List.map_reverse]; rfl
      rw [hstk]
      refine jv_go (va_runV (C := y.cls) (As := as.map (jv_rz ad)) (b := ad a) (rest := st.map (jv_rz ad)) ⟨C.1, C.2.1, C.2.2.2.1, C.2.2.2.2.1, C.2.2.2.2.2.1⟩ hM cw ⟨jv_blind, hrec, hpre⟩ rfl (by rw [List.length_map, hn]) L.1 rfl (lv_room (by rw [jv_cats]; exact hst)) hd ⟨Nat.le_refl _, Nat.le_refl _⟩) Sx (fun H1 locs1 P1 S1 => ?_)
      have hz := hK p e s m args below meth c ca D ad H1 locs1 ls C N J P1 S1 L
      rw [List.map_append] at hz
      cases hrv : rv' q.1 with
      | none => rw [hrv] at hz; exact hz
      | some v => rw [hrv] at hz; exact hz
theorem v_calls {ρ' : Type} {rv' : ρ' → Option Value} {y : MethodName} {cc' : ByteArray} {nL' n ix : Nat} {rt' : Option FieldType} {as : List Value} {f : Option (ρ' × jv_H)} {g : ρ' × jv_H → Option (ρ × jv_H)} (pc' : Nat) (hp : pc' = pc + 3) (hd1 : 1 ≤ d) (hnl : nL' ≤ 21) (hcb : jv_cb y cc' nL' rt' n) (hcs : jv_cs own ix y) (hn : as.length = n) (hst : (st.map fun v => v.category).sum ≤ 8) (hd : decode cc pc = .ok (.invokestatic ix, 3))
    (hE : jv_E l y cc' nL' rt' (d - 1) S rv' as h f) (k : ∀ q, jv_V l own cc nL rt d S rv pc' lv ((rv' q.1).toList ++ st) q.2 (g q)) : jv_V l own cc nL rt d S rv pc lv (as.reverse ++ st) h (f.bind g) := by
  subst hp
  intro res ho p e s m args below meth c ca D ad H locs ls C N J P Sx L
  cases hf : f with
  | none => rw [hf] at ho; cases ho
  | some q =>
    rw [hf] at ho
    have hM := hE q hf ca D ad
    have hK := k q res ho
    obtain ⟨w1, w2⟩ := hcs
    obtain ⟨w4, w5, w6⟩ := hcb
    have cw : CallB (jv_R d) s args own ix y cc' nL' rt' (Cond.code y cc' nL' rt' :: jv_T) (jv_R (d - 1)) 0 0 n ∧ (Cond.static y).before args s = true := va_cwS n C.2.2.2.2.2.1 (jv_words w5 [.methodLink own ix y, .static y, .initialized y.cls] (fun w hw => by
        simp only [List.mem_cons, List.not_mem_nil, or_false] at hw
        rcases hw with rfl | rfl | rfl
        · exact w1
        · exact w2
        · exact w4)) rfl rfl rfl w6 ⟨by show d - 1 + 1 ≤ d; omega, by show 8 + (nL' + 11) + 40 * (d - 1) ≤ 40 * d; omega⟩
    have hpre := jv_pre (as := as) (p := p) (m := m) (args := args) (meth := meth) (c := c) N J P Sx
    have hstk : ((as.reverse ++ st).map (jv_rz ad)) = (as.map (jv_rz ad)).reverse ++ st.map (jv_rz ad) := by rw [List.map_append, List.map_reverse]
    rw [hstk]
    refine jv_go (va_runS (As := as.map (jv_rz ad)) (rest := st.map (jv_rz ad)) ⟨C.1, C.2.1, C.2.2.2.1, C.2.2.2.2.1, C.2.2.2.2.2.1⟩ hM cw ⟨jv_blind, hpre⟩ rfl (by rw [List.length_map, hn]) L.1 rfl (lv_room (by rw [jv_cats]; exact hst)) hd ⟨Nat.le_refl _, Nat.le_refl _⟩) Sx (fun H1 locs1 P1 S1 => ?_)
    have hz := hK p e s m args below meth c ca D ad H1 locs1 ls C N J P1 S1 L
    rw [List.map_append] at hz
    cases hrv : rv' q.1 with
    | none => rw [hrv] at hz; exact hz
    | some v => rw [hrv] at hz; exact hz
theorem v_calln {ρ' : Type} {rv' : ρ' → Option Value} {y : MethodName} {cc' : ByteArray} {nL' n ix : Nat} {rt' : Option FieldType} {as : List Value} {host : String} {f : Option (ρ' × jv_H)} {g : ρ' × jv_H → Option (ρ × jv_H)} (pc' : Nat) (hp : pc' = pc + 3) (hd1 : 1 ≤ d) (hnl : nL' ≤ 21) (hcb : jv_cb y cc' nL' rt' n) (hcs : jv_cn own ix y host) (hn : as.length = n) (hst : (st.map fun v => v.category).sum ≤ 8) (hd : decode cc pc = .ok (.invokestatic ix, 3))
    (hE : jv_E l y cc' nL' rt' (d - 1) S rv' as h f) (k : ∀ q, jv_V l own cc nL rt d S rv pc' lv ((rv' q.1).toList ++ st) q.2 (g q)) : jv_V l own cc nL rt d S rv pc lv (as.reverse ++ st) h (f.bind g) := by
  subst hp
  intro res ho p e s m args below meth c ca D ad H locs ls C N J P Sx L
  cases hf : f with
  | none => rw [hf] at ho; cases ho
  | some q =>
    rw [hf] at ho
    have hM := hE q hf ca D ad
    have hK := k q res ho
    obtain ⟨w1, w2⟩ := hcs
    obtain ⟨w4, w5, w6⟩ := hcb
    have cw : va_CN (jv_R d) s args own ix y host cc' nL' rt' (Cond.code y cc' nL' rt' :: jv_T) (jv_R (d - 1)) 0 0 n := va_cnB n C.2.2.2.2.2.1 (jv_words w5 [] (fun w hw => by cases hw)) rfl rfl rfl (N.2.1 _ w1) (jv_Tx C w4) w6 ⟨by show d - 1 + 1 ≤ d; omega, by show 8 + (nL' + 11) + 40 * (d - 1) ≤ 40 * d; omega⟩
    have hpre := jv_pre (as := as) (p := p) (m := m) (args := args) (meth := meth) (c := c) N J P Sx
    have hstk : ((as.reverse ++ st).map (jv_rz ad)) = (as.map (jv_rz ad)).reverse ++ st.map (jv_rz ad) := by rw [List.map_append, List.map_reverse]
    rw [hstk]
    refine jv_go (va_runSN (As := as.map (jv_rz ad)) (rest := st.map (jv_rz ad)) ⟨C.1, C.2.1, C.2.2.2.1, C.2.2.2.2.1, C.2.2.2.2.2.1⟩ hM ⟨cw, jv_Tx C w2, trivial⟩ ⟨jv_blind, hpre⟩ rfl (by rw [List.length_map, hn]) L.1 rfl (lv_room (by rw [jv_cats]; exact hst)) hd ⟨Nat.le_refl _, Nat.le_refl _⟩) Sx (fun H1 locs1 P1 S1 => ?_)
    have hz := hK p e s m args below meth c ca D ad H1 locs1 ls C N J P1 S1 L
    rw [List.map_append] at hz
    cases hrv : rv' q.1 with
    | none => rw [hrv] at hz; exact hz
    | some v => rw [hrv] at hz; exact hz
end JW
