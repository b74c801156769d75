/-! constructors: the shape grows; a new cell's number is the shape's length -/
def jc_ad (ad : Nat → Nat) (n q : Nat) : Nat → Nat := fun k => if k = n then q else ad k
def jc_nv (n : Nat) (v : Value) : Bool := match v with
  | .ref r => !(r == n)
  | _ => true
def jc_nr (n : Nat) (S : List jv_S) : Bool := S.all (fun e => match e with
  | .inl _ => true
  | .inr o => o.2.all (jc_nv n))
theorem jc_rz {ad : Nat → Nat} {n q : Nat} {v : Value} (h : jc_nv n v = true) : jv_rz (jc_ad ad n q) v = jv_rz ad v := by
  cases v with
  | ref r =>
    have hr : ¬ r = n := by simpa [jc_nv] using h
    simp [jv_rz, jc_ad, hr]
  | _ => rfl
theorem jc_rzs {ad : Nat → Nat} {n q : Nat} {st : List Value} (h : st.all (jc_nv n) = true) : st.map (jv_rz (jc_ad ad n q)) = st.map (jv_rz ad) := List.map_congr_left fun v hv => jc_rz (List.all_eq_true.mp h v hv)
theorem jc_lvs {ad : Nat → Nat} {n q : Nat} {lv : List (Nat × Value)} (h : lv.all (fun z => jc_nv n z.2) = true) : jv_lv (jc_ad ad n q) lv = jv_lv ad lv := List.map_congr_left fun z hz => by rw [jc_rz (List.all_eq_true.mp h z hz)]
theorem jc_e {ca : Bool → ClassId} {ad : Nat → Nat} {h : jv_H} {n q k : Nat} {e : jv_S} (he : (match e with | .inl _ => true | .inr o => o.2.all (jc_nv n)) = true) : jv_e ca (jc_ad ad n q) h k e = jv_e ca ad h k e := by
  cases e with
  | inl a => rfl
  | inr o =>
    simp only [jv_e]
    congr 2
    apply List.ext_getElem?
    intro i
    rw [List.getElem?_mapIdx, List.getElem?_mapIdx]
    cases hv : o.2[i]? with
    | none => rfl
    | some v =>
      have h1 := List.all_eq_true.mp he v (List.mem_of_getElem? hv)
      cases v with
      | ref r =>
        have hr : ¬ r = n := by simpa [jc_nv] using h1
        simp [jv_f, jc_ad, hr]
      | _ => rfl
theorem jc_w {ca : Bool → ClassId} {ad : Nat → Nat} {h : jv_H} {n q : Nat} {S : List jv_S} (hn : n = S.length) (hr : jc_nr n S = true) : jv_w ca (jc_ad ad n q) h S = jv_w ca ad h S := by
  apply List.ext_getElem?
  intro i
  simp only [jv_w, List.getElem?_mapIdx]
  cases hi : S[i]? with
  | none => rfl
  | some e =>
    have hlt : i < S.length := (List.getElem?_eq_some_iff.mp hi).1
    have hne : ¬ i = n := by omega
    have h1 := List.all_eq_true.mp hr e (List.mem_of_getElem? hi)
    show some (jc_ad ad n q i, jv_e ca (jc_ad ad n q) h i e) = some (ad i, jv_e ca ad h i e)
    rw [jc_e h1]
    simp [jc_ad, hne]
theorem jc_push {ca : Bool → ClassId} {ad : Nat → Nat} {h : jv_H} {n q : Nat} {S : List jv_S} {e : jv_S} {x : va_E} (hn : n = S.length) (hr : jc_nr n S = true) (hx : x = jv_e ca (jc_ad ad n q) h n e) : jv_w ca ad h S ++ [(q, x)] = jv_w ca (jc_ad ad n q) h (S ++ [e]) := by
  rw [hx, ← jc_w (ca := ca) (ad := ad) (h := h) (q := q) hn hr]
  simp only [jv_w, List.mapIdx_append]
  subst hn
  simp [jc_ad]
theorem jc_J {ca : Bool → ClassId} {ad : Nat → Nat} {h : jv_H} {S : List jv_S} {A : Nat → Prop} (hD : va_D A (jv_w ca ad h S)) : jv_J ad S := by
  intro i j hi hj e
  exact hD.1 i j _ _ (jv_w_at (List.getElem?_eq_getElem hi)) (jv_w_at (List.getElem?_eq_getElem hj)) e
def jc_A (ad : Nat → Nat) (S0 : List jv_S) (sz : Nat) : Nat → Prop := fun q => (∃ k, k < S0.length ∧ q = ad k) ∨ sz ≤ q
def jc_R (d mc ms : Nat) : Room := { frames := d, cells := mc, slots := ms, locals := 40 * d }
/-- the addresses of the old cells stay, those of new ones are new -/
def jc_X (ad0 ad : Nat → Nat) (S0 S : List jv_S) (sz : Nat) : Prop := S0.length ≤ S.length ∧ (∀ k, k < S0.length → ad k = ad0 k) ∧ (∀ k, 1000 ≤ k → ad k = ad0 k) ∧ (∀ k, S0.length ≤ k → k < S.length → sz ≤ ad k) ∧ jv_J ad S
theorem jc_X_A {ad0 ad : Nat → Nat} {S0 S : List jv_S} {sz : Nat} (hX : jc_X ad0 ad S0 S sz) {k : Nat} (hk : k < S.length) : jc_A ad0 S0 sz (ad k) := by
  by_cases h : k < S0.length
  · exact Or.inl ⟨k, h, hX.2.1 k h⟩
  · exact Or.inr (hX.2.2.2.1 k (by omega) hk)
theorem jc_D {ca : Bool → ClassId} {ad0 ad : Nat → Nat} {S0 S : List jv_S} {sz : Nat} {h : jv_H} (hX : jc_X ad0 ad S0 S sz) : va_D (jc_A ad0 S0 sz) (jv_w ca ad h S) := (jv_D hX.2.2.2.2 h).weaken fun k q hk _ => by
  obtain ⟨a1, a2⟩ := jv_w_of hk
  rw [a2]
  exact jc_X_A hX a1
theorem jc_X_rf {ad0 : Nat → Nat} {S0 : List jv_S} {sz : Nat} (hJ : jv_J ad0 S0) : jc_X ad0 ad0 S0 S0 sz := ⟨Nat.le_refl _, fun _ _ => rfl, fun _ _ => rfl, fun k h1 h2 => absurd h2 (by omega), hJ⟩
theorem jc_X_push {ca : Bool → ClassId} {ad0 ad : Nat → Nat} {S0 S : List jv_S} {sz n q : Nat} {h : jv_H} {e : jv_S} (hX : jc_X ad0 ad S0 S sz) (hn : n = S.length) (hs : n < 1000) (hD : va_D (jc_A ad0 S0 sz) (jv_w ca (jc_ad ad n q) h (S ++ [e]))) : jc_X ad0 (jc_ad ad n q) S0 (S ++ [e]) sz := by
  have hJ := jc_J hD
  have hlen : (S ++ [e]).length = S.length + 1 := by simp
  obtain ⟨h1, h2, h3, h4, h5⟩ := hX
  refine ⟨by omega, fun k hk => ?_, fun k hk => ?_, fun k hk1 hk2 => ?_, hJ⟩
  · rw [← h2 k hk]; simp [jc_ad]; omega
  · rw [← h3 k hk]; simp [jc_ad]; omega
  · by_cases hk : k = n
    · have hat := hD.2 n _ (jv_w_at (List.getElem?_eq_getElem (by omega)))
      rcases hat with ⟨i, hi, he⟩ | hb
      · have : n = i := hJ n i (by omega) (by omega) (by
          show jc_ad ad n q n = jc_ad ad n q i
          have hin : ¬ i = n := by omega
          have he' : jc_ad ad n q n = ad0 i := he
          rw [he', ← h2 i hi]
          simp [jc_ad, hin])
        omega
      · rw [hk]; exact hb
    · have : jc_ad ad n q k = ad k := by simp [jc_ad, hk]
      rw [this]
      exact h4 k hk1 (by omega)
def jc_Q (ca : Bool → ClassId) (D : va_G) (ad0 : Nat → Nat) (S0 S' : List jv_S) (h' : jv_H) : Array Value → State → Outcome → State → Prop := fun _ st oc t =>
  oc = .returned none ∧ (∃ ad', jc_X ad0 ad' S0 S' st.heap.size ∧ va_P D vwCl (jv_w ca ad' h' S') t.heap) ∧ va_F (jc_A ad0 S0 st.heap.size) st t
def jc_P (ca : Bool → ClassId) (D : va_G) (ad : Nat → Nat) (S : List jv_S) (as : List Value) (h : jv_H) (sz : Nat) : Array Value → State → Prop := fun v U =>
  v = (as.map (jv_rz ad)).toArray ∧ U.heap.size = sz ∧ jv_N ca D ad S U ∧ jv_J ad S ∧ va_P D vwCl (jv_w ca ad h S) U.heap
def jc_V (l : Launch) (own : String) (cc : ByteArray) (nL : Nat) (d mc ms : Nat) (S0 : List jv_S) (S : List jv_S) (nc ns : Nat) (pc : Nat) (lv : List (Nat × Value)) (st : List Value) (h : jv_H) (S' : List jv_S) (h' : jv_H) : Prop :=
  ∀ (p : Program) (e : Env) (s : State) (m : MethodId) (args : Array Value) (below : List Frame) (meth : Method) (c : Code) (ca : Bool → ClassId) (D : va_G) (ad0 ad : Nat → Nat) (H : Heap) (locs : List Loc) (ls : Array Slot),
    jv_C own cc nL none p s m args meth c → meth.name = "<init>" → jv_N ca D ad0 S0 s → jc_X ad0 ad S0 S s.heap.size → va_P D vwCl (jv_w ca ad h S) H → va_S (jc_A ad0 S0 s.heap.size) s.heap H locs → lv_has ls nL (jv_lv ad lv) →
    W p l e (jc_R d mc ms) s m args below meth c H locs nc ns (MQ below (jc_Q ca D ad0 S0 S' h') args s mc ms (jc_A ad0 S0 s.heap.size)) (F0 m pc ls (st.map (jv_rz ad)))
def jc_E (l : Launch) (y : MethodName) (cc : ByteArray) (nL : Nat) (d mc ms : Nat) (S0 : List jv_S) (as : List Value) (h : jv_H) (S' : List jv_S) (h' : jv_H) : Prop :=
  ∀ (ca : Bool → ClassId) (D : va_G) (ad : Nat → Nat) (sz : Nat), Met l y (Cond.code y cc nL none :: jv_T) (jc_R d mc ms) (jc_P ca D ad S0 as h sz) (jc_Q ca D ad S0 S' h') mc ms (jc_A ad S0 sz)
theorem jc_of {l : Launch} {own : String} {y : MethodName} {cc : ByteArray} {nL d mc ms : Nat} {S0 S' : List jv_S} {h h' : jv_H} {as : List Value} (lv : List (Nat × Value)) (hw : y.cls = own) (hi : y.name = "<init>") (hy : plainName own = true) (hn : ∀ ad : Nat → Nat, (lg_sl (as.map (jv_rz ad))).length ≤ nL) (hl : ∀ ad : Nat → Nat, lv_args 0 (as.map (jv_rz ad)) = jv_lv ad lv)
    (k : jc_V l own cc nL d mc ms S0 S0 0 0 0 lv [] h S' h') : jc_E l y cc nL d mc ms S0 as h S' h' := by
  subst hw
  intro ca D ad sz
  refine Met.ofW (cc := cc) (maxL := nL) (ret := none) hy rfl ?_
  intro p e s m args below meth c s₁ B hml hv
  obtain ⟨rfl, rfl, hN, hJ, hP⟩ := hv
  have hts := atoms_spec (ws := Cond.code y cc nL none :: jv_T) B.pre
  have hl0 := lv_entry (as.map (jv_rz ad)) (n := nL) (hn ad)
  rw [hl ad] at hl0
  rw [lg_entry_eq]
  generalize (lg_sl (as.map (jv_rz ad)) ++ List.replicate (nL - (lg_sl (as.map (jv_rz ad))).length) Slot.unset).toArray = ls at hl0 ⊢
  exact k p e s m _ below meth c ca D ad ad s.heap [] ls ⟨B.exec, B.bytes, B.returns, hml, findClass_of_methodNamed B.named, fun w hw => hts w (List.mem_cons_of_mem _ hw), B.notSynchronized⟩ ((name_of_methodNamed B.named B.method).1.trans hi) hN (jc_X_rf hJ) hP va_S.rf hl0
section JC
variable {l : Launch} {own : String} {cc : ByteArray} {nL d mc ms nc ns : Nat} {S0 S S' : List jv_S} {pc : Nat} {lv : List (Nat × Value)} {st : List Value} {h h' : jv_H}
theorem c_const {n : Int} {v : Int32} (pc' : Nat) (hp : pc' = pc + 1) (hd : decode cc pc = .ok (.iconst n, 1)) (hv : Int32.ofInt n = v) (k : jc_V l own cc nL d mc ms S0 S nc ns pc' lv (.int v :: st) h S' h') : jc_V l own cc nL d mc ms S0 S nc ns pc lv st h S' h' := by
  subst hp
  exact fun p e s m args below meth c ca D ad0 ad H locs ls C I N X P Sx L => lv_iconst C.1 C.2.1 hd hv (k p e s m args below meth c ca D ad0 ad H locs ls C I N X P Sx L)
theorem c_bipush {n : Int} {v : Int32} (pc' : Nat) (hp : pc' = pc + 2) (hd : decode cc pc = .ok (.bipush n, 2)) (hv : (Int8.ofInt n).toInt32 = v) (k : jc_V l own cc nL d mc ms S0 S nc ns pc' lv (.int v :: st) h S' h') : jc_V l own cc nL d mc ms S0 S nc ns pc lv st h S' h' := by
  subst hp
  exact fun p e s m args below meth c ca D ad0 ad H locs ls C I N X P Sx L => lv_bipush C.1 C.2.1 hd hv (k p e s m args below meth c ca D ad0 ad H locs ls C I N X P Sx L)
theorem c_sipush {n : Int} {v : Int32} (pc' : Nat) (hp : pc' = pc + 3) (hd : decode cc pc = .ok (.sipush n, 3)) (hv : (Int16.ofInt n).toInt32 = v) (k : jc_V l own cc nL d mc ms S0 S nc ns pc' lv (.int v :: st) h S' h') : jc_V l own cc nL d mc ms S0 S nc ns pc lv st h S' h' := by
  subst hp
  exact fun p e s m args below meth c ca D ad0 ad H locs ls C I N X P Sx L => lv_sipush C.1 C.2.1 hd hv (k p e s m args below meth c ca D ad0 ad H locs ls C I N X P Sx L)
theorem c_aload_n {i : Fin 4} {j : Nat} {x : Nat} (q : Nat) (pc' : Nat) (hp : pc' = pc + 1) (hd : decode cc pc = .ok (.aload_n i, 1)) (hi : (i : Nat) = j) (hl : lv[q]? = some (j, .ref x)) (k : jc_V l own cc nL d mc ms S0 S nc ns pc' lv (.ref x :: st) h S' h') : jc_V l own cc nL d mc ms S0 S nc ns pc lv st h S' h' := by
  subst hp
  exact fun p e s m args below meth c ca D ad0 ad H locs ls C I N X P Sx L => lv_aload_n C.1 C.2.1 hd hi (jv_lv_at L hl) (k p e s m args below meth c ca D ad0 ad H locs ls C I N X P Sx L)
theorem c_dup {x : Nat} (pc' : Nat) (hp : pc' = pc + 1) (hd : decode cc pc = .ok (.dup, 1)) (k : jc_V l own cc nL d mc ms S0 S nc ns pc' lv (.ref x :: .ref x :: st) h S' h') : jc_V l own cc nL d mc ms S0 S nc ns pc lv (.ref x :: st) h S' h' := by
  subst hp
  exact fun p e s m args below meth c ca D ad0 ad H locs ls C I N X P Sx L => lv_dup C.1 C.2.1 hd rfl (k p e s m args below meth c ca D ad0 ad H locs ls C I N X P Sx L)
theorem c_obj {ix a : Nat} (pc' : Nat) (hp : pc' = pc + 3) (hd1 : 1 ≤ d) (hst : (st.map fun v => v.category).sum ≤ 8) (h1 : Cond.methodLink own ix objectInit ∈ jv_T) (h2 : Cond.instanceMethod objectInit ∈ jv_T) (h3 : Cond.code objectInit ⟨#[0xb1]⟩ 1 none ∈ jv_T) (hd : decode cc pc = .ok (.invokespecial ix, 3)) (k : jc_V l own cc nL d mc ms S0 S nc ns pc' lv st h S' h') : jc_V l own cc nL d mc ms S0 S nc ns pc lv (.ref a :: st) h S' h' := by
  subst hp
  intro p e s m args below meth c ca D ad0 ad H locs ls C I N X P Sx L
  have hk := k p e s m args below meth c ca D ad0 ad H locs ls C I N X P Sx L
  have hm : 2 * (F0 m pc ls ((.ref a :: st).map (jv_rz ad))).monitorRoom + ((st.map (jv_rz ad)).map fun v => v.category).sum ≤ 8 := lv_room (by rw [jv_cats]; exact hst)
  exact W.objInit C.1 C.2.1 C.2.2.2.2.1 (jv_Tx C h1) (jv_Tx C h2) (jv_Tx C h3) rfl (L.1.trans C.2.2.2.1.symm) rfl hd hd1 (by show _ ≤ 40 * d; omega) hk
theorem c_getr {ix ci j a r : Nat} {fin : Bool} {ty : FieldType} {fs : List Value} (pc' : Nat) (hp : pc' = pc + 3) (hf : jv_fl own ix ci j fin ty) (hS : S[a]? = some (.inr (ci, fs))) (hj : fs[j]? = some (.ref r)) (hd : decode cc pc = .ok (.getfield ix, 3)) (k : jc_V l own cc nL d mc ms S0 S nc ns pc' lv (.ref r :: st) h S' h') : jc_V l own cc nL d mc ms S0 S nc ns pc lv (.ref a :: st) h S' h' := by
  subst hp
  intro p e s m args below meth c ca D ad0 ad H locs ls C I N X P Sx L
  obtain ⟨Cn, T, n, ty0, h1, h2, h3, h4, h5, h6, h7, h8⟩ := hf
  have hat : (jv_w ca ad h S)[a]? = some (ad a, .inr (ci, fs.mapIdx (jv_f ad h a))) := jv_w_at hS
  exact va_get (D := D) (ci := ci) (v := .ref (ad r)) C.1 C.2.1 (fun w hw => jv_Tx C hw) h3 C.2.2.2.2.1 N.1 P a hat h1 j h2 (jv_Tx C h4) (fun _ h9 => h9) (by rw [jv_f_at hj]; rfl) hd (k p e s m args below meth c ca D ad0 ad H locs ls C I N X P Sx L)
/-- a final field that is set by its own constructor -/
def jc_fl (own : String) (ix ci j : Nat) (ty : FieldType) : Prop := ∃ (C : String) (T : u_T) (N : Nat) (ty0 : Nat → FieldType), vwCl[ci]? = some (C, T, N) ∧ j < N ∧ (∀ w ∈ u_ws C T N, w ∈ jv_T) ∧ Cond.fieldLink own ix (T j).1 (T j).2.1 (T j).2.2.1 ∈ jv_T ∧ (T j).2.2.2 = true ∧ (T j).1 = own ∧ parseFieldDescriptor (T j).2.2.1 = some ty ∧ (∀ k, k < N → parseFieldDescriptor (T k).2.2.1 = some (ty0 k)) ∧ (∀ a, a < N → ∀ b, b < N → a ≠ b → (T a).2.1 ≠ (T b).2.1)
theorem jc_w_r {ca : Bool → ClassId} {ad : Nat → Nat} {h : jv_H} {S : List jv_S} {k j ci r : Nat} {fs : List Value} (hk : S[k]? = some (.inr (ci, fs))) : (jv_w ca ad h S).set k (ad k, .inr (ci, (fs.mapIdx (jv_f ad h k)).set j (.ref (ad r)))) = jv_w ca ad h (S.set k (.inr (ci, fs.set j (.ref r)))) := by
  have hlt : k < S.length := (List.getElem?_eq_some_iff.mp hk).1
  have hfs : (fs.mapIdx (jv_f ad h k)).set j (.ref (ad r)) = (fs.set j (.ref r)).mapIdx (jv_f ad h k) := by
    apply List.ext_getElem?
    intro i
    rw [List.getElem?_set, List.getElem?_mapIdx, List.getElem?_mapIdx, List.getElem?_set]
    by_cases hi : j = i
    · subst hi
      by_cases hl : j < fs.length
      · simp [hl, jv_f]
      · simp [hl]
    · simp [hi]
  apply List.ext_getElem?
  intro i
  rw [List.getElem?_set]
  simp only [jv_w, List.getElem?_mapIdx, List.getElem?_set, List.length_mapIdx]
  by_cases hi : k = i
  · subst hi
    simp [hlt, jv_e, hfs]
  · simp [hi]
theorem c_putr {ix ci j a r : Nat} {ty : FieldType} {fs : List Value} (S2 : List jv_S) (pc' : Nat) (hp : pc' = pc + 3) (hf : jc_fl own ix ci j ty) (hty : ∀ a : Nat, narrow ty (.ref a) = .ref a ∧ fits ty (.ref a) = true) (hS : S[a]? = some (.inr (ci, fs))) (hjl : j < fs.length) (hS2 : S.set a (.inr (ci, fs.set j (.ref r))) = S2) (hd : decode cc pc = .ok (.putfield ix, 3)) (k : jc_V l own cc nL d mc ms S0 S2 nc ns pc' lv st h S' h') : jc_V l own cc nL d mc ms S0 S nc ns pc lv (.ref r :: .ref a :: st) h S' h' := by
  subst hp; subst hS2
  intro p e s m args below meth c ca D ad0 ad H locs ls C I N X P Sx L
  obtain ⟨Cn, T, n, ty0, h1, h2, h3, h4, h5, h5b, h6, h7, h8⟩ := hf
  have hat : (jv_w ca ad h S)[a]? = some (ad a, .inr (ci, fs.mapIdx (jv_f ad h a))) := jv_w_at hS
  refine va_putF (D := D) (ci := ci) (v := .ref (ad r)) (ty := ty) C.1 C.2.1 (fun w hw => jv_Tx C hw) h3 ty0 h7 h8 C.2.2.2.2.1 N.1 P (jc_D X) Sx a hat h1 j h2 (jv_Tx C h4) (fun _ h9 => h9) h5 I h5b h6 (hty _).1 (hty _).2 (by simpa using hjl) hd (fun H1 locs1 P1 _ S1 => ?_)
  rw [jc_w_r hS] at P1
  have hlen : (S.set a (.inr (ci, fs.set j (.ref r)))).length = S.length := List.length_set
  refine k p e s m args below meth c ca D ad0 ad H1 locs1 ls C I N ⟨by rw [hlen]; exact X.1, X.2.1, X.2.2.1, fun q q1 q2 => X.2.2.2.1 q q1 (by rw [hlen] at q2; exact q2), fun i j hi hj => X.2.2.2.2 i j (by rw [hlen] at hi; exact hi) (by rw [hlen] at hj; exact hj)⟩ P1 S1 L
theorem c_new {ix ci n : Nat} {Cn : String} {T : u_T} {N : Nat} {ty : Nat → FieldType} {fs : List Value} (S2 : List jv_S) (pc' : Nat) (hp : pc' = pc + 3) (hn : n = S.length) (hs : n < 1000) (hc : vwCl[ci]? = some (Cn, T, N)) (hin : ∀ w ∈ u_ws Cn T N, w ∈ jv_T) (hty : ∀ k, k < N → parseFieldDescriptor (T k).2.2.1 = some (ty k)) (h1 : Cond.classLink own ix Cn ∈ jv_T) (h2 : Cond.instantiable Cn N ∈ jv_T) (h3 : Cond.initialized Cn ∈ jv_T) (hfs : ∀ j, j < N → defaultValue (ty j) = vp_V fs j) (hz : ∀ j, h.1 n j = 0 ∧ h.2 n j = 0) (hf0 : fs.all (fun v => match v with | .int x => x == 0 | .long x => x == 0 | .null => true | _ => false) = true) (hr : jc_nr n S = true) (hst : st.all (jc_nv n) = true) (hlv : lv.all (fun z => jc_nv n z.2) = true) (hcl : nc + 1 ≤ mc) (hsl : ns + N ≤ ms) (hS2 : S ++ [.inr (ci, fs)] = S2) (hd : decode cc pc = .ok (.new ix, 3)) (k : jc_V l own cc nL d mc ms S0 S2 (nc + 1) (ns + N) pc' lv (.ref n :: st) h S' h') : jc_V l own cc nL d mc ms S0 S nc ns pc lv st h S' h' := by
  subst hp; subst hS2
  intro p e s m args below meth c ca D ad0 ad H locs ls C I N' X P Sx L
  refine va_new (ci := ci) (fs := fs) C.1 C.2.1 (fun w hw => jv_Tx C hw) hin ty hty C.2.2.2.2.1 (jv_Tx C h1) (jv_Tx C h2) (jv_Tx C h3) N'.1 P (jc_D X) Sx (fun q hq => Or.inr hq) hc hfs hcl hsl hd (fun q H1 P1 D1 S1 => ?_)
  have hx : (Sum.inr (ci, fs) : va_E) = jv_e ca (jc_ad ad n q) h n (.inr (ci, fs)) := by
    simp only [jv_e]
    congr 2
    apply List.ext_getElem?
    intro i
    rw [List.getElem?_mapIdx]
    cases hv : fs[i]? with
    | none => rfl
    | some v =>
      have hb := List.all_eq_true.mp hf0 v (List.mem_of_getElem? hv)
      cases v with
      | int x => simp at hb; simp [jv_f, hz, hb]
      | long x => simp at hb; simp [jv_f, hz, hb]
      | null => rfl
      | ref r => simp at hb
      | _ => simp at hb
  rw [jc_push hn hr hx] at P1 D1
  have hk := k p e s m args below meth c ca D ad0 (jc_ad ad n q) H1 locs ls C I N' (jc_X_push X hn hs D1) P1 S1 (by rw [jc_lvs hlv]; exact L)
  rw [List.map_cons, jc_rzs hst] at hk
  have hq : jv_rz (jc_ad ad n q) (.ref n) = .ref q := by simp [jv_rz, jc_ad]
  rw [hq] at hk
  exact hk
theorem c_newa {n N : Nat} {v : Int32} {z : Bool} (at_ : ArrayType) (hat : newarray.typeOf at_ = if z then .boolean else .int) (S2 : List jv_S) (pc' : Nat) (hp : pc' = pc + 2) (hn : n = S.length) (hs : n < 1000) (harr : Cond.arrayClass (newarray.typeOf at_) ∈ jv_T) (hv : ¬ v < 0 ∧ v.toNatClampNeg = N ∧ N ≤ 1000) (hz : ∀ j, h.1 n j = 0) (hr : jc_nr n S = true) (hst : st.all (jc_nv n) = true) (hlv : lv.all (fun z => jc_nv n z.2) = true) (hcl : nc + 1 ≤ mc) (hsl : ns + N ≤ ms) (hS2 : S ++ [.inl (z, N)] = S2) (hd : decode cc pc = .ok (.newarray at_, 2)) (k : jc_V l own cc nL d mc ms S0 S2 (nc + 1) (ns + N) pc' lv (.ref n :: st) h S' h') : jc_V l own cc nL d mc ms S0 S nc ns pc lv (.int v :: st) h S' h' := by
  subst hp; subst hS2
  intro p e s m args below meth c ca D ad0 ad H locs ls C I N' X P Sx L
  have key : ∀ (q : Nat) (cA : ClassId) (H1 : Heap), cA = ca z → va_P D vwCl (jv_w ca ad h S ++ [(q, .inl (cA, (N, .inl (fun _ => 0))))]) H1 → va_D (jc_A ad0 S0 s.heap.size) (jv_w ca ad h S ++ [(q, .inl (cA, (N, .inl (fun _ => 0))))]) → va_S (jc_A ad0 S0 s.heap.size) s.heap H1 locs → W p l e (jc_R d mc ms) s m args below meth c H1 locs (nc + 1) (ns + N) (MQ below (jc_Q ca D ad0 S0 S' h') args s mc ms (jc_A ad0 S0 s.heap.size)) (F0 m (pc + 2) ls (.ref q :: st.map (jv_rz ad))) := by
    intro q cA H1 hca P1 D1 S1
    subst hca
    have hx : (Sum.inl (ca z, (N, .inl (fun _ => 0))) : va_E) = jv_e ca (jc_ad ad n q) h n (.inl (z, N)) := by
      simp only [jv_e]
      have : h.1 n = fun _ => 0 := funext hz
      rw [this]
    rw [jc_push hn hr hx] at P1 D1
    have hk := k p e s m args below meth c ca D ad0 (jc_ad ad n q) H1 locs ls C I N' (jc_X_push X hn hs D1) P1 S1 (by rw [jc_lvs hlv]; exact L)
    rw [List.map_cons, jc_rzs hst] at hk
    have hq : jv_rz (jc_ad ad n q) (.ref n) = .ref q := by simp [jv_rz, jc_ad]
    rw [hq] at hk
    exact hk
  have hb : N * 8 ≤ 536870912 := by have := hv.2.2; omega
  cases z with
  | false =>
    have hat' : newarray.typeOf at_ = .int := hat
    refine va_newa (ty := .int) (a0 := (N, .inl (fun _ => 0))) C.1 C.2.1 (jv_Tx C harr) hat' N'.1 P (jc_D X) Sx (fun q hq => Or.inr hq) (fun cA => rfl) hv.1 hv.2.1 (Nat.le_trans (Nat.mul_le_mul_left N (by decide)) hb) hcl hsl hd (fun q cA H1 K1 P1 D1 S1 => key q cA H1 ?_ P1 D1 S1)
    have h1 := (K1.2 2 (cA, .int) rfl).2
    have h2 := (N'.1.2 0 (ca false, .int) rfl).2
    exact Option.some.inj (h1.symm.trans h2)
  | true =>
    have hat' : newarray.typeOf at_ = .boolean := hat
    refine va_newa (ty := .boolean) (a0 := (N, .inl (fun _ => 0))) C.1 C.2.1 (jv_Tx C harr) hat' N'.1 P (jc_D X) Sx (fun q hq => Or.inr hq) (fun cA => rfl) hv.1 hv.2.1 (Nat.le_trans (Nat.mul_le_mul_left N (by decide)) hb) hcl hsl hd (fun q cA H1 K1 P1 D1 S1 => key q cA H1 ?_ P1 D1 S1)
    have h1 := (K1.2 2 (cA, .boolean) rfl).2
    have h2 := (N'.1.2 1 (ca true, .boolean) rfl).2
    exact Option.some.inj (h1.symm.trans h2)
theorem c_iast {a n : Nat} {i x : Int32} (pc' : Nat) (hp : pc' = pc + 1) (hS : S[a]? = some (.inl (false, n))) (hi : jv_ix i n) (hd : decode cc pc = .ok (.iastore, 1)) (k : jc_V l own cc nL d mc ms S0 S nc ns pc' lv st (jv_p h a i.toNatClampNeg x) S' h') : jc_V l own cc nL d mc ms S0 S nc ns pc lv (.int x :: .int i :: .ref a :: st) h S' h' := by
  subst hp
  intro p e s m args below meth c ca D ad0 ad H locs ls C I N X P Sx L
  refine va_iast C.1 C.2.1 N.1 P (jc_D X) Sx a 0 (jv_w_at hS) rfl (vp_in_iff.mpr hi) hd (fun H1 locs1 P1 _ S1 => ?_)
  rw [jv_w_arr hS] at P1
  exact k p e s m args below meth c ca D ad0 ad H1 locs1 ls C I N X P1 S1 L
theorem c_ret (hm : nc = mc) (hn : ns = ms) (hS : S = S') (hh : h = h') (hd : decode cc pc = .ok (.return_, 1)) : jc_V l own cc nL d mc ms S0 S nc ns pc lv [] h S' h' := by
  subst hm; subst hn; subst hS; subst hh
  intro p e s m args below meth c ca D ad0 ad H locs ls C I N X P Sx L
  exact W.vret C.1 C.2.1 C.2.2.1 (fun t ht _ => ⟨rfl, ⟨ad, X, by rw [ht]; exact P⟩, Sx.F ht⟩) Sx.2.2 hd (hlocks := C.2.2.2.2.2.2)
end JC
