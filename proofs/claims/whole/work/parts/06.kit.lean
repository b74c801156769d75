/-! THE QUIET MACHINE: after the constructors no call makes a cell, and no reference field changes. So a state is a fixed SHAPE (a list of cells: rows of ints or booleans of a length, objects of a class with their references) and numbers: h.1 k j: the int in place j of cell k; h.2 k j: the long. References are places in the shape; 'ad' gives their addresses. jv_V: from this frame the method ends as the function o says. -/
abbrev jv_H : Type := (Nat → Nat → Int32) × (Nat → Nat → Int64)
abbrev jv_S : Type := (Bool × Nat) ⊕ (Nat × List Value)
def jv_rz (ad : Nat → Nat) (v : Value) : Value := match v with
  | .ref r => .ref (ad r)
  | w => w
theorem jv_rz_cat (ad : Nat → Nat) (v : Value) : (jv_rz ad v).category = v.category := by cases v <;> rfl
theorem jv_cats (ad : Nat → Nat) (st : List Value) : ((st.map (jv_rz ad)).map fun v => v.category) = st.map fun v => v.category := by
  rw [List.map_map]
  exact List.map_congr_left fun v _ => jv_rz_cat ad v
def jv_f (ad : Nat → Nat) (h : jv_H) (k j : Nat) (v : Value) : Value := match v with
  | .int _ => .int (h.1 k j)
  | .long _ => .long (h.2 k j)
  | .ref r => .ref (ad r)
  | w => w
def jv_e (ca : Bool → ClassId) (ad : Nat → Nat) (h : jv_H) (k : Nat) (e : jv_S) : va_E := match e with
  | .inl a => .inl (ca a.1, a.2, .inl (h.1 k))
  | .inr o => .inr (o.1, o.2.mapIdx (jv_f ad h k))
def jv_w (ca : Bool → ClassId) (ad : Nat → Nat) (h : jv_H) (S : List jv_S) : va_W := S.mapIdx (fun k e => (ad k, jv_e ca ad h k e))
theorem jv_w_at {ca : Bool → ClassId} {ad : Nat → Nat} {h : jv_H} {S : List jv_S} {k : Nat} {e : jv_S} (hk : S[k]? = some e) : (jv_w ca ad h S)[k]? = some (ad k, jv_e ca ad h k e) := by
  simp [jv_w, hk]
theorem jv_w_of {ca : Bool → ClassId} {ad : Nat → Nat} {h : jv_H} {S : List jv_S} {k : Nat} {q : Nat × va_E} (hk : (jv_w ca ad h S)[k]? = some q) : k < S.length ∧ q.1 = ad k := by
  simp only [jv_w, List.getElem?_mapIdx] at hk
  cases hs : S[k]? with
  | none => rw [hs] at hk; cases hk
  | some e =>
    rw [hs] at hk
    cases hk
    exact ⟨(List.getElem?_eq_some_iff.mp hs).1, rfl⟩
/-- cell k holds these ints now -/
def jv_s (h : jv_H) (k : Nat) (f : Nat → Int32) : jv_H := (fun a => if a = k then f else h.1 a, h.2)
/-- place j of cell k holds this long now -/
def jv_l (h : jv_H) (k j : Nat) (v : Int64) : jv_H := (h.1, fun a b => if a = k ∧ b = j then v else h.2 a b)
theorem jv_s_same (h : jv_H) (k : Nat) (f : Nat → Int32) : (jv_s h k f).1 k = f := if_pos rfl
theorem jv_s_ne (h : jv_H) {k i : Nat} (f : Nat → Int32) (hi : ¬ i = k) : (jv_s h k f).1 i = h.1 i := if_neg hi
theorem jv_e_s (ca : Bool → ClassId) (ad : Nat → Nat) (h : jv_H) {k i : Nat} (f : Nat → Int32) (e : jv_S) (hi : ¬ i = k) : jv_e ca ad (jv_s h k f) i e = jv_e ca ad h i e := by
  cases e with
  | inl a => simp only [jv_e, jv_s_ne h f hi]
  | inr o =>
    have : jv_f ad (jv_s h k f) i = jv_f ad h i := by
      funext j v
      cases v <;> simp only [jv_f, jv_s, if_neg hi]
    simp only [jv_e, this]
theorem jv_e_l (ca : Bool → ClassId) (ad : Nat → Nat) (h : jv_H) {k i j : Nat} (v : Int64) (e : jv_S) (hi : ¬ i = k) : jv_e ca ad (jv_l h k j v) i e = jv_e ca ad h i e := by
  cases e with
  | inl a => simp only [jv_e, jv_l]
  | inr o =>
    have : jv_f ad (jv_l h k j v) i = jv_f ad h i := by
      funext a w
      cases w <;> simp [jv_f, jv_l, hi]
    simp only [jv_e, this]
theorem jv_w_set {ca : Bool → ClassId} {ad : Nat → Nat} {h h' : jv_H} {S : List jv_S} {k : Nat} {e : jv_S} (hk : S[k]? = some e) {x : va_E} (hx : x = jv_e ca ad h' k e) (ho : ∀ i e, ¬ i = k → jv_e ca ad h' i e = jv_e ca ad h i e) : (jv_w ca ad h S).set k (ad k, x) = jv_w ca ad h' S := by
  have hlt : k < S.length := (List.getElem?_eq_some_iff.mp hk).1
  apply List.ext_getElem?
  intro i
  rw [List.getElem?_set]
  by_cases hi : k = i
  · subst hi
    have hlt' : k < (jv_w ca ad h S).length := by simpa [jv_w] using hlt
    rw [if_pos rfl, if_pos hlt', jv_w_at (h := h') hk, hx]
  · rw [if_neg hi]
    simp only [jv_w, List.getElem?_mapIdx]
    cases S[i]? with
    | none => rfl
    | some e' =>
      show some (ad i, jv_e ca ad h i e') = some (ad i, jv_e ca ad h' i e')
      rw [ho i e' (fun q => hi q.symm)]
theorem jv_w_arr {ca : Bool → ClassId} {ad : Nat → Nat} {h : jv_H} {S : List jv_S} {k : Nat} {z : Bool} {n : Nat} (hk : S[k]? = some (.inl (z, n))) (f : Nat → Int32) : (jv_w ca ad h S).set k (ad k, .inl (ca z, n, .inl f)) = jv_w ca ad (jv_s h k f) S :=
  jv_w_set hk (by simp only [jv_e, jv_s_same]) (fun _ e hi => jv_e_s ca ad h f e hi)
theorem jv_fs_i {ad : Nat → Nat} {h : jv_H} {k j : Nat} {fs : List Value} {z : Int32} (hj : fs[j]? = some (.int z)) (v : Int32) : (fs.mapIdx (jv_f ad h k)).set j (.int v) = fs.mapIdx (jv_f ad (jv_s h k (upd (h.1 k) j v)) k) := by
  have hlt : j < fs.length := (List.getElem?_eq_some_iff.mp hj).1
  apply List.ext_getElem?
  intro i
  rw [List.getElem?_set]
  by_cases hi : j = i
  · subst hi
    rw [if_pos rfl, if_pos (by simpa using hlt), List.getElem?_mapIdx, hj]
    simp [jv_f, jv_s, upd]
  · rw [if_neg hi, List.getElem?_mapIdx, List.getElem?_mapIdx]
    cases fs[i]? with
    | none => rfl
    | some w =>
      have hi' : ¬ i = j := fun q => hi q.symm
      cases w <;> simp [jv_f, jv_s, upd, hi']
theorem jv_fs_l {ad : Nat → Nat} {h : jv_H} {k j : Nat} {fs : List Value} {z : Int64} (hj : fs[j]? = some (.long z)) (v : Int64) : (fs.mapIdx (jv_f ad h k)).set j (.long v) = fs.mapIdx (jv_f ad (jv_l h k j v) k) := by
  have hlt : j < fs.length := (List.getElem?_eq_some_iff.mp hj).1
  apply List.ext_getElem?
  intro i
  rw [List.getElem?_set]
  by_cases hi : j = i
  · subst hi
    rw [if_pos rfl, if_pos (by simpa using hlt), List.getElem?_mapIdx, hj]
    simp [jv_f, jv_l]
  · rw [if_neg hi, List.getElem?_mapIdx, List.getElem?_mapIdx]
    cases fs[i]? with
    | none => rfl
    | some w =>
      have hi' : ¬ i = j := fun q => hi q.symm
      cases w <;> simp [jv_f, jv_l, hi']
theorem jv_w_i {ca : Bool → ClassId} {ad : Nat → Nat} {h : jv_H} {S : List jv_S} {k j ci : Nat} {fs : List Value} {z : Int32} (hk : S[k]? = some (.inr (ci, fs))) (hj : fs[j]? = some (.int z)) (v : Int32) : (jv_w ca ad h S).set k (ad k, .inr (ci, (fs.mapIdx (jv_f ad h k)).set j (.int v))) = jv_w ca ad (jv_s h k (upd (h.1 k) j v)) S :=
  jv_w_set hk (by rw [jv_fs_i hj]; rfl) (fun _ e hi => jv_e_s ca ad h _ e hi)
theorem jv_w_l {ca : Bool → ClassId} {ad : Nat → Nat} {h : jv_H} {S : List jv_S} {k j ci : Nat} {fs : List Value} {z : Int64} (hk : S[k]? = some (.inr (ci, fs))) (hj : fs[j]? = some (.long z)) (v : Int64) : (jv_w ca ad h S).set k (ad k, .inr (ci, (fs.mapIdx (jv_f ad h k)).set j (.long v))) = jv_w ca ad (jv_l h k j v) S :=
  jv_w_set hk (by rw [jv_fs_l hj]; rfl) (fun _ e hi => jv_e_l ca ad h _ e hi)
theorem jv_f_at {ad : Nat → Nat} {h : jv_H} {k j : Nat} {fs : List Value} {w : Value} (hj : fs[j]? = some w) : (fs.mapIdx (jv_f ad h k))[j]? = some (jv_f ad h k j w) := by
  rw [List.getElem?_mapIdx, hj]
  rfl
/-- the cells of the shape -/
def jv_A (ad : Nat → Nat) (S : List jv_S) : Nat → Prop := fun q => ∃ k, k < S.length ∧ q = ad k
def jv_J (ad : Nat → Nat) (S : List jv_S) : Prop := ∀ i j, i < S.length → j < S.length → ad i = ad j → i = j
theorem jv_D {ca : Bool → ClassId} {ad : Nat → Nat} {S : List jv_S} (hJ : jv_J ad S) (h : jv_H) : va_D (jv_A ad S) (jv_w ca ad h S) := by
  refine ⟨fun i j p q hi hj e => ?_, fun k q hk => ?_⟩
  · obtain ⟨a1, a2⟩ := jv_w_of hi
    obtain ⟨b1, b2⟩ := jv_w_of hj
    exact hJ i j a1 b1 (by rw [← a2, ← b2, e])
  · obtain ⟨a1, a2⟩ := jv_w_of hk
    exact ⟨k, a1, a2⟩
def jv_ty (ca : Bool → ClassId) : List (ClassId × FieldType) := [(ca false, .int), (ca true, .boolean)]
/-- the four static rows of TextReader: their names, what they hold; they are the references 1000 .. 1003 -/
def jv_sn (i : Nat) : String := match i with
  | 0 => "TEMPER_LEAST"
  | 1 => "TEMPER_MOST"
  | 2 => "NURSE_LEAST"
  | _ => "NURSE_MOST"
def jv_sc (i j : Nat) : Int32 := match i, j with
  | 0, 0 => 1
  | 0, _ => 0
  | 1, 0 => 60
  | 1, 1 => 5
  | 1, _ => 40
  | 2, _ => 1
  | _, 0 => 9
  | _, 1 => 3
  | _, _ => 99
/-- what stays: classes, links between nest mates, static rows -/
def jv_N (ca : Bool → ClassId) (D : va_G) (ad : Nat → Nat) (S : List jv_S) (U : State) : Prop :=
  va_K D vwCl (jv_ty ca) U ∧ (∀ w ∈ jv_ns, va_Nw w U) ∧ ∀ i, i < 4 → va_Z RX7 (jv_sn i) "[I" (.ref (ad (1000 + i))) (jv_A ad S) U U.heap ∧ va_T .int (ad (1000 + i)) 3 (fun j => .int (jv_sc i j)) (jv_A ad S) U U.heap
theorem jv_N_moved {ca : Bool → ClassId} {D : va_G} {ad : Nat → Nat} {S : List jv_S} {s U : State} (h : jv_N ca D ad S s) (hW : s.WarmedH U.vm) (hq : ∀ a : Nat, a < s.heap.size → ¬ jv_A ad S a → U.heap[a]? = s.heap[a]?) : jv_N ca D ad S U := by
  refine ⟨va_K.moved hW.alike h.1, fun w hw => ?_, fun i hi => ⟨((h.2.2 i hi).1.kept hq).moved hW.alike, ((h.2.2 i hi).2.kept hq).moved hW.alike⟩⟩
  obtain ⟨a, i, x, hst, rfl⟩ := jv_ns_ok w hw
  exact va_Nw.warmM hW (h.2.1 _ hw)
theorem jv_N_calling {ca : Bool → ClassId} {D : va_G} {ad : Nat → Nat} {S : List jv_S} {U : State} (g : JFrame) (mk : MethodId) (a : Array Value) (h : jv_N ca D ad S U) : jv_N ca D ad S (U.calling g mk a) := by
  refine ⟨va_K.moved (u := U) (U := U.calling g mk a) (Vm.Alike.refl U.vm) h.1, fun w hw => ?_, fun i hi => ⟨va_Z.moved (u := U) (U := U.calling g mk a) (Vm.Alike.refl U.vm) (h.2.2 i hi).1, va_T.moved (u := U) (U := U.calling g mk a) (Vm.Alike.refl U.vm) (h.2.2 i hi).2⟩⟩
  obtain ⟨a', i, x, hst, rfl⟩ := jv_ns_ok w hw
  exact va_Nw.same (u := U) (U := U.calling g mk a) rfl rfl (h.2.1 _ hw)
def jv_R (d : Nat) : Room := { frames := d, cells := 0, slots := 0, locals := 40 * d }
def jv_lv (ad : Nat → Nat) (lv : List (Nat × Value)) : List (Nat × Value) := lv.map fun q => (q.1, jv_rz ad q.2)
def jv_C (own : String) (cc : ByteArray) (nL : Nat) (rt : Option FieldType) (p : Program) (s : State) (m : MethodId) (args : Array Value) (meth : Method) (c : Code) : Prop :=
  p.tables.exec = Jvm.exec ∧ c.code = cc ∧ meth.sig.returnType = rt ∧ c.maxLocals = nL ∧ s.vm.findClass own = some m.cls ∧ (∀ w ∈ jv_T, w.before args s = true) ∧ meth.locks = false
def jv_Q (ca : Bool → ClassId) (D : va_G) (ad : Nat → Nat) (S : List jv_S) (r : Option Value) (h : jv_H) : Array Value → State → Outcome → State → Prop := fun _ st oc t =>
  oc = .returned (r.map (jv_rz ad)) ∧ va_P D vwCl (jv_w ca ad h S) t.heap ∧ va_F (jv_A ad S) st t
def jv_P (ca : Bool → ClassId) (D : va_G) (ad : Nat → Nat) (S : List jv_S) (as : List Value) (h : jv_H) : Array Value → State → Prop := fun v U =>
  v = (as.map (jv_rz ad)).toArray ∧ jv_N ca D ad S U ∧ jv_J ad S ∧ va_P D vwCl (jv_w ca ad h S) U.heap
def jv_ri (r : Int32) : Option Value := some (.int r)
def jv_rl (r : Int64) : Option Value := some (.long r)
def jv_rr (r : Nat) : Option Value := some (.ref r)
def jv_rv (_ : Unit) : Option Value := none
/-- from this frame, with these numbers, the method ends as o says, if it says anything -/
def jv_V {ρ : Type} (l : Launch) (own : String) (cc : ByteArray) (nL : Nat) (rt : Option FieldType) (d : Nat) (S : List jv_S) (rv : ρ → Option Value) (pc : Nat) (lv : List (Nat × Value)) (st : List Value) (h : jv_H) (o : Option (ρ × jv_H)) : Prop :=
  ∀ res, o = some res → ∀ (p : Program) (e : Env) (s : State) (m : MethodId) (args : Array Value) (below : List Frame) (meth : Method) (c : Code) (ca : Bool → ClassId) (D : va_G) (ad : Nat → Nat) (H : Heap) (locs : List Loc) (ls : Array Slot),
    jv_C own cc nL rt p s m args meth c → jv_N ca D ad S s → jv_J ad S → va_P D vwCl (jv_w ca ad h S) H → va_S (jv_A ad S) s.heap H locs → lv_has ls nL (jv_lv ad lv) →
    W p l e (jv_R d) s m args below meth c H locs 0 0 (MQ below (jv_Q ca D ad S (rv res.1) res.2) args s 0 0 (jv_A ad S)) (F0 m pc ls (st.map (jv_rz ad)))
/-- the method's contract: as o says -/
def jv_E {ρ : Type} (l : Launch) (y : MethodName) (cc : ByteArray) (nL : Nat) (rt : Option FieldType) (d : Nat) (S : List jv_S) (rv : ρ → Option Value) (as : List Value) (h : jv_H) (o : Option (ρ × jv_H)) : Prop :=
  ∀ res, o = some res → ∀ (ca : Bool → ClassId) (D : va_G) (ad : Nat → Nat), Met l y (Cond.code y cc nL rt :: jv_T) (jv_R d) (jv_P ca D ad S as h) (jv_Q ca D ad S (rv res.1) res.2) 0 0 (jv_A ad S)
theorem jv_E_of {ρ : Type} {l : Launch} {y : MethodName} {cc : ByteArray} {nL : Nat} {rt : Option FieldType} {d : Nat} {S : List jv_S} {rv : ρ → Option Value} {as : List Value} {h : jv_H} {o : Option (ρ × jv_H)} (lv : List (Nat × Value)) (hy : plainName y.cls = true) (hn : ∀ ad : Nat → Nat, (lg_sl (as.map (jv_rz ad))).length ≤ nL) (hl : ∀ ad : Nat → Nat, lv_args 0 (as.map (jv_rz ad)) = jv_lv ad lv)
    (k : jv_V l y.cls cc nL rt d S rv 0 lv [] h o) : jv_E l y cc nL rt d S rv as h o := by
  intro res ho ca D ad
  refine Met.ofW (cc := cc) (maxL := nL) (ret := rt) hy rfl ?_
  intro p e s m args below meth c s₁ B hml hv
  obtain ⟨rfl, hN, hJ, hP⟩ := hv
  have hts := atoms_spec (ws := Cond.code y cc nL rt :: jv_T) B.pre
  have hl0 := lv_entry (as.map (jv_rz ad)) (n := nL) (hn ad)
  rw [hl ad] at hl0
  rw [lg_entry_eq]
  generalize (lg_sl (as.map (jv_rz ad)) ++ List.replicate (nL - (lg_sl (as.map (jv_rz ad))).length) Slot.unset).toArray = ls at hl0 ⊢
  exact k res ho p e s m _ below meth c ca D ad s.heap [] ls ⟨B.exec, B.bytes, B.returns, hml, findClass_of_methodNamed B.named, fun w hw => hts w (List.mem_cons_of_mem _ hw), B.notSynchronized⟩ hN hJ hP va_S.rf hl0
