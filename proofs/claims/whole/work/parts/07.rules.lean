/-! rows of the quiet machine: an instruction, a row -/
section JV
variable {ρ : Type} {l : Launch} {own : String} {cc : ByteArray} {nL : Nat} {rt : Option FieldType} {d : Nat} {S : List jv_S} {rv : ρ → Option Value} {pc : Nat} {lv : List (Nat × Value)} {st : List Value} {h : jv_H} {o o1 o2 : Option (ρ × jv_H)}
theorem jv_lv_at {ad : Nat → Nat} {ls : Array Slot} {k i : Nat} {v : Value} (L : lv_has ls nL (jv_lv ad lv)) (hk : lv[k]? = some (i, v)) : ls[i]? = some (.val (jv_rz ad v)) :=
  lv_at L k (i := i) (v := jv_rz ad v) (by rw [jv_lv, List.getElem?_map, hk]; rfl)
theorem v_none : jv_V l own cc nL rt d S rv pc lv st h none := fun _ ho => by cases ho
theorem v_eq (e : o = o1) (k : jv_V l own cc nL rt d S rv pc lv st h o1) : jv_V l own cc nL rt d S rv pc lv st h o := e ▸ k
/-- fewer locals, in any order -/
theorem v_sub {lv' : List (Nat × Value)} (ks : List Nat) (hl : lv_pick lv ks = lv') (k : jv_V l own cc nL rt d S rv pc lv' st h o) : jv_V l own cc nL rt d S rv pc lv st h o := by
  intro res ho p e s m args below meth c ca D ad H locs ls C N J P Sx L
  refine k res ho p e s m args below meth c ca D ad H locs ls C N J P Sx ⟨L.1, L.2.1, fun q hq => ?_⟩
  rw [← hl] at hq
  obtain ⟨z, hz, rfl⟩ := List.mem_map.mp hq
  obtain ⟨i, -, hi⟩ := List.mem_filterMap.mp hz
  exact L.2.2 _ (List.mem_map.mpr ⟨z, List.mem_of_getElem? hi, rfl⟩)
theorem v_iconst {n : Int} {v : Int32} (pc' : Nat) (hp : pc' = pc + 1) (hd : decode cc pc = .ok (.iconst n, 1)) (hv : Int32.ofInt n = v) (k : jv_V l own cc nL rt d S rv pc' lv (.int v :: st) h o) : jv_V l own cc nL rt d S rv pc lv st h o := by
  subst hp
  exact fun res ho p e s m args below meth c ca D ad H locs ls C N J P Sx L => lv_iconst C.1 C.2.1 hd hv (k res ho p e s m args below meth c ca D ad H locs ls C N J P Sx L)
theorem v_bipush {n : Int} {v : Int32} (pc' : Nat) (hp : pc' = pc + 2) (hd : decode cc pc = .ok (.bipush n, 2)) (hv : (Int8.ofInt n).toInt32 = v) (k : jv_V l own cc nL rt d S rv pc' lv (.int v :: st) h o) : jv_V l own cc nL rt d S rv pc lv st h o := by
  subst hp
  exact fun res ho p e s m args below meth c ca D ad H locs ls C N J P Sx L => lv_bipush C.1 C.2.1 hd hv (k res ho p e s m args below meth c ca D ad H locs ls C N J P Sx L)
theorem v_sipush {n : Int} {v : Int32} (pc' : Nat) (hp : pc' = pc + 3) (hd : decode cc pc = .ok (.sipush n, 3)) (hv : (Int16.ofInt n).toInt32 = v) (k : jv_V l own cc nL rt d S rv pc' lv (.int v :: st) h o) : jv_V l own cc nL rt d S rv pc lv st h o := by
  subst hp
  exact fun res ho p e s m args below meth c ca D ad H locs ls C N J P Sx L => lv_sipush C.1 C.2.1 hd hv (k res ho p e s m args below meth c ca D ad H locs ls C N J P Sx L)
theorem v_lconst {n : Fin 2} {v : Int64} (pc' : Nat) (hp : pc' = pc + 1) (hd : decode cc pc = .ok (.lconst n, 1)) (hv : Int64.ofNat (n : Nat) = v) (k : jv_V l own cc nL rt d S rv pc' lv (.long v :: st) h o) : jv_V l own cc nL rt d S rv pc lv st h o := by
  subst hp
  exact fun res ho p e s m args below meth c ca D ad H locs ls C N J P Sx L => lv_lconst C.1 C.2.1 hd hv (k res ho p e s m args below meth c ca D ad H locs ls C N J P Sx L)
theorem v_ldc {ix : Nat} {v : Int32} (pc' : Nat) (hp : pc' = pc + 2) (hw : Cond.constant own ix v ∈ jv_T) (hd : decode cc pc = .ok (.ldc ix, 2)) (k : jv_V l own cc nL rt d S rv pc' lv (.int v :: st) h o) : jv_V l own cc nL rt d S rv pc lv st h o := by
  subst hp
  exact fun res ho p e s m args below meth c ca D ad H locs ls C N J P Sx L => lv_ldc C.1 C.2.1 C.2.2.2.2.1 (C.2.2.2.2.2.1 _ hw) hd (k res ho p e s m args below meth c ca D ad H locs ls C N J P Sx L)
theorem v_ldcw {ix : Nat} {v : Int32} (pc' : Nat) (hp : pc' = pc + 3) (hw : Cond.constant own ix v ∈ jv_T) (hd : decode cc pc = .ok (.ldc_w ix, 3)) (k : jv_V l own cc nL rt d S rv pc' lv (.int v :: st) h o) : jv_V l own cc nL rt d S rv pc lv st h o := by
  subst hp
  exact fun res ho p e s m args below meth c ca D ad H locs ls C N J P Sx L => lv_ldcw C.1 C.2.1 C.2.2.2.2.1 (C.2.2.2.2.2.1 _ hw) hd (k res ho p e s m args below meth c ca D ad H locs ls C N J P Sx L)
theorem v_ldc2 {ix : Nat} {v : Int64} (pc' : Nat) (hp : pc' = pc + 3) (hw : Cond.constantLong own ix v ∈ jv_T) (hd : decode cc pc = .ok (.ldc2_w ix, 3)) (k : jv_V l own cc nL rt d S rv pc' lv (.long v :: st) h o) : jv_V l own cc nL rt d S rv pc lv st h o := by
  subst hp
  exact fun res ho p e s m args below meth c ca D ad H locs ls C N J P Sx L => lv_ldc2 C.1 C.2.1 C.2.2.2.2.1 (C.2.2.2.2.2.1 _ hw) hd (k res ho p e s m args below meth c ca D ad H locs ls C N J P Sx L)
theorem v_iload_n {i : Fin 4} {j : Nat} {x : Int32} (q : Nat) (pc' : Nat) (hp : pc' = pc + 1) (hd : decode cc pc = .ok (.iload_n i, 1)) (hi : (i : Nat) = j) (hl : lv[q]? = some (j, .int x)) (k : jv_V l own cc nL rt d S rv pc' lv (.int x :: st) h o) : jv_V l own cc nL rt d S rv pc lv st h o := by
  subst hp
  exact fun res ho p e s m args below meth c ca D ad H locs ls C N J P Sx L => lv_iload_n C.1 C.2.1 hd hi (jv_lv_at L hl) (k res ho p e s m args below meth c ca D ad H locs ls C N J P Sx L)
theorem v_iload {j : Nat} {x : Int32} (q : Nat) (pc' : Nat) (hp : pc' = pc + 2) (hd : decode cc pc = .ok (.iload j, 2)) (hl : lv[q]? = some (j, .int x)) (k : jv_V l own cc nL rt d S rv pc' lv (.int x :: st) h o) : jv_V l own cc nL rt d S rv pc lv st h o := by
  subst hp
  exact fun res ho p e s m args below meth c ca D ad H locs ls C N J P Sx L => lv_iload C.1 C.2.1 hd (jv_lv_at L hl) (k res ho p e s m args below meth c ca D ad H locs ls C N J P Sx L)
theorem v_lload_n {i : Fin 4} {j : Nat} {x : Int64} (q : Nat) (pc' : Nat) (hp : pc' = pc + 1) (hd : decode cc pc = .ok (.lload_n i, 1)) (hi : (i : Nat) = j) (hl : lv[q]? = some (j, .long x)) (k : jv_V l own cc nL rt d S rv pc' lv (.long x :: st) h o) : jv_V l own cc nL rt d S rv pc lv st h o := by
  subst hp
  exact fun res ho p e s m args below meth c ca D ad H locs ls C N J P Sx L => lv_lload_n C.1 C.2.1 hd hi (jv_lv_at L hl) (k res ho p e s m args below meth c ca D ad H locs ls C N J P Sx L)
theorem v_lload {j : Nat} {x : Int64} (q : Nat) (pc' : Nat) (hp : pc' = pc + 2) (hd : decode cc pc = .ok (.lload j, 2)) (hl : lv[q]? = some (j, .long x)) (k : jv_V l own cc nL rt d S rv pc' lv (.long x :: st) h o) : jv_V l own cc nL rt d S rv pc lv st h o := by
  subst hp
  exact fun res ho p e s m args below meth c ca D ad H locs ls C N J P Sx L => lv_lload C.1 C.2.1 hd (jv_lv_at L hl) (k res ho p e s m args below meth c ca D ad H locs ls C N J P Sx L)
theorem v_aload_n {i : Fin 4} {j : Nat} {x : Nat} (q : Nat) (pc' : Nat) (hp : pc' = pc + 1) (hd : decode cc pc = .ok (.aload_n i, 1)) (hi : (i : Nat) = j) (hl : lv[q]? = some (j, .ref x)) (k : jv_V l own cc nL rt d S rv pc' lv (.ref x :: st) h o) : jv_V l own cc nL rt d S rv pc lv st h o := by
  subst hp
  exact fun res ho p e s m args below meth c ca D ad H locs ls C N J P Sx L => lv_aload_n C.1 C.2.1 hd hi (jv_lv_at L hl) (k res ho p e s m args below meth c ca D ad H locs ls C N J P Sx L)
/-- a local's new value keeps its place in the list -/
def jv_set : List (Nat × Value) → Nat → Value → List (Nat × Value)
  | [], i, v => [(i, v)]
  | q :: r, i, v => if q.1 = i then (i, v) :: r.filter (fun z => !(z.1 == i)) else q :: jv_set r i v
theorem jv_set_mem : ∀ {lv : List (Nat × Value)} {i : Nat} {v : Value} {q : Nat × Value}, q ∈ jv_set lv i v → q = (i, v) ∨ (q ∈ lv ∧ ¬ q.1 = i)
  | [], i, v, q, h => by
    simp only [jv_set, List.mem_singleton] at h
    exact Or.inl h
  | a :: r, i, v, q, h => by
    simp only [jv_set] at h
    by_cases ha : a.1 = i
    · rw [if_pos ha] at h
      rcases List.mem_cons.mp h with h | h
      · exact Or.inl h
      · obtain ⟨h1, h2⟩ := List.mem_filter.mp h
        exact Or.inr ⟨List.mem_cons_of_mem _ h1, by simpa using h2⟩
    · rw [if_neg ha] at h
      rcases List.mem_cons.mp h with h | h
      · exact Or.inr ⟨by rw [h]; exact List.mem_cons_self, by rw [h]; exact ha⟩
      · rcases jv_set_mem h with h | h
        · exact Or.inl h
        · exact Or.inr ⟨List.mem_cons_of_mem _ h.1, h.2⟩
theorem jv_set_has {ad : Nat → Nat} {ls : Array Slot} {i : Nat} {v : Value} (hc : lv.all (fun q => q.2.category == 1) = true) (L : lv_has ls nL ((i, jv_rz ad v) :: (jv_lv ad lv).filter (fun q => !(q.1 == i) && !(q.1 + 1 == i && q.2.category == 2)))) : lv_has ls nL (jv_lv ad (jv_set lv i v)) := by
  refine ⟨L.1, L.2.1, fun q hq => ?_⟩
  obtain ⟨z, hz, rfl⟩ := List.mem_map.mp hq
  rcases jv_set_mem hz with rfl | ⟨h1, h2⟩
  · exact L.2.2 _ List.mem_cons_self
  · refine L.2.2 _ (List.mem_cons_of_mem _ (List.mem_filter.mpr ⟨List.mem_map.mpr ⟨z, h1, rfl⟩, ?_⟩))
    have hcat : z.2.category = 1 := by simpa using List.all_eq_true.mp hc z h1
    simp [h2, jv_rz_cat, hcat]
theorem v_istore_n {i : Fin 4} {j : Nat} {x : Int32} {lv' : List (Nat × Value)} (pc' : Nat) (hp : pc' = pc + 1) (hd : decode cc pc = .ok (.istore_n i, 1)) (hi : (i : Nat) = j) (hn : j < nL) (hc : lv.all (fun q => q.2.category == 1) = true) (hl : jv_set lv j (.int x) = lv') (k : jv_V l own cc nL rt d S rv pc' lv' st h o) : jv_V l own cc nL rt d S rv pc lv (.int x :: st) h o := by
  subst hp; subst hl
  exact fun res ho p e s m args below meth c ca D ad H locs ls C N J P Sx L => lv_istore_n C.1 C.2.1 hd hi L hn rfl (fun ls' L' => k res ho p e s m args below meth c ca D ad H locs ls' C N J P Sx (jv_set_has hc L'))
theorem v_istore {j : Nat} {x : Int32} {lv' : List (Nat × Value)} (pc' : Nat) (hp : pc' = pc + 2) (hd : decode cc pc = .ok (.istore j, 2)) (hn : j < nL) (hc : lv.all (fun q => q.2.category == 1) = true) (hl : jv_set lv j (.int x) = lv') (k : jv_V l own cc nL rt d S rv pc' lv' st h o) : jv_V l own cc nL rt d S rv pc lv (.int x :: st) h o := by
  subst hp; subst hl
  exact fun res ho p e s m args below meth c ca D ad H locs ls C N J P Sx L => lv_istore C.1 C.2.1 hd L hn rfl (fun ls' L' => k res ho p e s m args below meth c ca D ad H locs ls' C N J P Sx (jv_set_has hc L'))
theorem v_iinc {j : Nat} {n : Int} {x v : Int32} {lv' : List (Nat × Value)} (q : Nat) (pc' : Nat) (hp : pc' = pc + 3) (hd : decode cc pc = .ok (.iinc j n, 3)) (hq : lv[q]? = some (j, .int x)) (hv : x + Int32.ofInt n = v) (hn : j < nL) (hc : lv.all (fun q => q.2.category == 1) = true) (hl : jv_set lv j (.int v) = lv') (k : jv_V l own cc nL rt d S rv pc' lv' st h o) : jv_V l own cc nL rt d S rv pc lv st h o := by
  subst hp; subst hl; subst hv
  intro res ho p e s m args below meth c ca D ad H locs ls C N J P Sx L
  exact lv_iinc (k := q) C.1 C.2.1 hd L (by rw [jv_lv, List.getElem?_map, hq]; rfl) rfl hn rfl (fun ls' L' => k res ho p e s m args below meth c ca D ad H locs ls' C N J P Sx (jv_set_has hc L'))
theorem v_iadd {x y : Int32} (pc' : Nat) (hp : pc' = pc + 1) (hd : decode cc pc = .ok (.iadd, 1)) (k : jv_V l own cc nL rt d S rv pc' lv (.int (x + y) :: st) h o) : jv_V l own cc nL rt d S rv pc lv (.int y :: .int x :: st) h o := by
  subst hp
  exact fun res ho p e s m args below meth c ca D ad H locs ls C N J P Sx L => lv_iadd C.1 C.2.1 hd (k res ho p e s m args below meth c ca D ad H locs ls C N J P Sx L)
theorem v_isub {x y : Int32} (pc' : Nat) (hp : pc' = pc + 1) (hd : decode cc pc = .ok (.isub, 1)) (k : jv_V l own cc nL rt d S rv pc' lv (.int (x - y) :: st) h o) : jv_V l own cc nL rt d S rv pc lv (.int y :: .int x :: st) h o := by
  subst hp
  exact fun res ho p e s m args below meth c ca D ad H locs ls C N J P Sx L => lv_isub C.1 C.2.1 hd (k res ho p e s m args below meth c ca D ad H locs ls C N J P Sx L)
theorem v_imul {x y : Int32} (pc' : Nat) (hp : pc' = pc + 1) (hd : decode cc pc = .ok (.imul, 1)) (k : jv_V l own cc nL rt d S rv pc' lv (.int (x * y) :: st) h o) : jv_V l own cc nL rt d S rv pc lv (.int y :: .int x :: st) h o := by
  subst hp
  exact fun res ho p e s m args below meth c ca D ad H locs ls C N J P Sx L => lv_imul C.1 C.2.1 hd (k res ho p e s m args below meth c ca D ad H locs ls C N J P Sx L)
theorem v_iand {x y : Int32} (pc' : Nat) (hp : pc' = pc + 1) (hd : decode cc pc = .ok (.iand, 1)) (k : jv_V l own cc nL rt d S rv pc' lv (.int (x &&& y) :: st) h o) : jv_V l own cc nL rt d S rv pc lv (.int y :: .int x :: st) h o := by
  subst hp
  exact fun res ho p e s m args below meth c ca D ad H locs ls C N J P Sx L => lv_iand C.1 C.2.1 hd (k res ho p e s m args below meth c ca D ad H locs ls C N J P Sx L)
theorem v_ior {x y : Int32} (pc' : Nat) (hp : pc' = pc + 1) (hd : decode cc pc = .ok (.ior, 1)) (k : jv_V l own cc nL rt d S rv pc' lv (.int (x ||| y) :: st) h o) : jv_V l own cc nL rt d S rv pc lv (.int y :: .int x :: st) h o := by
  subst hp
  exact fun res ho p e s m args below meth c ca D ad H locs ls C N J P Sx L => lv_ior C.1 C.2.1 hd (k res ho p e s m args below meth c ca D ad H locs ls C N J P Sx L)
theorem v_ixor {x y : Int32} (pc' : Nat) (hp : pc' = pc + 1) (hd : decode cc pc = .ok (.ixor, 1)) (k : jv_V l own cc nL rt d S rv pc' lv (.int (x ^^^ y) :: st) h o) : jv_V l own cc nL rt d S rv pc lv (.int y :: .int x :: st) h o := by
  subst hp
  exact fun res ho p e s m args below meth c ca D ad H locs ls C N J P Sx L => lv_ixor C.1 C.2.1 hd (k res ho p e s m args below meth c ca D ad H locs ls C N J P Sx L)
theorem v_ishl {x y : Int32} (pc' : Nat) (hp : pc' = pc + 1) (hd : decode cc pc = .ok (.ishl, 1)) (k : jv_V l own cc nL rt d S rv pc' lv (.int (x <<< (y &&& 31)) :: st) h o) : jv_V l own cc nL rt d S rv pc lv (.int y :: .int x :: st) h o := by
  subst hp
  exact fun res ho p e s m args below meth c ca D ad H locs ls C N J P Sx L => lv_ishl C.1 C.2.1 hd (k res ho p e s m args below meth c ca D ad H locs ls C N J P Sx L)
theorem v_ishr {x y : Int32} (pc' : Nat) (hp : pc' = pc + 1) (hd : decode cc pc = .ok (.ishr, 1)) (k : jv_V l own cc nL rt d S rv pc' lv (.int (x >>> (y &&& 31)) :: st) h o) : jv_V l own cc nL rt d S rv pc lv (.int y :: .int x :: st) h o := by
  subst hp
  exact fun res ho p e s m args below meth c ca D ad H locs ls C N J P Sx L => lv_ishr C.1 C.2.1 hd (k res ho p e s m args below meth c ca D ad H locs ls C N J P Sx L)
theorem v_iushr {x y : Int32} (pc' : Nat) (hp : pc' = pc + 1) (hd : decode cc pc = .ok (.iushr, 1)) (k : jv_V l own cc nL rt d S rv pc' lv (.int ((x.toUInt32 >>> (y.toUInt32 &&& Int32.toUInt32 31)).toInt32) :: st) h o) : jv_V l own cc nL rt d S rv pc lv (.int y :: .int x :: st) h o := by
  subst hp
  exact fun res ho p e s m args below meth c ca D ad H locs ls C N J P Sx L => lv_iushr C.1 C.2.1 hd rfl (k res ho p e s m args below meth c ca D ad H locs ls C N J P Sx L)
theorem v_ladd {x y : Int64} (pc' : Nat) (hp : pc' = pc + 1) (hd : decode cc pc = .ok (.ladd, 1)) (k : jv_V l own cc nL rt d S rv pc' lv (.long (x + y) :: st) h o) : jv_V l own cc nL rt d S rv pc lv (.long y :: .long x :: st) h o := by
  subst hp
  exact fun res ho p e s m args below meth c ca D ad H locs ls C N J P Sx L => lv_ladd C.1 C.2.1 hd (k res ho p e s m args below meth c ca D ad H locs ls C N J P Sx L)
theorem v_lcmp {x y : Int64} (pc' : Nat) (hp : pc' = pc + 1) (hd : decode cc pc = .ok (.lcmp, 1)) (k : jv_V l own cc nL rt d S rv pc' lv (.int (lg_cmp x y) :: st) h o) : jv_V l own cc nL rt d S rv pc lv (.long y :: .long x :: st) h o := by
  subst hp
  exact fun res ho p e s m args below meth c ca D ad H locs ls C N J P Sx L => W.lcmp C.1 C.2.1 hd (k res ho p e s m args below meth c ca D ad H locs ls C N J P Sx L)
theorem v_i2l {x : Int32} (pc' : Nat) (hp : pc' = pc + 1) (hd : decode cc pc = .ok (.i2l, 1)) (k : jv_V l own cc nL rt d S rv pc' lv (.long (x.toInt64) :: st) h o) : jv_V l own cc nL rt d S rv pc lv (.int x :: st) h o := by
  subst hp
  exact fun res ho p e s m args below meth c ca D ad H locs ls C N J P Sx L => lv_i2l C.1 C.2.1 hd rfl (k res ho p e s m args below meth c ca D ad H locs ls C N J P Sx L)
theorem v_dupi {x : Int32} (pc' : Nat) (hp : pc' = pc + 1) (hd : decode cc pc = .ok (.dup, 1)) (k : jv_V l own cc nL rt d S rv pc' lv (.int x :: .int x :: st) h o) : jv_V l own cc nL rt d S rv pc lv (.int x :: st) h o := by
  subst hp
  exact fun res ho p e s m args below meth c ca D ad H locs ls C N J P Sx L => lv_dup C.1 C.2.1 hd rfl (k res ho p e s m args below meth c ca D ad H locs ls C N J P Sx L)
theorem v_dupr {x : Nat} (pc' : Nat) (hp : pc' = pc + 1) (hd : decode cc pc = .ok (.dup, 1)) (k : jv_V l own cc nL rt d S rv pc' lv (.ref x :: .ref x :: st) h o) : jv_V l own cc nL rt d S rv pc lv (.ref x :: st) h o := by
  subst hp
  exact fun res ho p e s m args below meth c ca D ad H locs ls C N J P Sx L => lv_dup C.1 C.2.1 hd rfl (k res ho p e s m args below meth c ca D ad H locs ls C N J P Sx L)
theorem v_dup2 {y : Int32} {x : Nat} (pc' : Nat) (hp : pc' = pc + 1) (hd : decode cc pc = .ok (.dup2, 1)) (k : jv_V l own cc nL rt d S rv pc' lv (.int y :: .ref x :: .int y :: .ref x :: st) h o) : jv_V l own cc nL rt d S rv pc lv (.int y :: .ref x :: st) h o := by
  subst hp
  exact fun res ho p e s m args below meth c ca D ad H locs ls C N J P Sx L => lv_dup2_11 C.1 C.2.1 hd rfl rfl (k res ho p e s m args below meth c ca D ad H locs ls C N J P Sx L)
theorem v_popi {x : Int32} (pc' : Nat) (hp : pc' = pc + 1) (hd : decode cc pc = .ok (.pop, 1)) (k : jv_V l own cc nL rt d S rv pc' lv (st) h o) : jv_V l own cc nL rt d S rv pc lv (.int x :: st) h o := by
  subst hp
  exact fun res ho p e s m args below meth c ca D ad H locs ls C N J P Sx L => lv_pop C.1 C.2.1 hd rfl (k res ho p e s m args below meth c ca D ad H locs ls C N J P Sx L)
theorem v_idiv {x y : Int32} {inst : Decidable (y = 0)} (pc' : Nat) (hp : pc' = pc + 1) (hd : decode cc pc = .ok (.idiv, 1)) (k : ¬ y = 0 → jv_V l own cc nL rt d S rv pc' lv (.int (x / y) :: st) h o) : jv_V l own cc nL rt d S rv pc lv (.int y :: .int x :: st) h (@ite _ (y = 0) inst none o) := by
  subst hp
  intro res ho p e s m args below meth c ca D ad H locs ls C N J P Sx L
  by_cases hy : y = 0
  · rw [if_pos hy] at ho; cases ho
  · rw [if_neg hy] at ho
    exact lv_idiv C.1 C.2.1 hd hy (k hy res ho p e s m args below meth c ca D ad H locs ls C N J P Sx L)
theorem v_irem {x y : Int32} {inst : Decidable (y = 0)} (pc' : Nat) (hp : pc' = pc + 1) (hd : decode cc pc = .ok (.irem, 1)) (k : ¬ y = 0 → jv_V l own cc nL rt d S rv pc' lv (.int (x - x / y * y) :: st) h o) : jv_V l own cc nL rt d S rv pc lv (.int y :: .int x :: st) h (@ite _ (y = 0) inst none o) := by
  subst hp
  intro res ho p e s m args below meth c ca D ad H locs ls C N J P Sx L
  by_cases hy : y = 0
  · rw [if_pos hy] at ho; cases ho
  · rw [if_neg hy] at ho
    exact lv_irem C.1 C.2.1 hd hy (k hy res ho p e s m args below meth c ca D ad H locs ls C N J P Sx L)
theorem v_if_eq {x : Int32} {off : Int} {inst : Decidable (x = 0)} (tgt pc' : Nat) (hp : pc' = pc + 3) (ht : (pc : Int) + off = (tgt : Int)) (hd : decode cc pc = .ok (.ifCond .eq off, 3)) (kt : x = 0 → jv_V l own cc nL rt d S rv tgt lv st h o1) (kf : ¬ x = 0 → jv_V l own cc nL rt d S rv pc' lv st h o2) : jv_V l own cc nL rt d S rv pc lv (.int x :: st) h (@ite _ (x = 0) inst o1 o2) := by
  subst hp
  intro res ho p e s m args below meth c ca D ad H locs ls C N J P Sx L
  refine lv_if_eq C.1 C.2.1 hd ht (fun hc => ?_) (fun hc => ?_)
  · rw [if_pos hc] at ho
    exact kt hc res ho p e s m args below meth c ca D ad H locs ls C N J P Sx L
  · rw [if_neg (by first | exact hc | exact fun q => q hc)] at ho
    exact kf hc res ho p e s m args below meth c ca D ad H locs ls C N J P Sx L
theorem v_icmp_eq {x y : Int32} {off : Int} {inst : Decidable (x = y)} (tgt pc' : Nat) (hp : pc' = pc + 3) (ht : (pc : Int) + off = (tgt : Int)) (hd : decode cc pc = .ok (.if_icmp .eq off, 3)) (kt : x = y → jv_V l own cc nL rt d S rv tgt lv st h o1) (kf : ¬ x = y → jv_V l own cc nL rt d S rv pc' lv st h o2) : jv_V l own cc nL rt d S rv pc lv (.int y :: .int x :: st) h (@ite _ (x = y) inst o1 o2) := by
  subst hp
  intro res ho p e s m args below meth c ca D ad H locs ls C N J P Sx L
  refine lv_icmp_eq C.1 C.2.1 hd ht (fun hc => ?_) (fun hc => ?_)
  · rw [if_pos hc] at ho
    exact kt hc res ho p e s m args below meth c ca D ad H locs ls C N J P Sx L
  · rw [if_neg (by first | exact hc | exact fun q => q hc)] at ho
    exact kf hc res ho p e s m args below meth c ca D ad H locs ls C N J P Sx L
theorem v_if_ne {x : Int32} {off : Int} {inst : Decidable (x = 0)} (tgt pc' : Nat) (hp : pc' = pc + 3) (ht : (pc : Int) + off = (tgt : Int)) (hd : decode cc pc = .ok (.ifCond .ne off, 3)) (kt : ¬ x = 0 → jv_V l own cc nL rt d S rv tgt lv st h o1) (kf : x = 0 → jv_V l own cc nL rt d S rv pc' lv st h o2) : jv_V l own cc nL rt d S rv pc lv (.int x :: st) h (@ite _ (x = 0) inst o2 o1) := by
  subst hp
  intro res ho p e s m args below meth c ca D ad H locs ls C N J P Sx L
  refine lv_if_ne C.1 C.2.1 hd ht (fun hc => ?_) (fun hc => ?_)
  · rw [if_neg hc] at ho
    exact kt hc res ho p e s m args below meth c ca D ad H locs ls C N J P Sx L
  · rw [if_pos hc] at ho
    exact kf hc res ho p e s m args below meth c ca D ad H locs ls C N J P Sx L
theorem v_icmp_ne {x y : Int32} {off : Int} {inst : Decidable (x = y)} (tgt pc' : Nat) (hp : pc' = pc + 3) (ht : (pc : Int) + off = (tgt : Int)) (hd : decode cc pc = .ok (.if_icmp .ne off, 3)) (kt : ¬ x = y → jv_V l own cc nL rt d S rv tgt lv st h o1) (kf : x = y → jv_V l own cc nL rt d S rv pc' lv st h o2) : jv_V l own cc nL rt d S rv pc lv (.int y :: .int x :: st) h (@ite _ (x = y) inst o2 o1) := by
  subst hp
  intro res ho p e s m args below meth c ca D ad H locs ls C N J P Sx L
  refine lv_icmp_ne C.1 C.2.1 hd ht (fun hc => ?_) (fun hc => ?_)
  · rw [if_neg hc] at ho
    exact kt hc res ho p e s m args below meth c ca D ad H locs ls C N J P Sx L
  · rw [if_pos hc] at ho
    exact kf hc res ho p e s m args below meth c ca D ad H locs ls C N J P Sx L
theorem v_if_lt {x : Int32} {off : Int} {inst : Decidable (x < 0)} (tgt pc' : Nat) (hp : pc' = pc + 3) (ht : (pc : Int) + off = (tgt : Int)) (hd : decode cc pc = .ok (.ifCond .lt off, 3)) (kt : x < 0 → jv_V l own cc nL rt d S rv tgt lv st h o1) (kf : ¬ x < 0 → jv_V l own cc nL rt d S rv pc' lv st h o2) : jv_V l own cc nL rt d S rv pc lv (.int x :: st) h (@ite _ (x < 0) inst o1 o2) := by
  subst hp
  intro res ho p e s m args below meth c ca D ad H locs ls C N J P Sx L
  refine lv_if_lt C.1 C.2.1 hd ht (fun hc => ?_) (fun hc => ?_)
  · rw [if_pos hc] at ho
    exact kt hc res ho p e s m args below meth c ca D ad H locs ls C N J P Sx L
  · rw [if_neg (by first | exact hc | exact fun q => q hc)] at ho
    exact kf hc res ho p e s m args below meth c ca D ad H locs ls C N J P Sx L
theorem v_icmp_lt {x y : Int32} {off : Int} {inst : Decidable (x < y)} (tgt pc' : Nat) (hp : pc' = pc + 3) (ht : (pc : Int) + off = (tgt : Int)) (hd : decode cc pc = .ok (.if_icmp .lt off, 3)) (kt : x < y → jv_V l own cc nL rt d S rv tgt lv st h o1) (kf : ¬ x < y → jv_V l own cc nL rt d S rv pc' lv st h o2) : jv_V l own cc nL rt d S rv pc lv (.int y :: .int x :: st) h (@ite _ (x < y) inst o1 o2) := by
  subst hp
  intro res ho p e s m args below meth c ca D ad H locs ls C N J P Sx L
  refine lv_icmp_lt C.1 C.2.1 hd ht (fun hc => ?_) (fun hc => ?_)
  · rw [if_pos hc] at ho
    exact kt hc res ho p e s m args below meth c ca D ad H locs ls C N J P Sx L
  · rw [if_neg (by first | exact hc | exact fun q => q hc)] at ho
    exact kf hc res ho p e s m args below meth c ca D ad H locs ls C N J P Sx L
theorem v_if_ge {x : Int32} {off : Int} {inst : Decidable (0 ≤ x)} (tgt pc' : Nat) (hp : pc' = pc + 3) (ht : (pc : Int) + off = (tgt : Int)) (hd : decode cc pc = .ok (.ifCond .ge off, 3)) (kt : 0 ≤ x → jv_V l own cc nL rt d S rv tgt lv st h o1) (kf : ¬ 0 ≤ x → jv_V l own cc nL rt d S rv pc' lv st h o2) : jv_V l own cc nL rt d S rv pc lv (.int x :: st) h (@ite _ (0 ≤ x) inst o1 o2) := by
  subst hp
  intro res ho p e s m args below meth c ca D ad H locs ls C N J P Sx L
  refine lv_if_ge C.1 C.2.1 hd ht (fun hc => ?_) (fun hc => ?_)
  · rw [if_pos hc] at ho
    exact kt hc res ho p e s m args below meth c ca D ad H locs ls C N J P Sx L
  · rw [if_neg (by first | exact hc | exact fun q => q hc)] at ho
    exact kf hc res ho p e s m args below meth c ca D ad H locs ls C N J P Sx L
theorem v_icmp_ge {x y : Int32} {off : Int} {inst : Decidable (y ≤ x)} (tgt pc' : Nat) (hp : pc' = pc + 3) (ht : (pc : Int) + off = (tgt : Int)) (hd : decode cc pc = .ok (.if_icmp .ge off, 3)) (kt : y ≤ x → jv_V l own cc nL rt d S rv tgt lv st h o1) (kf : ¬ y ≤ x → jv_V l own cc nL rt d S rv pc' lv st h o2) : jv_V l own cc nL rt d S rv pc lv (.int y :: .int x :: st) h (@ite _ (y ≤ x) inst o1 o2) := by
  subst hp
  intro res ho p e s m args below meth c ca D ad H locs ls C N J P Sx L
  refine lv_icmp_ge C.1 C.2.1 hd ht (fun hc => ?_) (fun hc => ?_)
  · rw [if_pos hc] at ho
    exact kt hc res ho p e s m args below meth c ca D ad H locs ls C N J P Sx L
  · rw [if_neg (by first | exact hc | exact fun q => q hc)] at ho
    exact kf hc res ho p e s m args below meth c ca D ad H locs ls C N J P Sx L
theorem v_if_gt {x : Int32} {off : Int} {inst : Decidable (0 < x)} (tgt pc' : Nat) (hp : pc' = pc + 3) (ht : (pc : Int) + off = (tgt : Int)) (hd : decode cc pc = .ok (.ifCond .gt off, 3)) (kt : 0 < x → jv_V l own cc nL rt d S rv tgt lv st h o1) (kf : ¬ 0 < x → jv_V l own cc nL rt d S rv pc' lv st h o2) : jv_V l own cc nL rt d S rv pc lv (.int x :: st) h (@ite _ (0 < x) inst o1 o2) := by
  subst hp
  intro res ho p e s m args below meth c ca D ad H locs ls C N J P Sx L
  refine lv_if_gt C.1 C.2.1 hd ht (fun hc => ?_) (fun hc => ?_)
  · rw [if_pos hc] at ho
    exact kt hc res ho p e s m args below meth c ca D ad H locs ls C N J P Sx L
  · rw [if_neg (by first | exact hc | exact fun q => q hc)] at ho
    exact kf hc res ho p e s m args below meth c ca D ad H locs ls C N J P Sx L
theorem v_icmp_gt {x y : Int32} {off : Int} {inst : Decidable (y < x)} (tgt pc' : Nat) (hp : pc' = pc + 3) (ht : (pc : Int) + off = (tgt : Int)) (hd : decode cc pc = .ok (.if_icmp .gt off, 3)) (kt : y < x → jv_V l own cc nL rt d S rv tgt lv st h o1) (kf : ¬ y < x → jv_V l own cc nL rt d S rv pc' lv st h o2) : jv_V l own cc nL rt d S rv pc lv (.int y :: .int x :: st) h (@ite _ (y < x) inst o1 o2) := by
  subst hp
  intro res ho p e s m args below meth c ca D ad H locs ls C N J P Sx L
  refine lv_icmp_gt C.1 C.2.1 hd ht (fun hc => ?_) (fun hc => ?_)
  · rw [if_pos hc] at ho
    exact kt hc res ho p e s m args below meth c ca D ad H locs ls C N J P Sx L
  · rw [if_neg (by first | exact hc | exact fun q => q hc)] at ho
    exact kf hc res ho p e s m args below meth c ca D ad H locs ls C N J P Sx L
theorem v_if_le {x : Int32} {off : Int} {inst : Decidable (x ≤ 0)} (tgt pc' : Nat) (hp : pc' = pc + 3) (ht : (pc : Int) + off = (tgt : Int)) (hd : decode cc pc = .ok (.ifCond .le off, 3)) (kt : x ≤ 0 → jv_V l own cc nL rt d S rv tgt lv st h o1) (kf : ¬ x ≤ 0 → jv_V l own cc nL rt d S rv pc' lv st h o2) : jv_V l own cc nL rt d S rv pc lv (.int x :: st) h (@ite _ (x ≤ 0) inst o1 o2) := by
  subst hp
  intro res ho p e s m args below meth c ca D ad H locs ls C N J P Sx L
  refine lv_if_le C.1 C.2.1 hd ht (fun hc => ?_) (fun hc => ?_)
  · rw [if_pos hc] at ho
    exact kt hc res ho p e s m args below meth c ca D ad H locs ls C N J P Sx L
  · rw [if_neg (by first | exact hc | exact fun q => q hc)] at ho
    exact kf hc res ho p e s m args below meth c ca D ad H locs ls C N J P Sx L
theorem v_icmp_le {x y : Int32} {off : Int} {inst : Decidable (x ≤ y)} (tgt pc' : Nat) (hp : pc' = pc + 3) (ht : (pc : Int) + off = (tgt : Int)) (hd : decode cc pc = .ok (.if_icmp .le off, 3)) (kt : x ≤ y → jv_V l own cc nL rt d S rv tgt lv st h o1) (kf : ¬ x ≤ y → jv_V l own cc nL rt d S rv pc' lv st h o2) : jv_V l own cc nL rt d S rv pc lv (.int y :: .int x :: st) h (@ite _ (x ≤ y) inst o1 o2) := by
  subst hp
  intro res ho p e s m args below meth c ca D ad H locs ls C N J P Sx L
  refine lv_icmp_le C.1 C.2.1 hd ht (fun hc => ?_) (fun hc => ?_)
  · rw [if_pos hc] at ho
    exact kt hc res ho p e s m args below meth c ca D ad H locs ls C N J P Sx L
  · rw [if_neg (by first | exact hc | exact fun q => q hc)] at ho
    exact kf hc res ho p e s m args below meth c ca D ad H locs ls C N J P Sx L
theorem v_goto {off : Int} (tgt : Nat) (ht : (pc : Int) + off = (tgt : Int)) (hd : decode cc pc = .ok (.goto off, 3)) (k : jv_V l own cc nL rt d S rv tgt lv st h o) : jv_V l own cc nL rt d S rv pc lv st h o := by
  exact fun res ho p e s m args below meth c ca D ad H locs ls C N J P Sx L => lv_goto C.1 C.2.1 hd ht (k res ho p e s m args below meth c ca D ad H locs ls C N J P Sx L)
/-- a switch, value by value: the number is v, or it isn't and the switch is asked on -/
theorem v_tabc {x : Int32} {dflt lo hi off : Int} {offs : Array Int} {len : Nat} (v : Int32) {inst : Decidable (x = v)} (tgt : Nat) (hd : decode cc pc = .ok (.tableswitch dflt lo hi offs, len)) (hv : ¬ v.toInt < lo ∧ ¬ hi < v.toInt ∧ offs[(v.toInt - lo).toNat]? = some off) (ht : (pc : Int) + off = (tgt : Int)) (kt : x = v → jv_V l own cc nL rt d S rv tgt lv st h o1) (kf : ¬ x = v → jv_V l own cc nL rt d S rv pc lv (.int x :: st) h o2) : jv_V l own cc nL rt d S rv pc lv (.int x :: st) h (@ite _ (x = v) inst o1 o2) := by
  intro res ho p e s m args below meth c ca D ad H locs ls C N J P Sx L
  by_cases hc : x = v
  · rw [if_pos hc] at ho
    have k := kt hc res ho p e s m args below meth c ca D ad H locs ls C N J P Sx L
    subst hc
    exact lv_tableIn C.1 C.2.1 hd hv.1 hv.2.1 hv.2.2 ht k
  · rw [if_neg hc] at ho
    exact kf hc res ho p e s m args below meth c ca D ad H locs ls C N J P Sx L
theorem v_tabd {x : Int32} {dflt lo hi : Int} {offs : Array Int} {len : Nat} (tgt : Nat) (hd : decode cc pc = .ok (.tableswitch dflt lo hi offs, len)) (hv : x.toInt < lo ∨ hi < x.toInt) (ht : (pc : Int) + dflt = (tgt : Int)) (k : jv_V l own cc nL rt d S rv tgt lv st h o) : jv_V l own cc nL rt d S rv pc lv (.int x :: st) h o :=
  fun res ho p e s m args below meth c ca D ad H locs ls C N J P Sx L => lv_tableOut C.1 C.2.1 hd hv ht (k res ho p e s m args below meth c ca D ad H locs ls C N J P Sx L)
theorem v_lokc {x : Int32} {dflt off : Int} {ps : Array (Int × Int)} {len : Nat} (v : Int32) {inst : Decidable (x = v)} (tgt : Nat) (hd : decode cc pc = .ok (.lookupswitch dflt ps, len)) (hs : (ps.toList.zip (ps.toList.drop 1)).all (fun (a, next) => a.1 < next.1) = true) (hv : Op.lookupswitch.offset ps.toList dflt v.toInt = off) (ht : (pc : Int) + off = (tgt : Int)) (kt : x = v → jv_V l own cc nL rt d S rv tgt lv st h o1) (kf : ¬ x = v → jv_V l own cc nL rt d S rv pc lv (.int x :: st) h o2) : jv_V l own cc nL rt d S rv pc lv (.int x :: st) h (@ite _ (x = v) inst o1 o2) := by
  intro res ho p e s m args below meth c ca D ad H locs ls C N J P Sx L
  by_cases hc : x = v
  · rw [if_pos hc] at ho
    have k := kt hc res ho p e s m args below meth c ca D ad H locs ls C N J P Sx L
    subst hc
    exact lv_lookup C.1 C.2.1 hd hs hv ht k
  · rw [if_neg hc] at ho
    exact kf hc res ho p e s m args below meth c ca D ad H locs ls C N J P Sx L
theorem v_lokd {x : Int32} {dflt : Int} {ps : Array (Int × Int)} {len : Nat} (tgt : Nat) (hd : decode cc pc = .ok (.lookupswitch dflt ps, len)) (hs : (ps.toList.zip (ps.toList.drop 1)).all (fun (a, next) => a.1 < next.1) = true) (hv : Op.lookupswitch.offset ps.toList dflt x.toInt = dflt) (ht : (pc : Int) + dflt = (tgt : Int)) (k : jv_V l own cc nL rt d S rv tgt lv st h o) : jv_V l own cc nL rt d S rv pc lv (.int x :: st) h o :=
  fun res ho p e s m args below meth c ca D ad H locs ls C N J P Sx L => lv_lookup C.1 C.2.1 hd hs hv ht (k res ho p e s m args below meth c ca D ad H locs ls C N J P Sx L)
end JV
