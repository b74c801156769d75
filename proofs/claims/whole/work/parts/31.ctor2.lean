/-! constructors: calls -/
theorem jc_notA {ad0 ad : Nat → Nat} {S0 S : List jv_S} {sz a : Nat} (X : jc_X ad0 ad S0 S sz) (ha : a < sz) (hn : ¬ jv_A ad0 S0 a) : ¬ jv_A ad S a := by
  rintro ⟨k, hk, rfl⟩
  rcases jc_X_A X hk with ⟨i, hi, he⟩ | hb
  · exact hn ⟨i, hi, he⟩
  · omega
theorem jc_N {ca : Bool → ClassId} {D : va_G} {ad0 ad : Nat → Nat} {S0 S : List jv_S} {s U : State} (N : jv_N ca D ad0 S0 s) (X : jc_X ad0 ad S0 S s.heap.size) (hW : s.WarmedH U.vm) (hq : ∀ a : Nat, a < s.heap.size → ¬ jv_A ad0 S0 a → U.heap[a]? = s.heap[a]?) : jv_N ca D ad S U := by
  obtain ⟨n1, n2, n3⟩ := jv_N_moved N hW hq
  refine ⟨n1, n2, fun i hi => ?_⟩
  have hk : ad (1000 + i) = ad0 (1000 + i) := X.2.2.1 _ (by omega)
  rw [hk]
  obtain ⟨cf, kf, fi, f, a, cell, z1, z2, z3, z4, z5, z6, z7, z8⟩ := (N.2.2 i hi).1
  obtain ⟨cell', t1, t2, t3, t4, t5, t6, t7⟩ := (N.2.2 i hi).2
  have ha : a < s.heap.size := (Array.getElem?_eq_some_iff.mp z5).1
  have ht : ad0 (1000 + i) < s.heap.size := (Array.getElem?_eq_some_iff.mp t1).1
  constructor
  · exact va_Z.moved (u := s) (H := U.heap) hW.alike ⟨cf, kf, fi, f, a, cell, z1, z2, z3, z4, by rw [hq a ha z8]; exact z5, z6, z7, jc_notA X ha z8⟩
  · exact va_T.moved (u := s) (H := U.heap) hW.alike ⟨cell', by rw [hq _ ht t7]; exact t1, t2, t3, t4, t5, t6, jc_notA X ht t7⟩
def jc_lt (n : Nat) (v : Value) : Bool := match v with
  | .ref r => decide (r < n)
  | _ => true
theorem jc_rz2 {ad ad' : Nat → Nat} {n : Nat} (ha : ∀ k, k < n → ad' k = ad k) {v : Value} (h : jc_lt n v = true) : jv_rz ad' v = jv_rz ad v := by
  cases v with
  | ref r =>
    have hr : r < n := by simpa [jc_lt] using h
    simp [jv_rz, ha r hr]
  | _ => rfl
theorem jc_cat {ad0 ad ad' : Nat → Nat} {S0 S S2 : List jv_S} {sz sz' : Nat} (X : jc_X ad0 ad S0 S sz) (Y : jc_X ad ad' S S2 sz') (h : sz ≤ sz') : jc_X ad0 ad' S0 S2 sz := by
  refine ⟨Nat.le_trans X.1 Y.1, fun k hk => ?_, fun k hk => ?_, fun k h1 h2 => ?_, Y.2.2.2.2⟩
  · rw [Y.2.1 k (Nat.lt_of_lt_of_le hk X.1), X.2.1 k hk]
  · rw [Y.2.2.1 k hk, X.2.2.1 k hk]
  · by_cases hk : k < S.length
    · rw [Y.2.1 k hk]; exact X.2.2.2.1 k h1 hk
    · exact Nat.le_trans h (Y.2.2.2.1 k (by omega) h2)
def jc_ci (own : String) (ix : Nat) (y : MethodName) : Prop := Cond.methodLink own ix y ∈ jv_T ∧ Cond.instanceMethod y ∈ jv_T
def jc_cn (own : String) (ix : Nat) (y : MethodName) (host : String) : Prop := Cond.methodLinkNest own ix y host ∈ jv_ns ∧ Cond.instanceMethod y ∈ jv_T
theorem jc_blind {ca : Bool → ClassId} {D : va_G} {ad : Nat → Nat} {S : List jv_S} {as : List Value} {h : jv_H} {sz : Nat} : FrameBlind (jc_P ca D ad S as h sz) := fun a U g mk q => ⟨q.1, q.2.1, jv_N_calling g mk a q.2.2.1, q.2.2.2.1, q.2.2.2.2⟩
section JD
variable {l : Launch} {own : String} {cc : ByteArray} {nL d mc ms nc ns : Nat} {S0 S S' : List jv_S} {pc : Nat} {lv : List (Nat × Value)} {st : List Value} {h h' : jv_H}
theorem jc_go {R : Room} {p : Program} {e : Env} {s : State} {m : MethodId} {args : Array Value} {below : List Frame} {meth : Method} {c : Code} {ca : Bool → ClassId} {D : va_G} {ad0 ad : Nat → Nat} {H : Heap} {locs : List Loc} {ls : Array Slot} {Q : State → Prop} {S2 : List jv_S} {h2 : jv_H} {st0 rest : List Value} {a : Array Value} {mc' ms' : Nat}
    (hr : va_Run p l e R s m args below meth c H locs nc ns mc' ms' (F0 m pc ls st0) rest (jc_Q ca D ad S S2 h2 a) (jc_A ad S H.size)) (X : jc_X ad0 ad S0 S s.heap.size) (Sx : va_S (jc_A ad0 S0 s.heap.size) s.heap H locs)
    (kk : ∀ (ad' : Nat → Nat) (H1 : Heap) (locs1 : List Loc), jc_X ad0 ad' S0 S2 s.heap.size → (∀ k, k < S.length → ad' k = ad k) → va_P D vwCl (jv_w ca ad' h2 S2) H1 → va_S (jc_A ad0 S0 s.heap.size) s.heap H1 locs1 → W p l e R s m args below meth c H1 locs1 (nc + mc') (ns + ms') Q (F0 m (pc + 3) ls rest)) :
    W p l e R s m args below meth c H locs nc ns Q (F0 m pc ls st0) := by
  intro T hT X0
  obtain ⟨v, st₀, t, T', L, h0, X', hL, e1, e2, ⟨hv, ⟨ad', Y, hP⟩, hz, hk⟩, stp⟩ := hr T hT X0
  cases hv
  rw [h0] at hz hk Y
  have hin : ∀ q, jc_A ad S H.size q → jc_A ad0 S0 s.heap.size q := by
    rintro q (⟨k, hk, rfl⟩ | hb)
    · exact jc_X_A X hk
    · exact Or.inr (Nat.le_trans Sx.1 hb)
  obtain ⟨t2, a1, b1⟩ := kk ad' T'.heap (locs ++ L) (jc_cat X Y Sx.1) Y.2.1 (by rw [e1]; exact hP) ⟨Nat.le_trans Sx.1 (by rw [e1]; exact hz), fun q q1 q2 => by rw [e1, hk q (Nat.lt_of_lt_of_le q1 Sx.1) (fun z => q2 (hin q z))]; exact Sx.2.1 q q1 q2, fun q hq => by
    rcases List.mem_append.mp hq with g | g
    · exact Sx.2.2 q g
    · exact hin _ (hL q g)⟩ T' rfl X'
  exact ⟨t2, stp t2 a1, b1⟩
theorem c_ctor {y : MethodName} {cc' : ByteArray} {nL' n ix a mc' ms' : Nat} {stk : List Value} {S2 : List jv_S} {h2 : jv_H} (as st : List Value) (pc' : Nat) (hp : pc' = pc + 3) (hd1 : 1 ≤ d) (hnl : nL' ≤ 21) (hcb : jv_cb y cc' nL' none n) (hy1 : y.name = "<init>") (hci : jc_ci own ix y) (hn : as.length = n) (hst : (st.map fun v => v.category).sum ≤ 8) (hlt : st.all (jc_lt S.length) = true) (hll : lv.all (fun z => jc_lt S.length z.2) = true) (hcl : nc + mc' ≤ mc) (hsl : ns + ms' ≤ ms) (hk : as.reverse ++ .ref a :: st = stk) (hd : decode cc pc = .ok (.invokespecial ix, 3))
    (hE : jc_E l y cc' nL' (d - 1) mc' ms' S (.ref a :: as) h S2 h2) (k : jc_V l own cc nL d mc ms S0 S2 (nc + mc') (ns + ms') pc' lv st h2 S' h') : jc_V l own cc nL d mc ms S0 S nc ns pc lv stk h S' h' := by
  subst hp; subst hk
  intro p e s m args below meth c ca D ad0 ad H locs ls C I N X P Sx L
  have hM := hE ca D ad H.size
  obtain ⟨w1, w2⟩ := hci
  obtain ⟨w4, w5, w6⟩ := hcb
  have cw := cwI (R := jc_R d mc ms) (s := s) (args := args) (own := own) (index := ix) (y := y) (bytes := cc') (maxL := nL') (ws := Cond.code y cc' nL' none :: jv_T) (rm := jc_R (d - 1) mc' ms') (mc := mc') (ms := ms') n C.2.2.2.2.2.1 (jv_words w5 [] (fun w hw => by cases hw)) rfl rfl rfl (jv_Tx C w4) (jv_Tx C w1) (jv_Tx C w2) hy1 w6 ⟨by show d - 1 + 1 ≤ d; omega, by show 8 + (nL' + 11) + 40 * (d - 1) ≤ 40 * d; omega⟩
  have hpre : ∀ U : State, U.heap = H → s.WarmedH U.vm → jc_P ca D ad S (.ref a :: as) h H.size ((.ref a :: as).map (jv_rz ad)).toArray U := fun U hU hW => ⟨rfl, by rw [hU], jc_N N X hW (fun q hq hn => by rw [hU]; exact Sx.2.1 q hq (fun z => by rcases z with ⟨k, hk, e⟩ | z; exact hn ⟨k, hk, e⟩; omega)), X.2.2.2.2, by rw [hU]; exact P⟩
  have hstk : ((as.reverse ++ .ref a :: st).map (jv_rz ad)) = (as.map (jv_rz ad)).reverse ++ .ref (ad a) :: st.map (jv_rz ad) := by rw [List.map_append, List.map_reverse]; rfl
  rw [hstk]
  refine jc_go (va_runI (As := as.map (jv_rz ad)) (b := ad a) (rest := st.map (jv_rz ad)) ⟨C.1, C.2.1, C.2.2.2.1, C.2.2.2.2.1, C.2.2.2.2.2.1⟩ hM cw ⟨jc_blind, hpre⟩ rfl (by rw [List.length_map, hn]) L.1 rfl (lv_room (by rw [jv_cats]; exact hst)) hd ⟨hcl, hsl⟩) X Sx (fun ad' H1 locs1 X1 e1 P1 S1 => ?_)
  have hz := k p e s m args below meth c ca D ad0 ad' H1 locs1 ls C I N X1 P1 S1 (by
    have : jv_lv ad' lv = jv_lv ad lv := List.map_congr_left fun z hz => by rw [jc_rz2 e1 (List.all_eq_true.mp hll z hz)]
    rw [this]; exact L)
  have : st.map (jv_rz ad') = st.map (jv_rz ad) := List.map_congr_left fun z hz => jc_rz2 e1 (List.all_eq_true.mp hlt z hz)
  rw [this] at hz
  exact hz
theorem c_ctorN {y : MethodName} {cc' : ByteArray} {nL' n ix a mc' ms' : Nat} {host : String} {stk : List Value} {S2 : List jv_S} {h2 : jv_H} (as st : List Value) (pc' : Nat) (hp : pc' = pc + 3) (hd1 : 1 ≤ d) (hnl : nL' ≤ 21) (hcb : jv_cb y cc' nL' none n) (hy1 : y.name = "<init>") (hci : jc_cn own ix y host) (hn : as.length = n) (hst : (st.map fun v => v.category).sum ≤ 8) (hlt : st.all (jc_lt S.length) = true) (hll : lv.all (fun z => jc_lt S.length z.2) = true) (hcl : nc + mc' ≤ mc) (hsl : ns + ms' ≤ ms) (hk : as.reverse ++ .ref a :: st = stk) (hd : decode cc pc = .ok (.invokespecial ix, 3))
    (hE : jc_E l y cc' nL' (d - 1) mc' ms' S (.ref a :: as) h S2 h2) (k : jc_V l own cc nL d mc ms S0 S2 (nc + mc') (ns + ms') pc' lv st h2 S' h') : jc_V l own cc nL d mc ms S0 S nc ns pc lv stk h S' h' := by
  subst hp; subst hk
  intro p e s m args below meth c ca D ad0 ad H locs ls C I N X P Sx L
  have hM := hE ca D ad H.size
  obtain ⟨w1, w2⟩ := hci
  obtain ⟨w4, w5, w6⟩ := hcb
  have cw : va_CN (jc_R d mc ms) s args own ix y host cc' nL' none (Cond.code y cc' nL' none :: jv_T) (jc_R (d - 1) mc' ms') mc' ms' n := va_cnB n C.2.2.2.2.2.1 (jv_words w5 [] (fun w hw => by cases hw)) rfl rfl rfl (N.2.1 _ w1) (jv_Tx C w4) w6 ⟨by show d - 1 + 1 ≤ d; omega, by show 8 + (nL' + 11) + 40 * (d - 1) ≤ 40 * d; omega⟩
  have hpre : ∀ U : State, U.heap = H → s.WarmedH U.vm → jc_P ca D ad S (.ref a :: as) h H.size ((.ref a :: as).map (jv_rz ad)).toArray U := fun U hU hW => ⟨rfl, by rw [hU], jc_N N X hW (fun q hq hn => by rw [hU]; exact Sx.2.1 q hq (fun z => by rcases z with ⟨k, hk, e⟩ | z; exact hn ⟨k, hk, e⟩; omega)), X.2.2.2.2, by rw [hU]; exact P⟩
  have hstk : ((as.reverse ++ .ref a :: st).map (jv_rz ad)) = (as.map (jv_rz ad)).reverse ++ .ref (ad a) :: st.map (jv_rz ad) := by rw [List.map_append, List.map_reverse]; rfl
  rw [hstk]
  refine jc_go (va_runIN (As := as.map (jv_rz ad)) (b := ad a) (rest := st.map (jv_rz ad)) ⟨C.1, C.2.1, C.2.2.2.1, C.2.2.2.2.1, C.2.2.2.2.2.1⟩ hM ⟨cw, hy1, jv_Tx C w2⟩ ⟨jc_blind, hpre⟩ rfl (by rw [List.length_map, hn]) L.1 rfl (lv_room (by rw [jv_cats]; exact hst)) hd ⟨hcl, hsl⟩) X Sx (fun ad' H1 locs1 X1 e1 P1 S1 => ?_)
  have hz := k p e s m args below meth c ca D ad0 ad' H1 locs1 ls C I N X1 P1 S1 (by
    have : jv_lv ad' lv = jv_lv ad lv := List.map_congr_left fun z hz => by rw [jc_rz2 e1 (List.all_eq_true.mp hll z hz)]
    rw [this]; exact L)
  have : st.map (jv_rz ad') = st.map (jv_rz ad) := List.map_congr_left fun z hz => jc_rz2 e1 (List.all_eq_true.mp hlt z hz)
  rw [this] at hz
  exact hz
/-- a call of a quiet method without an answer, inside a constructor -/
theorem c_callv {y : MethodName} {cc' : ByteArray} {nL' n ix a ci : Nat} {fs stk : List Value} {f : Option (Unit × jv_H)} {h2 : jv_H} (as st : List Value) (pc' : Nat) (hp : pc' = pc + 3) (hd1 : 1 ≤ d) (hnl : nL' ≤ 21) (hcb : jv_cb y cc' nL' none n) (hcv : jv_cv own ix y) (hS : S[a]? = some (.inr (ci, fs))) (hci : vwCl[ci]?.map (fun q => q.1) = some y.cls) (hn : as.length = n) (hst : (st.map fun v => v.category).sum ≤ 8) (hcl : nc ≤ mc) (hsl : ns ≤ ms) (hk : as.reverse ++ .ref a :: st = stk) (hd : decode cc pc = .ok (.invokevirtual ix, 3))
    (hE : jv_E l y cc' nL' none (d - 1) S jv_rv (.ref a :: as) h f) (hf : f = some ((), h2)) (k : jc_V l own cc nL d mc ms S0 S nc ns pc' lv st h2 S' h') : jc_V l own cc nL d mc ms S0 S nc ns pc lv stk h S' h' := by
  subst hp; subst hk
  intro p e s m args below meth c ca D ad0 ad H locs ls C I N X P Sx L
  have hM := hE _ hf ca D ad
  obtain ⟨w1, w2, w3⟩ := hcv
  obtain ⟨w4, w5, w6⟩ := hcb
  cases hcl' : vwCl[ci]? with
  | none => rw [hcl'] at hci; cases hci
  | some r =>
    rw [hcl'] at hci
    have hrc : r.1 = y.cls := Option.some.inj hci
    have cw : CallW (jc_R d mc ms) s args own y.cls ix y cc' nL' none (Cond.code y cc' nL' none :: jv_T) (jv_R (d - 1)) 0 0 n := cwV n C.2.2.2.2.2.1 (jv_words w5 [.methodLink own ix y, .instanceMethod y, .selects y.cls y y, .initialized y.cls] (fun w hw => by
      simp only [List.mem_cons, List.not_mem_nil, or_false] at hw
      rcases hw with rfl | rfl | rfl | rfl
      · exact w1
      · exact w2
      · exact w3
      · exact w4)) rfl rfl rfl ⟨rfl, w6⟩ ⟨by show d - 1 + 1 ≤ d; omega, by show 8 + (nL' + 11) + 40 * (d - 1) ≤ 40 * d; omega⟩
    have hpre : ∀ U : State, U.heap = H → s.WarmedH U.vm → jv_P ca D ad S (.ref a :: as) h ((.ref a :: as).map (jv_rz ad)).toArray U := fun U hU hW => ⟨rfl, jc_N N X hW (fun q hq hn => by rw [hU]; exact Sx.2.1 q hq (fun z => by rcases z with ⟨k, hk, e⟩ | z; exact hn ⟨k, hk, e⟩; omega)), X.2.2.2.2, by rw [hU]; exact P⟩
    have hrec := va_recv N.1 P hcl' (jv_w_at (ca := ca) (ad := ad) (h := h) hS)
    rw [hrc] at hrec
    have hstk : ((as.reverse ++ .ref a :: st).map (jv_rz ad)) = (as.map (jv_rz ad)).reverse ++ .ref (ad a) :: st.map (jv_rz ad) := by rw [List.map_append, List.map_reverse]; rfl
    rw [hstk]
    have hr := va_runV (l := l) (p := p) (e := e) (m := m) (below := below) (meth := meth) (c := c) (H := H) (locs := locs) (cells := nc) (slots := ns) (g := F0 m pc ls ((as.map (jv_rz ad)).reverse ++ .ref (ad a) :: st.map (jv_rz ad))) (C := y.cls) (As := as.map (jv_rz ad)) (b := ad a) (rest := st.map (jv_rz ad)) ⟨C.1, C.2.1, C.2.2.2.1, C.2.2.2.2.1, C.2.2.2.2.2.1⟩ hM cw ⟨jv_blind, hrec, hpre⟩ rfl (by rw [List.length_map, hn]) L.1 rfl (lv_room (by rw [jv_cats]; exact hst)) hd ⟨hcl, hsl⟩
    intro T hT X0
    obtain ⟨v, st₀, t, T', L', h0, X', hL, e1, e2, ⟨hv, hP, hz, hk⟩, stp⟩ := hr T hT X0
    cases hv
    rw [h0] at hz hk
    have hin : ∀ q, jv_A ad S q → jc_A ad0 S0 s.heap.size q := by
      rintro q ⟨k, hk, rfl⟩
      exact jc_X_A X hk
    obtain ⟨t2, a1, b1⟩ := k p e s m args below meth c ca D ad0 ad T'.heap (locs ++ L') ls C I N X (by rw [e1]; exact hP) ⟨Nat.le_trans Sx.1 (by rw [e1]; exact hz), fun q q1 q2 => by rw [e1, hk q (Nat.lt_of_lt_of_le q1 Sx.1) (fun z => q2 (hin q z))]; exact Sx.2.1 q q1 q2, fun q hq => by
      rcases List.mem_append.mp hq with g | g
      · exact Sx.2.2 q g
      · exact hin _ (hL q g)⟩ L T' rfl X'
    exact ⟨t2, stp t2 a1, b1⟩
end JD
