/-! the law from its entry to its loop -/
theorem jv_ns_in : ∀ w ∈ jv_ns, w ∈ lw_tbl ∧ w.onTables = true := List.forall_mem_cons.mpr ⟨⟨List.mem_of_getElem? (i := 77) (by decide +kernel), rfl⟩, List.forall_mem_cons.mpr ⟨⟨List.mem_of_getElem? (i := 136) (by decide +kernel), rfl⟩, List.forall_mem_cons.mpr ⟨⟨List.mem_of_getElem? (i := 141) (by decide +kernel), rfl⟩, List.forall_mem_cons.mpr ⟨⟨List.mem_of_getElem? (i := 177) (by decide +kernel), rfl⟩, List.forall_mem_cons.mpr ⟨⟨List.mem_of_getElem? (i := 401) (by decide +kernel), rfl⟩, List.forall_mem_cons.mpr ⟨⟨List.mem_of_getElem? (i := 467) (by decide +kernel), rfl⟩, List.forall_mem_cons.mpr ⟨⟨List.mem_of_getElem? (i := 520) (by decide +kernel), rfl⟩, List.forall_mem_cons.mpr ⟨⟨List.mem_of_getElem? (i := 630) (by decide +kernel), rfl⟩, List.forall_mem_cons.mpr ⟨⟨List.mem_of_getElem? (i := 687) (by decide +kernel), rfl⟩, List.forall_mem_cons.mpr ⟨⟨List.mem_of_getElem? (i := 726) (by decide +kernel), rfl⟩, fun _ h => absurd h List.not_mem_nil⟩⟩⟩⟩⟩⟩⟩⟩⟩⟩
theorem lj_K {s : State} {args : Array Value} (hts : ∀ w ∈ jv_T, w.before args s = true) : ∃ (D : va_G) (ca : Bool → ClassId), va_K D vwCl (jv_ty ca) s := by
  have hex : ∀ k : Nat, ∃ (cC : ClassId), ∃ (iS : Nat → Nat), ∀ q : vw_C, vwCl[k]? = some q → u_Kn s q.1 q.2.1 q.2.2 cC iS := by
    intro k
    match k with
    | 0 => obtain ⟨c, f, h⟩ := u_known (C := RX0) (T := TX0) (N := 5) (n := 5) hts iw_X0 (hts _ mw_241); exact ⟨c, f, fun q hq => by cases hq; exact h⟩
    | 1 => obtain ⟨c, f, h⟩ := u_known (C := RX1) (T := TX1) (N := 2) (n := 2) hts iw_X1 (hts _ mw_176); exact ⟨c, f, fun q hq => by cases hq; exact h⟩
    | 2 => obtain ⟨c, f, h⟩ := u_known (C := RX2) (T := TX2) (N := 9) (n := 9) hts iw_X2 (hts _ mw_76); exact ⟨c, f, fun q hq => by cases hq; exact h⟩
    | 3 => obtain ⟨c, f, h⟩ := u_known (C := RX3) (T := TX3) (N := 2) (n := 2) hts iw_X3 (hts _ mw_190); exact ⟨c, f, fun q hq => by cases hq; exact h⟩
    | 4 => obtain ⟨c, f, h⟩ := u_known (C := RX4) (T := TX4) (N := 2) (n := 2) hts iw_X4 (hts _ mw_285); exact ⟨c, f, fun q hq => by cases hq; exact h⟩
    | 5 => obtain ⟨c, f, h⟩ := u_known (C := RX5) (T := TX5) (N := 4) (n := 4) hts iw_X5 (hts _ mw_265); exact ⟨c, f, fun q hq => by cases hq; exact h⟩
    | 6 => obtain ⟨c, f, h⟩ := u_known (C := RX6) (T := TX6) (N := 7) (n := 7) hts iw_X6 (hts _ mw_211); exact ⟨c, f, fun q hq => by cases hq; exact h⟩
    | 7 => obtain ⟨c, f, h⟩ := u_known (C := RX7) (T := TX7) (N := 10) (n := 10) hts iw_X7 (hts _ mw_135); exact ⟨c, f, fun q hq => by cases hq; exact h⟩
    | 8 => obtain ⟨c, f, h⟩ := u_known (C := RX8) (T := TX8) (N := 12) (n := 12) hts iw_X8 (hts _ mw_68); exact ⟨c, f, fun q hq => by cases hq; exact h⟩
    | 9 => obtain ⟨c, f, h⟩ := u_known (C := RX9) (T := TX9) (N := 31) (n := 31) hts iw_X9 (hts _ mw_809); exact ⟨c, f, fun q hq => by cases hq; exact h⟩
    | k + 10 => exact ⟨0, fun _ => 0, fun q hq => by simp [vwCl] at hq⟩
  obtain ⟨dC, h1⟩ := Classical.skolem.mp hex
  obtain ⟨dI, h2⟩ := Classical.skolem.mp h1
  obtain ⟨cI, kI, pI, i1, i2, i3⟩ := Cond.arrayClass_spec (hts _ mw_133)
  obtain ⟨cZ, kZ, pZ, z1, z2, z3⟩ := Cond.arrayClass_spec (hts _ mw_908)
  refine ⟨(dC, dI), fun z => if z then cZ else cI, h2, fun k q hk => ?_⟩
  match k, hk with
  | 0, hk => cases hk; exact ⟨fun n z => ⟨fun k h => (by cases h), kI, i2, pI, i3⟩, i1⟩
  | 1, hk => cases hk; exact ⟨fun n z => ⟨fun k h => (by cases h), kZ, z2, pZ, z3⟩, z1⟩
  | k + 2, hk => simp [jv_ty] at hk
theorem lj_stat {s : State} {args : Array Value} (i : Nat) (hl : (Cond.laysStatic RX7 (jv_sn i) "[I").before args s = true) (hini : (Cond.initialized RX7).before args s = true) (harr : (Cond.arrayOf (.static RX7 (jv_sn i) "[I") .int).before args s = true) (hlen : (Cond.eq (.length (.static RX7 (jv_sn i) "[I")) (.int 3)).before args s = true)
    (h0 : (Cond.eq (.elem (.static RX7 (jv_sn i) "[I") (.int 0)) (.int (jv_sc i 0))).before args s = true) (h1 : (Cond.eq (.elem (.static RX7 (jv_sn i) "[I") (.int 1)) (.int (jv_sc i 1))).before args s = true) (h2 : (Cond.eq (.elem (.static RX7 (jv_sn i) "[I") (.int 2)) (.int (jv_sc i 2))).before args s = true) :
    ∃ t : Nat, va_Z RX7 (jv_sn i) "[I" (.ref t) (fun _ => False) s s.heap ∧ va_T .int t 3 (fun j => .int (jv_sc i j)) (fun _ => False) s s.heap := by
  obtain ⟨t, e, hT⟩ := va_Tof (A := fun _ => False) (f := fun j => .int (jv_sc i j)) (N := 3) (by decide) harr (va_eqt hlen) (fun j hj => by
    match j, hj with
    | 0, _ => exact va_eqt h0
    | 1, _ => exact va_eqt h1
    | 2, _ => exact va_eqt h2) (fun _ _ h => h)
  exact ⟨t, va_Zref hl hini e (fun _ _ h => h), hT⟩
theorem lj_N {ca : Bool → ClassId} {D : va_G} {ad ad' : Nat → Nat} {S S' : List jv_S} {s : State} (N : jv_N ca D ad S s) (hg : ∀ k, k < S'.length → s.heap.size ≤ ad' k) (hk : ∀ k, 1000 ≤ k → ad' k = ad k) : jv_N ca D ad' S' s := by
  refine ⟨N.1, N.2.1, fun i hi => ?_⟩
  rw [hk (1000 + i) (by omega)]
  have hno : ∀ a, a < s.heap.size → ¬ jv_A ad' S' a := by
    rintro a ha ⟨k, h1, rfl⟩
    have := hg k h1
    omega
  obtain ⟨cf, kf, fi, f, a, cell, z1, z2, z3, z4, z5, z6, z7, z8⟩ := (N.2.2 i hi).1
  obtain ⟨cell', t1, t2, t3, t4, t5, t6, t7⟩ := (N.2.2 i hi).2
  exact ⟨⟨cf, kf, fi, f, a, cell, z1, z2, z3, z4, z5, z6, z7, hno a (Array.getElem?_eq_some_iff.mp z5).1⟩, ⟨cell', t1, t2, t3, t4, t5, t6, hno _ (Array.getElem?_eq_some_iff.mp t1).1⟩⟩
/-- what stands on the way: cells of the shape S, all of them new -/
def lj_O (ca : Bool → ClassId) (D : va_G) (ad : Nat → Nat) (b : Nat) (S : List jv_S) (h : jv_H) (s : State) (H : Heap) (locs : List Loc) : Prop :=
  jv_N ca D ad S s ∧ jv_J ad S ∧ (∀ k, k < S.length → s.heap.size ≤ ad k) ∧ ad 2000 = b ∧ va_P D vwCl (jv_w ca ad h S) H ∧ va_S (fun q => s.heap.size ≤ q) s.heap H locs
theorem lj_OD {ca : Bool → ClassId} {D : va_G} {ad : Nat → Nat} {b : Nat} {S : List jv_S} {h : jv_H} {s : State} {H : Heap} {locs : List Loc} (O : lj_O ca D ad b S h s H locs) : va_D (fun q => s.heap.size ≤ q) (jv_w ca ad h S) := (jv_D O.2.1 h).weaken fun k q hk _ => by
  obtain ⟨a1, a2⟩ := jv_w_of hk
  rw [a2]
  exact O.2.2.1 k a1
theorem jc_fresh {ca : Bool → ClassId} {ad : Nat → Nat} {h : jv_H} {n ci : Nat} {fs : List Value} (hz : ∀ j, h.1 n j = 0 ∧ h.2 n j = 0) (hf0 : fs.all (fun v => match v with | .int x => x == 0 | .long x => x == 0 | .null => true | _ => false) = true) : (Sum.inr (ci, fs) : va_E) = jv_e ca ad h n (.inr (ci, fs)) := by
  simp only [jv_e]
  congr 2
  apply List.ext_getElem?
  intro i
  rw [List.getElem?_mapIdx]
  cases hv : fs[i]? with
  | none => rfl
  | some v =>
    have hb := List.all_eq_true.mp hf0 v (List.mem_of_getElem? hv)
    cases v with
    | int x => simp at hb; simp [jv_f, hz, hb]
    | long x => simp at hb; simp [jv_f, hz, hb]
    | null => rfl
    | ref r => simp at hb
    | _ => simp at hb
section LS
variable {p : Program} {l : Launch} {e : Env} {s : State} {m : MethodId} {below : List Frame} {meth : Method} {c : Code} {b L : Nat} {xs : Nat → Int32} {ca : Bool → ClassId} {D : va_G} {ad : Nat → Nat} {S : List jv_S} {h : jv_H} {H : Heap} {locs : List Loc} {ls : Array Slot} {nc ns pc : Nat} {rest : List Value} {Q : State → Prop}
theorem lj_Tb (C0 : lw_At p s m meth c b L xs) : ∀ w ∈ jv_T, w.before #[Value.ref b] s = true := fun w hw => C0.2.2.2.2.2.1 w (List.mem_filter.mp hw).1
theorem lj_new {ix ci n : Nat} {Cn : String} {T : u_T} {N : Nat} {ty : Nat → FieldType} {fs : List Value} (C0 : lw_At p s m meth c b L xs) (O : lj_O ca D ad b S h s H locs) (hn : n = S.length) (hs : n < 1000) (hc : vwCl[ci]? = some (Cn, T, N)) (hin : ∀ w ∈ u_ws Cn T N, w ∈ jv_T) (hty : ∀ k, k < N → parseFieldDescriptor (T k).2.2.1 = some (ty k)) (h1 : Cond.classLink RL ix Cn ∈ jv_T) (h2 : Cond.instantiable Cn N ∈ jv_T) (h3 : Cond.initialized Cn ∈ jv_T) (hfs : ∀ j, j < N → defaultValue (ty j) = vp_V fs j) (hz : ∀ j, h.1 n j = 0 ∧ h.2 n j = 0) (hf0 : fs.all (fun v => match v with | .int x => x == 0 | .long x => x == 0 | .null => true | _ => false) = true) (hr : jc_nr n S = true) (hcl : nc + 1 ≤ 600000) (hsl : ns + N ≤ 7302250) (hd : decode cL_law pc = .ok (.new ix, 3))
    (k : ∀ (q : Nat) (H1 : Heap), lj_O ca D (jc_ad ad n q) b (S ++ [.inr (ci, fs)]) h s H1 locs → W p l e room_1 s m #[Value.ref b] below meth c H1 locs (nc + 1) (ns + N) Q (F0 m (pc + 3) ls (.ref q :: rest))) : W p l e room_1 s m #[Value.ref b] below meth c H locs nc ns Q (F0 m pc ls rest) := by
  obtain ⟨hx, hb, hr', hml, hown, hts, hX, hbl, hlocks, hgv⟩ := id C0
  obtain ⟨N0, J0, G0, B0, P0, S0⟩ := id O
  refine va_new (ci := ci) (fs := fs) hx hb (lj_Tb C0) hin ty hty hown (lj_Tb C0 _ h1) (lj_Tb C0 _ h2) (lj_Tb C0 _ h3) N0.1 P0 (lj_OD O) S0 (fun q hq => hq) hc hfs hcl hsl hd (fun q H1 P1 D1 S1 => k q H1 ?_)
  have hx := jc_fresh (ca := ca) (ad := jc_ad ad n q) (ci := ci) hz hf0
  rw [jc_push hn hr hx] at P1 D1
  have hlen : (S ++ [(.inr (ci, fs) : jv_S)]).length = S.length + 1 := by simp
  have hg : ∀ k, k < (S ++ [(.inr (ci, fs) : jv_S)]).length → s.heap.size ≤ jc_ad ad n q k := fun k hk => D1.2 k _ (jv_w_at (List.getElem?_eq_getElem hk))
  exact ⟨lj_N N0 hg (fun k hk => by simp [jc_ad]; omega), jc_J D1, hg, by rw [← B0]; simp [jc_ad]; omega, P1, S1⟩
theorem lj_ctor {y : MethodName} {cc' : ByteArray} {nL' ix a mc' ms' : Nat} {S2 : List jv_S} {h2 : jv_H} (C0 : lw_At p s m meth c b L xs) (O : lj_O ca D ad b S h s H locs) (hls : ls.size = 4) (hnl : nL' ≤ 21) (hcb : jv_cb y cc' nL' none 0) (hy1 : y.name = "<init>") (hci : jc_ci RL ix y) (hst : (rest.map fun v => v.category).sum ≤ 8) (hcl : nc + mc' ≤ 600000) (hsl : ns + ms' ≤ 7302250) (hd : decode cL_law pc = .ok (.invokespecial ix, 3)) (hE : jc_E l y cc' nL' 60 mc' ms' S [.ref a] h S2 h2)
    (k : ∀ (ad' : Nat → Nat) (H1 : Heap) (locs1 : List Loc), (∀ k, k < S.length → ad' k = ad k) → lj_O ca D ad' b S2 h2 s H1 locs1 → W p l e room_1 s m #[Value.ref b] below meth c H1 locs1 (nc + mc') (ns + ms') Q (F0 m (pc + 3) ls rest)) : W p l e room_1 s m #[Value.ref b] below meth c H locs nc ns Q (F0 m pc ls (.ref (ad a) :: rest)) := by
  obtain ⟨hx, hb, hr', hml, hown, hts, hX, hbl, hlocks, hgv⟩ := id C0
  obtain ⟨N0, J0, G0, B0, P0, S0⟩ := id O
  have hM := hE ca D ad H.size
  obtain ⟨w1, w2⟩ := hci
  obtain ⟨w4, w5, w6⟩ := hcb
  have cw := cwI (R := room_1) (s := s) (args := #[Value.ref b]) (own := RL) (index := ix) (y := y) (bytes := cc') (maxL := nL') (ws := Cond.code y cc' nL' none :: jv_T) (rm := jc_R 60 mc' ms') (mc := mc') (ms := ms') 0 (lj_Tb C0) (jv_words w5 [] (fun w hw => by cases hw)) rfl rfl rfl (lj_Tb C0 _ w4) (lj_Tb C0 _ w1) (lj_Tb C0 _ w2) hy1 w6 ⟨by show 60 + 1 ≤ 2048; omega, by show 8 + (nL' + 11) + 40 * 60 ≤ 84000; omega⟩
  have hpre : ∀ U : State, U.heap = H → s.WarmedH U.vm → jc_P ca D ad S [.ref a] h H.size (([.ref a] : List Value).map (jv_rz ad)).toArray U := fun U hU hW => ⟨rfl, by rw [hU], jv_N_moved N0 hW (fun q hq hn => by rw [hU]; exact S0.2.1 q hq (Nat.not_le.mpr hq)), J0, by rw [hU]; exact P0⟩
  have hr := va_runI (l := l) (p := p) (e := e) (m := m) (below := below) (meth := meth) (c := c) (H := H) (locs := locs) (cells := nc) (slots := ns) (g := F0 m pc ls (.ref (ad a) :: rest)) (cc := cL_law) (Ts := jv_T) (As := []) (b := ad a) (rest := rest) ⟨hx, hb, hml, hown, lj_Tb C0⟩ hM cw ⟨jc_blind, hpre⟩ rfl rfl hls rfl (lv_room hst) hd ⟨hcl, hsl⟩
  intro T hT X0
  obtain ⟨v, st₀, t, T', L', h0, X', hL, e1, e2, ⟨hv, ⟨ad', Y, hP⟩, hz, hk⟩, stp⟩ := hr T hT X0
  cases hv
  rw [h0] at hz hk Y
  have hin : ∀ q, jc_A ad S H.size q → s.heap.size ≤ q := by
    rintro q (⟨k, hk, rfl⟩ | hb)
    · exact G0 k hk
    · exact Nat.le_trans S0.1 hb
  have hg : ∀ k, k < S2.length → s.heap.size ≤ ad' k := by
    intro k hk
    by_cases h9 : k < S.length
    · rw [Y.2.1 k h9]; exact G0 k h9
    · exact Nat.le_trans S0.1 (Y.2.2.2.1 k (by omega) hk)
  obtain ⟨t2, a1, b1⟩ := k ad' T'.heap (locs ++ L') Y.2.1 ⟨lj_N N0 hg Y.2.2.1, Y.2.2.2.2, hg, by rw [Y.2.2.1 2000 (by omega)]; exact B0, by rw [e1]; exact hP, ⟨Nat.le_trans S0.1 (by rw [e1]; exact hz), fun q q1 q2 => by rw [e1, hk q (Nat.lt_of_lt_of_le q1 S0.1) (fun z => q2 (hin q z))]; exact S0.2.1 q q1 q2, fun q hq => by
    rcases List.mem_append.mp hq with g | g
    · exact S0.2.2 q g
    · exact hin _ (hL q g)⟩⟩ T' rfl X'
  exact ⟨t2, stp t2 a1, b1⟩
end LS
set_option maxRecDepth 20000 in
theorem lw_begin {Inv : jv_H → Prop} (hok : lw_ok Inv) {hb : jv_H} (hbe : f1_begin_20_1 JZ = some ((), hb)) (hbz : ∀ k, 40 ≤ k → ∀ j, hb.1 k j = 0 ∧ hb.2 k j = 0) (hI : Inv (jv_p hb 47 (Int32.toNatClampNeg (19 : Int32)) (0 : Int32))) {p : Program} {e : Env} {s : State} {m : MethodId} {below : List Frame} {meth : Method} {c : Code} (l : Launch) {b L : Nat} {xs : Nat → Int32} (hL : L ≤ 2048) (C0 : lw_At p s m meth c b L xs) : W p l e room_1 s m #[Value.ref b] below meth c s.heap [] 0 0 (lw_Z below #[Value.ref b] s) (entryFrame m ([Value.ref b] : List Value).toArray 4) := by
  obtain ⟨hx, hb0, hr, hml, hown, hts, hX, hbl, hlocks, hgv⟩ := id C0
  have hs := flat_of_before _ hgv
  obtain ⟨D, ca, hK⟩ := lj_K (lj_Tb C0)
  obtain ⟨t0, z0, T0⟩ := lj_stat (s := s) (args := #[Value.ref b]) 0 (hts _ (List.mem_of_getElem? (i := 435) (by decide +kernel))) (lj_Tb C0 _ mw_55) (hs _ (by decide +kernel)) (hs _ (by decide +kernel)) (hs _ (by decide +kernel)) (hs _ (by decide +kernel)) (hs _ (by decide +kernel))
  obtain ⟨t1, z1, T1⟩ := lj_stat (s := s) (args := #[Value.ref b]) 1 (hts _ (List.mem_of_getElem? (i := 437) (by decide +kernel))) (lj_Tb C0 _ mw_55) (hs _ (by decide +kernel)) (hs _ (by decide +kernel)) (hs _ (by decide +kernel)) (hs _ (by decide +kernel)) (hs _ (by decide +kernel))
  obtain ⟨t2, z2, T2⟩ := lj_stat (s := s) (args := #[Value.ref b]) 2 (hts _ (List.mem_of_getElem? (i := 439) (by decide +kernel))) (lj_Tb C0 _ mw_55) (hs _ (by decide +kernel)) (hs _ (by decide +kernel)) (hs _ (by decide +kernel)) (hs _ (by decide +kernel)) (hs _ (by decide +kernel))
  obtain ⟨t3, z3, T3⟩ := lj_stat (s := s) (args := #[Value.ref b]) 3 (hts _ (List.mem_of_getElem? (i := 441) (by decide +kernel))) (lj_Tb C0 _ mw_55) (hs _ (by decide +kernel)) (hs _ (by decide +kernel)) (hs _ (by decide +kernel)) (hs _ (by decide +kernel)) (hs _ (by decide +kernel))
  obtain ⟨ad, hA0, hA1, hA2, hA3, hA4⟩ : ∃ ad : Nat → Nat, ad 1000 = t0 ∧ ad 1001 = t1 ∧ ad 1002 = t2 ∧ ad 1003 = t3 ∧ ad 2000 = b := ⟨fun k => if k = 1000 then t0 else if k = 1001 then t1 else if k = 1002 then t2 else if k = 1003 then t3 else b, rfl, rfl, rfl, rfl, rfl⟩
  have hno : ∀ q, jv_A ad [] q → False := by rintro q ⟨k, hk, -⟩; exact absurd hk (by simp)
  have hN : jv_N ca D ad [] s := by
    refine ⟨hK, fun w hw => va_Nw.of (jv_ns_in w hw).2 (hts w (jv_ns_in w hw).1), fun i hi => ?_⟩
    rcases (show i = 0 ∨ i = 1 ∨ i = 2 ∨ i = 3 by omega) with rfl | rfl | rfl | rfl
    · rw [show ad (1000 + 0) = t0 from hA0]; exact ⟨z0.narrow hno, T0.narrow hno⟩
    · rw [show ad (1000 + 1) = t1 from hA1]; exact ⟨z1.narrow hno, T1.narrow hno⟩
    · rw [show ad (1000 + 2) = t2 from hA2]; exact ⟨z2.narrow hno, T2.narrow hno⟩
    · rw [show ad (1000 + 3) = t3 from hA3]; exact ⟨z3.narrow hno, T3.narrow hno⟩
  have O : lj_O ca D ad b [] JZ s s.heap [] := ⟨hN, fun i j hi => absurd hi (by simp), fun k hk => absurd hk (by simp), hA4, fun k q hk => by simp [jv_w] at hk, va_S.rf⟩
  have hl := lv_entry ([.ref b]) (n := 4) (Nat.le_of_ble_eq_true rfl)
  rw [lg_entry_eq]
  generalize (lg_sl ([.ref b]) ++ List.replicate (4 - (lg_sl ([.ref b])).length) Slot.unset).toArray = ls at hl ⊢
  have hl : lv_has ls 4 [(0, .ref b)] := hl
  refine lj_new (n := 0) (ci := 8) (ty := tyX8) (fs := [.null, .null, .null, .null, .null, .null, .null, .null, .null, .null, .null, .int 0]) C0 O rfl (by decide) rfl iw_X8 tyX8_ok mw_67 mw_68 mw_53 (fun j hj => by rcases (show j = 0 ∨ j = 1 ∨ j = 2 ∨ j = 3 ∨ j = 4 ∨ j = 5 ∨ j = 6 ∨ j = 7 ∨ j = 8 ∨ j = 9 ∨ j = 10 ∨ j = 11 by omega) with rfl | rfl | rfl | rfl | rfl | rfl | rfl | rfl | rfl | rfl | rfl | rfl <;> rfl) (fun _ => ⟨rfl, rfl⟩) rfl rfl (by decide) (by decide) dL_law_0 (fun q H O => ?_)
  refine lv_dup hx hb0 dL_law_3 rfl ?_
  have hq : jc_ad ad 0 q 0 = q := rfl
  generalize jc_ad ad 0 q = ad1 at O hq
  subst hq
  refine lj_ctor (a := 0) C0 O hl.1 (Nat.le_of_ble_eq_true rfl) cb_X8_init rfl ci_L_9 (Nat.le_of_ble_eq_true rfl) (by decide) (by decide) dL_law_4 (k8_1 (by decide) hbe) (fun ad2 H locs e2 O => ?_)
  rw [← e2 0 (by decide)]
  refine lv_astore_n (lv' := [(1, .ref (ad2 0)), (0, .ref b)]) hx hb0 dL_law_7 rfl hl (by decide) rfl (fun ls hl => ?_)
  refine lj_new (n := 40) (ci := 9) (ty := tyX9) (fs := [.int 0, .int 0, .null, .null, .null, .null, .null, .null, .null, .null, .null, .null, .null, .int 0, .long 0, .null, .int 0, .int 0, .int 0, .int 0, .int 0, .int 0, .int 0, .null, .null, .null, .null, .null, .null, .null, .null]) C0 O rfl (by decide) rfl iw_X9 tyX9_ok mw_808 mw_809 mw_62 (fun j hj => by rcases (show j = 0 ∨ j = 1 ∨ j = 2 ∨ j = 3 ∨ j = 4 ∨ j = 5 ∨ j = 6 ∨ j = 7 ∨ j = 8 ∨ j = 9 ∨ j = 10 ∨ j = 11 ∨ j = 12 ∨ j = 13 ∨ j = 14 ∨ j = 15 ∨ j = 16 ∨ j = 17 ∨ j = 18 ∨ j = 19 ∨ j = 20 ∨ j = 21 ∨ j = 22 ∨ j = 23 ∨ j = 24 ∨ j = 25 ∨ j = 26 ∨ j = 27 ∨ j = 28 ∨ j = 29 ∨ j = 30 by omega) with rfl | rfl | rfl | rfl | rfl | rfl | rfl | rfl | rfl | rfl | rfl | rfl | rfl | rfl | rfl | rfl | rfl | rfl | rfl | rfl | rfl | rfl | rfl | rfl | rfl | rfl | rfl | rfl | rfl | rfl | rfl <;> rfl) (fun j => hbz 40 (by decide) j) rfl (by decide +kernel) (by decide) (by decide) dL_law_8 (fun q H O => ?_)
  refine lv_dup hx hb0 dL_law_11 rfl ?_
  have hq : jc_ad ad2 40 q 40 = q := by simp [jc_ad]
  have hq0 : jc_ad ad2 40 q 0 = ad2 0 := rfl
  generalize jc_ad ad2 40 q = ad3 at O hq hq0
  subst hq
  rw [← hq0] at hl
  refine lj_ctor (a := 40) C0 O hl.1 (Nat.le_of_ble_eq_true rfl) cb_X9_init rfl ci_L_12 (Nat.le_of_ble_eq_true rfl) (by decide) (by decide) dL_law_12 (k9_13 (by decide) hbz) (fun ad4 H locs e4 O => ?_)
  rw [← e4 40 (by decide)]
  rw [← e4 0 (by decide)] at hl
  refine lv_astore_n (lv' := [(2, .ref (ad4 40)), (1, .ref (ad4 0)), (0, .ref b)]) hx hb0 dL_law_15 rfl hl (by decide) rfl (fun ls hl => ?_)
  refine lv_iconst (v := 0) hx hb0 dL_law_16 ic_0 ?_
  refine lv_istore_n (lv' := [(3, .int 0), (2, .ref (ad4 40)), (1, .ref (ad4 0)), (0, .ref b)]) hx hb0 dL_law_17 rfl hl (by decide) rfl (fun ls hl => ?_)
  obtain ⟨N4, J4, G4, B4, P4, S4⟩ := O
  have hl := lv_sub hl [3, 2, 1, 0] rfl
  refine lj_loop hok hL (L + 5) 0 _ (by omega) (by omega) hI p e s m below meth c ca D ad4 H locs ls C0 N4 J4 G4 B4 P4 S4 ?_
  rw [← B4] at hl
  exact hl
