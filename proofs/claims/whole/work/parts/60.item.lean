/-! hill: what a text tells; the class reads it -/
def addT (E : Nat → Nat → Nat) (n a b c : Nat) : Nat → Nat → Nat := fun i t => if i = 6 ∧ t = n then a else if i = 0 ∧ t = n then b else if i = 1 ∧ t = n then c else if i = 2 ∧ t = n then 0 else E i t
def addN (E : Nat → Nat → Nat) (m a b c : Nat) : Nat → Nat → Nat := fun i t => if i = 3 ∧ t = m then a else if i = 4 ∧ t = m then b else if i = 5 ∧ t = m then c else E i t
def addX (E : Nat → Nat → Nat) (a b : Nat) : Nat → Nat → Nat := fun i t => if i = 2 ∧ t = a then E 2 a ||| 2 ^ b else if i = 2 ∧ t = b then E 2 b ||| 2 ^ a else E i t
/-- a number that may stand: letter c, n tempers so far, place so, those ahead of it x -/
def okn (c n so : Nat) (x : Nat → Nat) (v : Nat) : Bool := if c = 116 then (if so = 0 then decide (1 ≤ v) && decide (v ≤ 60) else if so = 1 then decide (0 ≤ v) && decide (v ≤ 5) else decide (0 ≤ v) && decide (v ≤ 40)) else if c = 110 then (if so = 0 then decide (1 ≤ v) && decide (v ≤ 9) else if so = 1 then decide (1 ≤ v) && decide (v ≤ 3) else decide (1 ≤ v) && decide (v ≤ 99)) else decide (v < n) && (decide (so = 0) || !decide (v = x 0))
section PU
variable (T : Nat → Nat) (L : Nat)
def num (p : Nat) (ok : Nat → Bool) (k : Nat → Nat → Nat ⊕ (Nat × Nat × Nat × (Nat → Nat → Nat))) : Nat ⊕ (Nat × Nat × Nat × (Nat → Nat → Nat)) := if tk T L (tq T L p) = 2 ∧ ok (tv T L (tq T L p)) = true then k (tv T L (tq T L p)) (te T L (tq T L p)) else .inl (tq T L p)
def sem (p : Nat) (r : Nat × Nat × (Nat → Nat → Nat)) : Nat ⊕ (Nat × Nat × Nat × (Nat → Nat → Nat)) := if tk T L (tq T L p) = 3 then .inr (te T L (tq T L p), r) else .inl (tq T L p)
def itm (p n m : Nat) (E : Nat → Nat → Nat) : Nat ⊕ (Nat × Nat × Nat × (Nat → Nat → Nat)) :=
  if tk T L (tq T L p) = 1 ∧ te T L (tq T L p) - tq T L p = 1 then
    if T (tq T L p) = 116 then
      if n < 6 then num T L (te T L (tq T L p)) (okn 116 n 0 (fun _ => 0)) fun a p1 => num T L p1 (okn 116 n 1 (ext (fun _ => 0) 0 a)) fun b p2 => num T L p2 (okn 116 n 2 (ext (ext (fun _ => 0) 0 a) 1 b)) fun c p3 => sem T L p3 (n + 1, m, addT E n a b c) else .inl (tq T L p)
    else if T (tq T L p) = 110 then
      if m < 4 then num T L (te T L (tq T L p)) (okn 110 n 0 (fun _ => 0)) fun a p1 => num T L p1 (okn 110 n 1 (ext (fun _ => 0) 0 a)) fun b p2 => num T L p2 (okn 110 n 2 (ext (ext (fun _ => 0) 0 a) 1 b)) fun c p3 => sem T L p3 (n, m + 1, addN E m a b c) else .inl (tq T L p)
    else if T (tq T L p) = 120 then num T L (te T L (tq T L p)) (okn 120 n 0 (fun _ => 0)) fun a p1 => num T L p1 (okn 120 n 1 (ext (fun _ => 0) 0 a)) fun b p2 => sem T L p2 (n, m, addX E a b)
    else .inl (tq T L p)
  else .inl (tq T L p)
end PU
def Dc (h : jv_H) (n m : Nat) (E : Nat → Nat → Nat) : Prop := h.1 10 0 = nI n ∧ h.1 10 1 = nI m ∧ (∀ t, t < n → h.1 11 t = nI (E 6 t) ∧ h.1 12 t = nI (E 0 t) ∧ h.1 13 t = nI (E 1 t) ∧ h.1 14 t = nI (E 2 t)) ∧ (∀ t, n ≤ t → t < 6 → h.1 14 t = 0) ∧ ∀ k, k < m → h.1 15 k = nI (E 3 k) ∧ h.1 16 k = nI (E 4 k) ∧ h.1 17 k = nI (E 5 k)
def Ed (n m : Nat) (E : Nat → Nat → Nat) : Prop := n ≤ 6 ∧ m ≤ 4 ∧ (∀ t, t < n → E 6 t ≤ 60 ∧ E 0 t ≤ 5 ∧ E 1 t ≤ 40 ∧ E 2 t < 2 ^ n) ∧ (∀ k, k < m → (1 ≤ E 3 k ∧ E 3 k ≤ 9) ∧ (1 ≤ E 4 k ∧ E 4 k ≤ 3) ∧ 1 ≤ E 5 k ∧ E 5 k ≤ 99) ∧ (∀ s t, s < n → t < n → (E 2 s).testBit t = (E 2 t).testBit s) ∧ ∀ t, t < n → (E 2 t).testBit t = false
theorem Dc.eq {h h' : jv_H} {n m : Nat} {E : Nat → Nat → Nat} (a : Dc h n m E) (f : ∀ k, 10 ≤ k → k ≤ 17 → h'.1 k = h.1 k) : Dc h' n m E := by
  obtain ⟨a1, a2, a3, a4, a5⟩ := a
  unfold Dc
  rw [f 10 (by omega) (by omega), f 11 (by omega) (by omega), f 12 (by omega) (by omega), f 13 (by omega) (by omega), f 14 (by omega) (by omega), f 15 (by omega) (by omega), f 16 (by omega) (by omega), f 17 (by omega) (by omega)]
  exact ⟨a1, a2, a3, a4, a5⟩
theorem R9.sm {h0 h : jv_H} {a b c d : Int32} (r : R9 h0 h a b c d) : Sm h0 h := ⟨fun k j q => by
  by_cases e : k = 9
  · subst e
    exact r.2.1 j (fun x => q (by unfold jq_s; omega)) (fun x => q (by unfold jq_s; omega)) (fun x => q (by unfold jq_s; omega)) (fun x => q (by unfold jq_s; omega))
  · rw [r.1 k e], r.2.2.1⟩
section CI
variable {T : Nat → Nat} {L : Nat}
def St (T : Nat → Nat) (L : Nat) (h : jv_H) (p n m : Nat) (E : Nat → Nat → Nat) (c so : Nat) (x : Nat → Nat) : Prop := Tc h T L ∧ Dc h n m E ∧ h.1 9 5 = nI p ∧ h.1 9 7 = nI c ∧ (¬ c = 0 → h.1 9 8 = nI so) ∧ ∀ j, j < so → h.1 19 j = nI (x j)
theorem St.r {h h' : jv_H} {p q n m c so : Nat} {E : Nat → Nat → Nat} {x : Nat → Nat} {a b d : Int32} (s : St T L h p n m E c so x) (r : R9 h h' a b (nI q) d) : St T L h' q n m E c so x := by
  obtain ⟨s1, s2, s3, s4, s5, s6⟩ := s
  refine ⟨s1.r r, s2.eq (fun k h1 h2 => r.1 k (by omega)), r.2.2.2.2.2.1, ?_, fun hc => ?_, fun j hj => ?_⟩
  · rw [r.2.1 7 (by omega) (by omega) (by omega) (by omega)]; exact s4
  · rw [r.2.1 8 (by omega) (by omega) (by omega) (by omega)]; exact s5 hc
  · rw [r.1 19 (by omega)]; exact s6 j hj
/-- what a run of the class's loop does, when 'r' is what the text says there -/
def Qc (T : Nat → Nat) (L p0 : Nat) (h0 : jv_H) (a : Nat) (r : Nat ⊕ (Nat × Nat × Nat × (Nat → Nat → Nat))) (run : Option (Int32 × jv_H)) : Prop :=
  match r with
  | .inl f => ∃ h', Sm h0 h' ∧ f ≤ 120 ∧ run = some ((-10 : Int32) - nI f, h')
  | .inr (p, n, m, E) => ∃ h' fuel i, Sm h0 h' ∧ run = f7_readAll_9_l21 fuel (nI (a + 1)) (nI i) h' ∧ St T L h' p n m E 0 0 (fun _ => 0) ∧ Ed n m E ∧ p ≤ L ∧ i ≤ p ∧ L < fuel + p ∧ p0 < p
theorem c_step {h : jv_H} {p n m c so i f : Nat} {E : Nat → Nat → Nat} {x : Nat → Nat} {a : Int32} (s : St T L h p n m E c so x) (hp : p ≤ L) (hi : i ≤ p) : ∃ h1, R9 h h1 (nI (tk T L (tq T L p))) (nI (tq T L p)) (nI (te T L (tq T L p))) (nI (tw T L (tq T L p))) ∧ f7_readAll_9_l21 (f + 1) a (nI i) h = if nI (tk T L (tq T L p)) = 0 then if nI c = 0 then some (a, h1) else g7_readAll_9_b47 (f7_readAll_9_l21 f) a (nI i) h1 else g7_readAll_9_b47 (f7_readAll_9_l21 f) a (nI i) h1 := by
  have hL := s.1.1
  obtain ⟨h1, e1, r1⟩ := c_tok s.1 hp s.2.2.1
  refine ⟨h1, r1, ?_⟩
  show g7_readAll_9_b21 (f7_readAll_9_l21 f) _ _ h = _
  unfold g7_readAll_9_b21
  rw [if_neg (by rw [w120, q_lt (by omega) (by omega)]; omega), e1, ob, r1.2.2.2.1, (s.r r1).2.2.2.1]
theorem tk_lt (q : Nat) : tk T L q ≤ 4 := by
  unfold tk
  split
  · omega
  · split
    · omega
    · split
      · split <;> omega
      · split <;> omega
theorem tw_n {q : Nat} (h : tk T L q = 2) : tw T L q = tv T L q ∧ tv T L q ≤ 99 ∧ q ≠ L := by
  unfold tk at h
  unfold tw
  by_cases c0 : q = L
  · rw [if_pos c0] at h; omega
  · rw [if_neg c0] at h ⊢
    by_cases c1 : isL (T q) = true
    · rw [if_pos c1] at h; omega
    · rw [if_neg c1] at h ⊢
      by_cases c2 : isD (T q) = true
      · rw [if_pos c2] at h ⊢
        by_cases c3 : 99 < tv T L q ∨ (1 < te T L q - q ∧ T q = 48)
        · rw [if_pos c3] at h; omega
        · exact ⟨rfl, by omega, c0⟩
      · rw [if_neg c2] at h
        split at h <;> omega
theorem tw_l {q : Nat} (h : tk T L q = 1) : tw T L q = (if te T L q - q = 1 then T q else 0) ∧ q ≠ L := by
  unfold tk at h
  unfold tw
  by_cases c0 : q = L
  · rw [if_pos c0] at h; omega
  · rw [if_neg c0] at h ⊢
    by_cases c1 : isL (T q) = true
    · rw [if_pos c1]; exact ⟨rfl, c0⟩
    · rw [if_neg c1] at h
      split at h
      · split at h <;> omega
      · split at h <;> omega
theorem nI_k {a b : Nat} (ha : a < 2000000) (hb : b < 2000000) : (nI a = nI b) = (a = b) := q_eq (by omega) (by omega)
theorem q_told {h : jv_H} {n m c so : Nat} {E : Nat → Nat → Nat} {x : Nat → Nat} {v : Nat} (D0 : Dc h n m E) (n6 : n ≤ 6) (hc : c = 116 ∨ c = 110 ∨ c = 120) (hso : so < if c = 120 then 2 else 3) (h6 : h.1 9 6 = nI v) (hv : v ≤ 255) (h7 : h.1 9 7 = nI c) (h8 : h.1 9 8 = nI so) (h19 : ∀ j, j < so → h.1 19 j = nI (x j)) (hx : ∀ j, j < so → x j ≤ 99) : f7_canBeTold_9 h = some (if okn c n so x v then 1 else 0, h) := by
  have so3 : so < 3 := by split at hso <;> omega
  have hix : jv_ix (nI so) 3 := by rw [q_ix (by omega)]; omega
  have wi : ∀ (lo hi : Nat), lo < 1000 → hi < 1000 → ((f8_isWithin (nI v) (nI lo) (nI hi) h).bind fun q3 => if q3.1 = 0 ∨ q3.1 = 1 then some (q3.1, q3.2) else none) = some (if decide (lo ≤ v) && decide (v ≤ hi) then 1 else 0, h) := by
    intro lo hi h1 h2
    rw [q_wb (by omega) (by omega) (by omega), ob]
    split
    · rw [if_pos (Or.inr rfl)]
    · rw [if_pos (Or.inl rfl)]
  have w02 : f8_isWithin (nI so) 0 2 h = some (1, h) := by
    rw [w0, w2, q_wb (by omega) (by omega) (by omega)]
    simp [show so ≤ 2 by omega]
  have h10 : ¬ (1 : Int32) = 0 := by decide
  unfold f7_canBeTold_9
  simp only [jl, h8, w02, ob, if_neg h10, if_pos hix, h7, h6, q_cl (show so < 2147483648 by omega)]
  rcases hc with rfl | rfl | rfl
  · simp only [if_neg (show ¬ nI 116 = 110 by decide), if_pos (show nI 116 = 116 by decide)]
    rcases (show so = 0 ∨ so = 1 ∨ so = 2 by omega) with rfl | rfl | rfl
    · exact wi 1 60 (by omega) (by omega)
    · exact wi 0 5 (by omega) (by omega)
    · exact wi 0 40 (by omega) (by omega)
  · simp only [if_pos (show nI 110 = 110 by decide)]
    rcases (show so = 0 ∨ so = 1 ∨ so = 2 by omega) with rfl | rfl | rfl
    · exact wi 1 9 (by omega) (by omega)
    · exact wi 1 3 (by omega) (by omega)
    · exact wi 1 99 (by omega) (by omega)
  · rw [if_pos rfl] at hso
    simp only [if_neg (show ¬ nI 120 = 110 by decide), if_neg (show ¬ nI 120 = 116 by decide)]
    rw [show okn 120 n so x v = (decide (v < n) && (decide (so = 0) || !decide (v = x 0))) from rfl]
    unfold f2_hasTemper_10 g7_canBeTold_9_b115
    simp only [D0.1]
    rw [if_neg (show ¬ nI v < 0 by rw [q_lt0 (by omega)]; exact fun h => h)]
    by_cases q : v < n
    · rw [if_neg (show ¬ nI n ≤ nI v by rw [q_le (by omega) (by omega)]; omega), ob, if_neg h10]
      by_cases z : so = 0
      · rw [if_pos (show nI so = 0 by rw [z]; rfl)]
        simp [q, z]
      · rw [if_neg (show ¬ nI so = 0 by rw [q_eq0 (by omega)]; exact z), if_pos (by decide)]
        simp only [show Int32.toNatClampNeg (0 : Int32) = 0 from rfl, h6, h19 0 (by omega)]
        have := hx 0 (by omega)
        by_cases w : v = x 0
        · rw [if_pos (by rw [w])]
          simp [z, w]
        · rw [if_neg (by rw [nI_k (by omega) (by omega)]; exact w)]
          simp [q, w]
    · rw [if_pos (show nI n ≤ nI v by rw [q_le (by omega) (by omega)]; omega), ob, if_pos rfl]
      simp [q]
theorem Sm.tr' {h h1 h2 : jv_H} (a : Sm h h1) (b : Sm h1 h2) : Sm h h2 := a.tr b
theorem c_num {h0 h : jv_H} {p0 p n m c so i f a : Nat} {E : Nat → Nat → Nat} {x : Nat → Nat} (k : Nat → Nat → Nat ⊕ (Nat × Nat × Nat × (Nat → Nat → Nat))) (sm : Sm h0 h) (s : St T L h p n m E c so x) (n6 : n ≤ 6) (hc : c = 116 ∨ c = 110 ∨ c = 120) (hso : so < if c = 120 then 2 else 3) (hx : ∀ j, j < so → x j ≤ 99) (hp : p ≤ L) (hi : i ≤ p) (hk : ∀ (h1 : jv_H) (v p1 : Nat), p < p1 → p1 ≤ L → v ≤ 99 → okn c n so x v = true → St T L h1 p1 n m E c (so + 1) (ext x so v) → Sm h0 h1 → Qc T L p0 h0 a (k v p1) (f7_readAll_9_l21 f (nI a) (nI (i + 1)) h1)) : Qc T L p0 h0 a (num T L p (okn c n so x) k) (f7_readAll_9_l21 (f + 1) (nI a) (nI i) h) := by
  have hL := s.1.1
  obtain ⟨h1, r1, e1⟩ := c_step (i := i) (f := f) (a := nI a) s hp hi
  have hq := tq_in (T := T) hp
  have hk4 := tk_lt (T := T) (L := L) (tq T L p)
  rw [e1]
  unfold num
  generalize tq T L p = q at *
  have c0 : ¬ c = 0 := by omega
  have s1 := s.r r1
  rw [if_neg (show ¬ nI c = 0 by rw [q_eq0 (by omega)]; exact c0)]
  have e2 : (if nI (tk T L q) = 0 then g7_readAll_9_b47 (f7_readAll_9_l21 f) (nI a) (nI i) h1 else g7_readAll_9_b47 (f7_readAll_9_l21 f) (nI a) (nI i) h1) = g7_readAll_9_b47 (f7_readAll_9_l21 f) (nI a) (nI i) h1 := by split <;> rfl
  rw [e2]
  have so3 : so < 3 := by split at hso <;> omega
  unfold g7_readAll_9_b47 f7_canStand_9 f7_numbersOfItem_9
  rw [s1.2.2.2.1, if_neg (show ¬ nI c = 0 by rw [q_eq0 (by omega)]; exact c0)]
  have e3 : (if nI c = (120 : Int32) then some ((2 : Int32), h1) else some ((3 : Int32), h1)) = some (nI (if c = 120 then 2 else 3), h1) := by
    by_cases z : c = 120
    · rw [if_pos (show nI c = 120 by rw [z]; rfl), if_pos z]; rfl
    · rw [if_neg (show ¬ nI c = 120 by rw [w120, nI_k (by omega) (by omega)]; exact z), if_neg z]; rfl
  rw [e3, ob, s1.2.2.2.2.1 c0, if_neg (show ¬ nI (if c = 120 then 2 else 3) ≤ nI so by rw [q_le (by split <;> omega) (by omega)]; omega), r1.2.2.2.1]
  have fault : Qc T L p0 h0 a (.inl q) (some ((-10 : Int32) - h1.1 9 4, h1)) := ⟨h1, sm.tr r1.sm, by omega, by rw [r1.2.2.2.2.1]⟩
  by_cases k2 : tk T L q = 2
  · obtain ⟨v1, v2, v3⟩ := tw_n k2
    have hte := te_in (T := T) (show q < L by omega)
    have h6 : h1.1 9 6 = nI (tv T L q) := by rw [r1.2.2.2.2.2.2, v1]
    rw [if_pos (show nI (tk T L q) = 2 by rw [k2]; rfl), q_told s1.2.1 n6 hc hso h6 (by omega) s1.2.2.2.1 (s1.2.2.2.2.1 c0) s1.2.2.2.2.2 hx, ob]
    cases ho : okn c n so x (tv T L q) with
    | false =>
      rw [if_pos (show (if false = true then (1 : Int32) else 0, h1).1 = 0 from rfl), if_neg (fun z => absurd z.2 (by decide))]
      rw [ob, if_pos rfl]
      exact fault
    | true =>
      rw [if_neg (show ¬ (if true = true then (1 : Int32) else 0, h1).1 = 0 from (by decide : ¬ (1 : Int32) = 0)), if_pos ⟨k2, rfl⟩, ob, if_neg (show ¬ (1 : Int32) = 0 by decide)]
      show Qc T L p0 h0 a _ (if h1.1 9 3 = 3 then jv_let (nI a + 1) fun x2 => g7_readAll_9_b73 (f7_readAll_9_l21 f) x2 (nI i) h1 else g7_readAll_9_b73 (f7_readAll_9_l21 f) (nI a) (nI i) h1)
      rw [r1.2.2.2.1, if_neg (show ¬ nI (tk T L q) = 3 by rw [k2]; decide)]
      unfold g7_readAll_9_b73 f7_takeToken_9
      rw [r1.2.2.2.1, if_neg (show ¬ nI (tk T L q) = 1 by rw [k2]; decide), if_pos (show nI (tk T L q) = 2 by rw [k2]; rfl), s1.2.2.2.2.1 c0, if_neg (show ¬ (3 : Int32) ≤ nI so by rw [w3, q_le (by omega) (by omega)]; omega), if_pos (show jv_ix (nI so) 3 by rw [q_ix (by omega)]; omega), jl, jl, ob, jl, q_cl (by omega), h6, show nI i + (1 : Int32) = nI (i + 1) from by rw [w1, nI_add]]
      rw [q_p_k _ (by omega), s1.2.2.2.2.1 c0, show nI so + (1 : Int32) = nI (so + 1) from by rw [w1, nI_add]]
      obtain ⟨s11, s12, s13, s14, s15, s16⟩ := s1
      refine hk _ _ _ (by omega) hte.2 v2 ho ⟨⟨s11.1, by rw [q_p_j _ (by omega), q_p_k _ (by omega)]; exact s11.2.1, fun j hj => by rw [q_p_k _ (by omega), q_p_k _ (by omega)]; exact s11.2.2.1 j hj, s11.2.2.2⟩, s12.eq (fun k h1 h2 => by rw [q_p_k _ (by omega), q_p_k _ (by omega)]), by rw [q_p_j _ (by omega), q_p_k _ (by omega)]; exact s13, by rw [q_p_j _ (by omega), q_p_k _ (by omega)]; exact s14, fun _ => q_p_same _ _ _ _, fun j hj => ?_⟩ (((sm.tr r1.sm).p _ _ _ (by unfold jq_s; omega)).p _ _ _ (by unfold jq_s; omega))
      rw [q_p_k _ (by omega), q_p_if]
      by_cases z : j = so
      · rw [if_pos z, z, ext_t]
      · rw [if_neg z, ext_e x z]; exact s16 j (by omega)
  · rw [if_neg (show ¬ nI (tk T L q) = 2 by rw [w2, nI_k (by omega) (by omega)]; exact k2), if_neg (fun z => k2 z.1)]
    rw [ob, if_pos rfl]
    exact fault
end CI
