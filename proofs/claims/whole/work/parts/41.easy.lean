/-! the easy calls: type, clear, forget, hears, count, trace -/
theorem p_type : ok_type Inv := by
  intro a h hI
  obtain ⟨N, M, D, a1, ⟨P, a2⟩, a3, ⟨L, l1, l2, l3, l4⟩, a5, a6⟩ := id hI
  by_cases hb : 0 ≤ a.toInt ∧ a.toInt ≤ 255
  · obtain ⟨t, ht, rfl⟩ : ∃ t, t < 256 ∧ a = nI t := by
      rcases q_arg a 256 (by omega) with q | q
      · exact q
      · exact absurd hb (by omega)
    by_cases hL : L = 120
    · refine ⟨-3, h, h, ?_, ?_, hI⟩
      · unfold f8_type_0 f7_append_9
        simp only [q_within, Option.bind_some, l2, show (0 : Int32).toInt = 0 from rfl, show (255 : Int32).toInt = 255 from rfl, if_pos hb]
        subst hL
        rfl
      · unfold f9_type_40
        simp only [q_in, Option.bind_some, l3, show (0 : Int64).toInt = 0 from rfl, show (255 : Int64).toInt = 255 from rfl, if_pos hb]
        subst hL
        rfl
    · refine ⟨nI (L + 1), jv_p (jv_p h 18 L (nI t)) 9 1 (nI (L + 1)), jv_p (jv_p (jv_p (jv_p h 18 L (nI t)) 9 1 (nI (L + 1))) 52 L (nI t)) 40 16 (nI (L + 1)), ?_, ?_, ?_⟩
      · unfold f8_type_0 f7_append_9
        simp only [q_within, Option.bind_some, l2, show (0 : Int32).toInt = 0 from rfl, show (255 : Int32).toInt = 255 from rfl, if_pos hb, jv_let]
        simp (disch := omega) only [q_lit, q_lt, q_ix, q_eq, q_cl, q_p_k, q_p_j, q_p_same, l2, nI_add, if_pos, if_neg, Option.bind_some]
      · unfold f9_type_40
        simp only [q_in, Option.bind_some, show (0 : Int64).toInt = 0 from rfl, show (255 : Int64).toInt = 255 from rfl, if_pos hb, jv_let]
        simp (disch := omega) only [q_lit, q_lt, q_ix, q_eq, q_cl, q_p_k, q_p_j, q_p_same, l3, nI_add, if_pos, if_neg, Option.bind_some]
      · refine ⟨N, M, D, a1.eq (fun k _ _ _ => ?_) ?_ ?_ (fun k _ _ => ?_), ⟨P, a2.eq ?_ (fun _ _ => ?_) (fun _ _ _ => ?_)⟩, a3.eq (fun k _ _ => ?_) ?_ ?_, ⟨L + 1, by omega, ?_, ?_, fun j hj => ?_⟩, a5.eq ?_ ?_ ?_ ?_ ?_ ?_, ?_⟩
        all_goals try (simp (disch := omega) only [q_p_k, q_p_j, q_p_2]; done)
        · simp (disch := omega) only [q_p_k, q_p_same]
        · simp (disch := omega) only [q_p_same]
        · simp (disch := omega) only [q_p_k]
          by_cases hjl : j = L
          · subst hjl
            simp only [q_p_same]
            exact ⟨trivial, t, by omega, rfl⟩
          · simp (disch := omega) only [q_p_j, q_p_k]
            exact l4 j (by omega)
        · exact a6
  · refine ⟨-1, h, h, ?_, ?_, hI⟩
    · unfold f8_type_0
      simp only [q_within, Option.bind_some, show (0 : Int32).toInt = 0 from rfl, show (255 : Int32).toInt = 255 from rfl, if_neg hb]
      rfl
    · unfold f9_type_40
      simp only [q_in, Option.bind_some, show (0 : Int64).toInt = 0 from rfl, show (255 : Int64).toInt = 255 from rfl, if_neg hb]
      rfl
theorem p_clear : ok_clear Inv := by
  intro h hI
  obtain ⟨N, M, D, a1, ⟨P, a2⟩, a3, ⟨L, l1, l2, l3, l4⟩, a5, a6⟩ := hI
  refine ⟨nI L, jv_p h 9 1 0, jv_p (jv_p h 9 1 0) 40 16 0, ?_, ?_, ?_⟩
  · unfold f8_clear_0 f7_empty_9
    simp only [jv_let, l2, Option.bind_some]
  · unfold f9_clear_40
    simp (disch := omega) only [jv_let, q_p_k, l3]
  · refine ⟨N, M, D, a1.eq (fun k _ _ _ => ?_) ?_ ?_ (fun k _ _ => ?_), ⟨P, a2.eq ?_ (fun _ _ => ?_) (fun _ _ _ => ?_)⟩, a3.eq (fun k _ _ => ?_) ?_ ?_, ⟨0, by omega, ?_, ?_, fun j hj => absurd hj (by omega)⟩, a5.eq ?_ ?_ ?_ ?_ ?_ ?_, a6⟩
    all_goals try (simp (disch := omega) only [q_p_k, q_p_j, q_p_2]; done)
    · simp (disch := omega) only [q_p_k, q_p_same]; rfl
    · simp (disch := omega) only [q_p_same]; rfl
theorem p_forget : ok_forget Inv := by
  intro h hI
  obtain ⟨N, M, D, a1, ⟨P, a2⟩, a3, a4, ⟨K, k1, k2, k3, k4⟩, a6⟩ := hI
  refine ⟨nI K, jv_p h 31 3 0, jv_p (jv_p h 31 3 0) 40 13 0, ?_, ?_, ?_⟩
  · unfold f8_forget_0 f5_empty_31
    simp only [jv_let, k2, Option.bind_some]
  · unfold f9_forget_40
    simp (disch := omega) only [jv_let, q_p_k, k3]
  · refine ⟨N, M, D, a1.eq (fun k _ _ _ => ?_) ?_ ?_ (fun k _ _ => ?_), ⟨P, a2.eq ?_ (fun _ _ => ?_) (fun _ _ _ => ?_)⟩, a3.eq (fun k _ _ => ?_) ?_ ?_, a4.eq ?_ ?_ ?_ ?_, ⟨0, by omega, ?_, ?_, fun j hj => absurd hj (by omega)⟩, a6⟩
    all_goals try (simp (disch := omega) only [q_p_k, q_p_j, q_p_2]; done)
    · simp (disch := omega) only [q_p_k, q_p_same]; rfl
    · simp (disch := omega) only [q_p_same]; rfl
theorem p_hears : ok_hears Inv := by
  intro a a2' h hI
  obtain ⟨N, M, D, a1, ⟨P, a2⟩, a3, a4, ⟨K, k1, k2, k3, k4⟩, a6⟩ := id hI
  by_cases hb : 0 ≤ a.toInt ∧ a.toInt ≤ 99
  · by_cases hc : 0 ≤ a2'.toInt ∧ a2'.toInt ≤ 1
    · obtain ⟨t, ht, rfl⟩ : ∃ t, t < 100 ∧ a = nI t := by
        rcases q_arg a 100 (by omega) with q | q
        · exact q
        · exact absurd hb (by omega)
      obtain ⟨u, hu, rfl⟩ : ∃ t, t < 2 ∧ a2' = nI t := by
        rcases q_arg a2' 2 (by omega) with q | q
        · exact q
        · exact absurd hc (by omega)
      by_cases hK : K = 4
      · refine ⟨-3, h, h, ?_, ?_, hI⟩
        · unfold f8_hears_0 f5_append_31
          simp only [q_within, Option.bind_some, k2, show (0 : Int32).toInt = 0 from rfl, show (99 : Int32).toInt = 99 from rfl, show (1 : Int32).toInt = 1 from rfl, if_pos hb, if_pos hc]
          subst hK
          rfl
        · unfold f9_hears_40
          simp only [q_in, Option.bind_some, k3, show (0 : Int64).toInt = 0 from rfl, show (99 : Int64).toInt = 99 from rfl, show (1 : Int64).toInt = 1 from rfl, if_pos hb, if_pos hc]
          subst hK
          rfl
      · refine ⟨nI (K + 1), jv_p (jv_p (jv_p h 32 K (nI t)) 33 K (nI u)) 31 3 (nI (K + 1)), jv_p (jv_p (jv_p (jv_p (jv_p (jv_p h 32 K (nI t)) 33 K (nI u)) 31 3 (nI (K + 1))) 50 K (nI t)) 51 K (nI u)) 40 13 (nI (K + 1)), ?_, ?_, ?_⟩
        · unfold f8_hears_0 f5_append_31
          simp only [q_within, Option.bind_some, k2, show (0 : Int32).toInt = 0 from rfl, show (99 : Int32).toInt = 99 from rfl, show (1 : Int32).toInt = 1 from rfl, if_pos hb, if_pos hc, jv_let]
          simp (disch := omega) only [q_lit, q_lt, q_ix, q_eq, q_cl, q_p_k, q_p_j, q_p_same, k2, nI_add, if_pos, if_neg, Option.bind_some]
        · unfold f9_hears_40
          simp only [q_in, Option.bind_some, show (0 : Int64).toInt = 0 from rfl, show (99 : Int64).toInt = 99 from rfl, show (1 : Int64).toInt = 1 from rfl, if_pos hb, if_pos hc, jv_let]
          simp (disch := omega) only [q_lit, q_lt, q_ix, q_eq, q_cl, q_p_k, q_p_j, q_p_same, k3, nI_add, if_pos, if_neg, Option.bind_some]
        · refine ⟨N, M, D, a1.eq (fun k _ _ _ => ?_) ?_ ?_ (fun k _ _ => ?_), ⟨P, a2.eq ?_ (fun _ _ => ?_) (fun _ _ _ => ?_)⟩, a3.eq (fun k _ _ => ?_) ?_ ?_, a4.eq ?_ ?_ ?_ ?_, ⟨K + 1, by omega, ?_, ?_, fun j hj => ?_⟩, a6⟩
          all_goals try (simp (disch := omega) only [q_p_k, q_p_j, q_p_2]; done)
          · simp (disch := omega) only [q_p_k, q_p_same]
          · simp (disch := omega) only [q_p_same]
          · simp (disch := omega) only [q_p_k]
            by_cases hjl : j = K
            · subst hjl
              simp only [q_p_same]
              exact ⟨trivial, trivial, ⟨t, by omega, rfl⟩, by rcases (show u = 0 ∨ u = 1 by omega) with rfl | rfl; exact Or.inl rfl; exact Or.inr rfl⟩
            · simp (disch := omega) only [q_p_j, q_p_k]
              exact k4 j (by omega)
    · refine ⟨-1, h, h, ?_, ?_, hI⟩
      · unfold f8_hears_0
        simp only [q_within, Option.bind_some, show (0 : Int32).toInt = 0 from rfl, show (99 : Int32).toInt = 99 from rfl, show (1 : Int32).toInt = 1 from rfl, if_pos hb, if_neg hc]
        rfl
      · unfold f9_hears_40
        simp only [q_in, Option.bind_some, show (0 : Int64).toInt = 0 from rfl, show (99 : Int64).toInt = 99 from rfl, show (1 : Int64).toInt = 1 from rfl, if_pos hb, if_neg hc]
        rfl
  · refine ⟨-1, h, h, ?_, ?_, hI⟩
    · unfold f8_hears_0
      simp only [q_within, Option.bind_some, show (0 : Int32).toInt = 0 from rfl, show (99 : Int32).toInt = 99 from rfl, if_neg hb]
      rfl
    · unfold f9_hears_40
      simp only [q_in, Option.bind_some, show (0 : Int64).toInt = 0 from rfl, show (99 : Int64).toInt = 99 from rfl, if_neg hb]
      rfl
theorem p_count : ok_count Inv := by
  intro a h hI
  obtain ⟨N, M, D, a1, ⟨P, a2⟩, a3, ⟨L, l1, l2, l3, l4⟩, ⟨K, k1, k2, k3, k4⟩, a6⟩ := id hI
  obtain ⟨t1, t2, t3, t4, t5, t6, -⟩ := a1
  obtain ⟨c0, c1, c2, c3, -⟩ := a2
  have e : f9_count_40 a h = f8_count_0 a h := by
    unfold f9_count_40 f8_count_0
    have h19 : Int32.toNatClampNeg 19 = 0 + 19 := rfl
    have hix : jv_ix (19 : Int32) 210 := by decide
    simp only [h19, if_pos hix, t3, t4, t5, t6, k2, k3, l2, l3, c2, c3]
  have e2 : ∃ r, f8_count_0 a h = some (r, h) := by
    unfold f8_count_0
    repeat' split
    all_goals exact ⟨_, rfl⟩
  obtain ⟨r, hr⟩ := e2
  exact ⟨r, h, h, hr, e.trans hr, hI⟩
theorem p_trace : ok_trace Inv := by
  intro h hI
  obtain ⟨N, M, D, a1, a2, a3, a4, a5, a6⟩ := id hI
  refine ⟨h.2 34 1, h, h, rfl, ?_, hI⟩
  unfold f9_trace_40
  rw [a6]
