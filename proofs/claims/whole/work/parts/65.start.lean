/-! the start -/
theorem p_ok : lw_ok Inv := ⟨p_type, p_clear, p_hill, p_temper, p_nurse, p_sends, p_fetches, p_visits, p_mixes, p_years, p_undo, p_now, p_when, p_hot, p_plan, p_best, p_beds, p_odds, p_hears, p_forget, p_whose, p_ask, p_mark, p_keep, p_back, p_count, p_trace⟩
theorem inv_start : ∃ hb, f1_begin_20_1 JZ = some ((), hb) ∧ (∀ k, 40 ≤ k → ∀ j, hb.1 k j = 0 ∧ hb.2 k j = 0) ∧ Inv (jv_p hb 47 (Int32.toNatClampNeg (19 : Int32)) (0 : Int32)) := by
  obtain ⟨hb, b1, b2, b3, b4, b5, b6⟩ := b_begin JZ
  have z : ∀ k j, ¬ k = 20 → ¬ k = 21 → hb.1 k j = 0 := fun k j h1 h2 => by rw [b5 k h1 h2]; rfl
  have z2 : ∀ k j, hb.2 k j = 0 := fun k j => by rw [b6]; rfl
  have y : ∀ k j, ¬ k = 20 → ¬ k = 21 → (jv_p hb 47 19 0).1 k j = 0 := fun k j h1 h2 => by
    by_cases e : k = 47
    · subst e
      rw [q_p_if]
      split
      · rfl
      · exact z _ _ h1 h2
    · rw [q_p_k _ e]; exact z _ _ h1 h2
  refine ⟨hb, b1, fun k hk j => ⟨z k j (by omega) (by omega), z2 k j⟩, ?_⟩
  show Inv (jv_p hb 47 19 0)
  refine ⟨0, 0, fun _ _ => 0, ⟨by omega, by omega, y 1 0 (by omega) (by omega), y 1 1 (by omega) (by omega), y 40 0 (by omega) (by omega), y 40 1 (by omega) (by omega), fun t ht => by omega, fun n hn => by omega, fun s t hs => by omega, fun t ht => by omega⟩, ⟨0, by omega, by omega, ?_, y 47 _ (by omega) (by omega), ⟨⟨0, by omega, y 47 _ (by omega) (by omega)⟩, fun t ht => by omega, fun s t hs => by omega⟩, ⟨?_, fun t ht => by omega⟩, fun r hr => by omega⟩, ⟨⟨0, by omega, y 0 11 (by omega) (by omega)⟩, fun i hi => Or.inl ⟨by rw [y 0 11 (by omega) (by omega)]; exact kq_0 i hi, y 49 i (by omega) (by omega)⟩⟩, ⟨0, by omega, y 9 1 (by omega) (by omega), y 40 16 (by omega) (by omega), fun j hj => by omega⟩, ⟨0, by omega, y 31 3 (by omega) (by omega), y 40 13 (by omega) (by omega), fun j hj => by omega⟩, ?_⟩
  · rw [q_p_k _ (by omega)]; exact b2
  · show (jv_p hb 47 19 0).1 21 (19 * 0 + 0) = (jv_p hb 47 19 0).1 47 (0 + 0)
    rw [q_p_k _ (by omega), y 47 _ (by omega) (by omega)]
    exact b3
  · show hb.2 34 1 = hb.2 40 14
    rw [z2, z2]
