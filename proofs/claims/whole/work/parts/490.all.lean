/-! ===== THE FIRST MEMORY, AND ALL PAIRS OF CALLS ===== -/
theorem rh_z14 : RH 14 zW μ0 := by
  have z : ∀ i, i < 185 → zW i = 0 := fun i h => zW_lo h
  have e : ∀ k, μ0.1 14 k = 0 := fun k => rfl
  unfold RH
  rw [z 0 (by omega), z 1 (by omega), z 2 (by omega), z 3 (by omega), z 4 (by omega), z 6 (by omega), e 0, e 1, e 2, e 3, e 4, e 5, e 6, e 7]
  refine ⟨⟨rfl, rfl, rfl, rfl, rfl, rfl⟩, fun p hp => ?_, fun p hp => ?_, fun s hs => by omega, fun p hp => by omega⟩
  · rw [b_0, decide_eq_false (by omega)]
  · rw [b_0, decide_eq_false (by omega)]
theorem inv_0 : Inv μ0 := by
  have z3 : zW 3 = 0 := zW_lo (by omega)
  have z4 : zW 4 = 0 := zW_lo (by omega)
  refine ⟨zW, ⟨zW_g.1, rh_z14, ⟨?_, fun s hs => ?_, fun s hs => by omega, fun p hp => by omega⟩, fun i hi => ?_, fun r h1 h9 s hs => ?_, ⟨⟨0, by omega, rfl, rfl, fun k hk => by omega⟩, rfl, rfl⟩, fun j hj => Or.inl ?_, fun k hk => ?_, ⟨rfl, rfl, rfl⟩⟩, Or.inl rfl⟩
  · rw [zW_lo (by omega)]
    rfl
  · rw [zW_lo (by omega)]
    rfl
  · rw [zW_e]
    rfl
  · have a1 : μ0.1 33 r = 0 := rfl
    have a2 : μ0.1 34 r = 0 := rfl
    have a3 : ∀ t, μ0.1 35 (24 * r + t) = 0 := fun t => rfl
    rw [z3, a1, a2, b_0, decide_eq_false (by omega), Bool.false_and, Bool.false_and]
    refine ⟨rfl, rfl, fun t ht => ?_⟩
    rw [a3 t, b_0]
    unfold adw
    rw [z3, decide_eq_false (by omega), Bool.false_and]
  · have : j = 0 ∨ j = 1 ∨ j = 2 ∨ j = 3 := by omega
    rcases this with rfl | rfl | rfl | rfl <;> exact ⟨rfl, rfl⟩
  · exact ⟨rfl, Or.inl rfl⟩
theorem all_ops : AllOps Inv := ⟨op_feed, op_end, op_river, op_fault (fun μ h => by obtain ⟨w, hC, _⟩ := h; exact hC.2.2.2.2.2.1.2.1) (fun μ h => by obtain ⟨w, hC, _⟩ := h; exact hC.2.2.2.2.2.1.2.2), op_stone, op_person, op_may, op_reach, op_hour, op_fresh, op_length, op_path, op_step, op_judge, op_ends, op_go, op_over, op_all, op_order, op_gap, op_home, op_days, op_best, op_most, op_cut, op_bars, op_alike, op_more, op_where, op_moved, op_move, op_plank, op_planks, op_know, op_sure, op_tread, op_first, op_price, op_keep, op_late, op_noon, op_waits, op_cross, op_run, op_runs, op_count, op_image, op_back, op_row, op_write, op_paste⟩
