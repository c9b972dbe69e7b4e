/-! ===== READING: a person, the component: all of it ===== -/
section
variable {tp : Nat → Int32} {n : Nat} {w : Nat → Nat} {σ : Nat × Option (Nat × Nat)} {μ0 μ : sm_Mem}
/-- the hand of the other is another cell's matter -/
theorem hand_cell {μ1 : sm_Mem} {q : Nat} {x : Int32} : T (fnX6_readPerson_J157 2) (u2 μ1.1 12 q x, μ1.2) (fun _ μ' => ∃ μ2, (fnX6_readPerson_J157 2) μ1 = some ((), μ2) ∧ μ' = (u2 μ2.1 12 q x, μ2.2)) := by
  unfold fnX6_readPerson_J157
  rw [lk_2_0, t_gi, t_si, t_ret]
  refine ⟨_, rfl, ?_⟩
  have e : (u2 μ1.1 12 q x, μ1.2).1 3 5 = μ1.1 3 5 := by
    show u2 μ1.1 12 q x 3 5 = μ1.1 3 5
    rw [u2_ne (show 3 ≠ 12 by omega)]
  rw [e]
  show (u2 (u2 μ1.1 12 q x) 3 5 (μ1.1 3 5 + 1), μ1.2) = (u2 (u2 μ1.1 3 5 (μ1.1 3 5 + 1)) 12 q x, μ1.2)
  congr 1
  funext a k
  by_cases c1 : a = 3
  · subst c1
    rw [u2_ne (a := 12) (show 3 ≠ 12 by omega)]
    by_cases c2 : k = 5
    · rw [c2, u2_at, u2_at]
    · rw [u2_k c2, u2_k c2, u2_ne (show 3 ≠ 12 by omega)]
  · rw [u2_ne c1]
    by_cases c2 : a = 12
    · subst c2
      by_cases c3 : k = q
      · rw [c3, u2_at, u2_at]
      · rw [u2_k c3, u2_k c3, u2_ne (show 12 ≠ 3 by omega)]
    · rw [u2_ne c2, u2_ne c2, u2_ne c1]
end
