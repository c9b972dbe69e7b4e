/-! ===== READING: a stone, the reference ===== -/
section
variable {tp : Nat → Int32} {n : Nat} {w : Nat → Nat} {σ : Nat × Option (Nat × Nat)} {μ0 : sm_Mem}
theorem w152 {z : Nat → Nat} {μ : sm_Mem} (hW : WH 152 z μ) {i : Nat} (hi : i < 185) : μ.1 152 i = nI (z i) := by
  rw [hW i (by omega)]
  unfold eI
  rw [if_neg (by omega)]
theorem eI_lo {i v : Nat} (hi : i < 185) : nI v = eI i v := by
  unfold eI
  rw [if_neg (by omega)]
theorem frOn_L {μ : sm_Mem} (hW : WH 152 w μ) (h3 : w 3 ≤ 24) (hxy : ∀ s, s < w 3 → w (10 + 7 * s) < 1000 ∧ w (11 + 7 * s) < 1000) {x y : Nat} (hx : x < 2 ^ 31) (hy : y < 2 ^ 31) : ∀ f s, w 3 - s < f → s ≤ w 3 → (∀ t, t < s → ¬ (w (10 + 7 * t) = x ∧ w (11 + 7 * t) = y)) → ∃ r, fnX12_freshOn_L2 f 146 (nI x) (nI y) (nI s) μ = some (r, μ) ∧ (r = -1 ↔ onW w x y = false) := by
  have e_152 : ln 152 = 241 := rfl
  intro f
  induction f with
  | zero =>
    intro s h
    omega
  | succ f ih =>
    intro s hf hs hno
    unfold fnX12_freshOn_L2 fnX12_freshOn_J50
    rw [lk_146_14, li_3, e_ai (by omega), w152 hW (by omega)]
    by_cases c : w 3 ≤ s
    · rw [e_T (nI_le c (by omega))]
      refine ⟨-1, rfl, fun _ => ?_, fun _ => rfl⟩
      unfold onW
      apply decide_eq_false
      rintro ⟨t, t1, t2⟩
      exact hno t (by omega) t2
    · have hs' : s < w 3 := by omega
      have b := hxy s hs'
      have nx : ¬ (w (10 + 7 * s) = x ∧ w (11 + 7 * s) = y) → ∃ r, fnX12_freshOn_L2 f 146 (nI x) (nI y) (nI (s + 1)) μ = some (r, μ) ∧ (r = -1 ↔ onW w x y = false) := by
        intro hn
        refine ih (s + 1) (by omega) (by omega) ?_
        intro t ht
        by_cases e : t = s
        · rw [e]
          exact hn
        · exact hno t (by omega)
      rw [e_F (nI_ge (by omega) (by omega)), li_10, li_7, pk_mul, nI_add, li_0, nI_add, Nat.add_zero, li_1, nI_add, nI_add, e_ai (by omega), w152 hW (by omega)]
      by_cases q1 : w (10 + 7 * s) = x
      · rw [e_T (by rw [q1]), e_ai (by omega), w152 hW (by omega), show 10 + 7 * s + 1 = 11 + 7 * s by omega]
        by_cases q2 : w (11 + 7 * s) = y
        · rw [e_T (by rw [q2])]
          refine ⟨nI s, rfl, fun z => absurd z (n_m1 (by omega)), fun z => ?_⟩
          unfold onW at z
          exact absurd ⟨s, hs', q1, q2⟩ (of_decide_eq_false z)
        · rw [e_F (fun z => q2 ((nI_eq (by omega) hy).mp z))]
          exact nx (fun z => q2 z.2)
      · rw [e_F (fun z => q1 ((nI_eq (by omega) hx).mp z))]
        exact nx (fun z => q1 z.1)
end
