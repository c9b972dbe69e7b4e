/-! ===== READING: a person, the reference ===== -/
section
variable {tp : Nat → Int32} {n : Nat} {w : Nat → Nat} {σ : Nat × Option (Nat × Nat)} {μ0 : sm_Mem}
theorem eI_o {i v : Nat} (h : ∀ p, i ≠ 190 + 7 * p) : nI v = eI i v := by
  unfold eI
  rw [if_neg (by have := h ((i - 190) / 7); omega)]
theorem eI_h {p v : Nat} (hp : p < 8) : nI v = eI (190 + 7 * p) (v + 1) := by
  unfold eI
  rw [if_pos (by omega), li_1, pk_sub (by omega)]
  rfl
def Per12 (tp : Nat → Int32) (n : Nat) (w : Nat → Nat) (σ : Nat × Option (Nat × Nat)) (μ0 : sm_Mem) (_ : Unit) (μ : sm_Mem) : Prop := ∃ z, St12 tp n z (p8 tp n w σ) μ0 μ ∧ ((p8 tp n w σ).2 = none → z = peW tp n w σ)
theorem person238 (h4 : w 4 < 8) {z : Nat → Nat} {μ : sm_Mem} (h : St12 tp n z (p8 tp n w σ) μ0 μ) (z4 : z 4 = w 4) (hz : (p8 tp n w σ).2 = none → z = peH tp n w σ) : T (fnX12_readPerson_J238 146) μ (Per12 tp n w σ μ0) := by
  have e_152 : ln 152 = 241 := rfl
  unfold fnX12_readPerson_J238
  rw [lk_146_14, li_4, t_ai (by omega), w152 h.2.1 (by omega), z4, nI_1, t_sai (by omega), t_ret]
  refine ⟨_, st12_w h (i := 4) (v := w 4 + 1) (eI_lo (by omega)), ?_⟩
  intro hq
  rw [hz hq]
  rfl
end
