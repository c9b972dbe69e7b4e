/-! ===== THE PURE LAYER: the law's loop out of 51 pairs of calls that answer alike ===== -/
/-- both answer the same, one behind the other, and the relation between the two sides stays -/
def op2 (Inv : sm_Mem → Prop) {β : Type} (f g : sm_M β) : Prop := ∀ μ : sm_Mem, Inv μ → ∃ (r : β) (μ1 μ2 : sm_Mem), f μ = some (r, μ1) ∧ g μ1 = some (r, μ2) ∧ Inv μ2
def Ends (f : sm_M Bool) (μ : sm_Mem) : Prop := ∃ μ' : sm_Mem, f μ = some (true, μ')
theorem e_gd {c : Prop} [Decidable c] {f : sm_M Bool} {μ : sm_Mem} (hc : c) (h : Ends f μ) : Ends (m_gd c f) μ := by
  obtain ⟨μ', h⟩ := h
  exact ⟨μ', by unfold m_gd; rw [if_pos hc]; exact h⟩
theorem e_bnd {β : Type} {f : sm_M β} {g : β → sm_M Bool} {μ μ1 : sm_Mem} {r : β} (hf : f μ = some (r, μ1)) (h : Ends (g r) μ1) : Ends (m_bnd f g) μ := by
  obtain ⟨μ', h⟩ := h
  exact ⟨μ', by unfold m_bnd; rw [hf]; exact h⟩
theorem e_brT {c : Prop} [Decidable c] {f g : sm_M Bool} {μ : sm_Mem} (hc : c) (h : Ends f μ) : Ends (m_br c f g) μ := by
  obtain ⟨μ', h⟩ := h
  exact ⟨μ', by unfold m_br; rw [if_pos hc]; exact h⟩
theorem e_brF {c : Prop} [Decidable c] {f g : sm_M Bool} {μ : sm_Mem} (hc : ¬ c) (h : Ends g μ) : Ends (m_br c f g) μ := by
  obtain ⟨μ', h⟩ := h
  exact ⟨μ', by unfold m_br; rw [if_neg hc]; exact h⟩
theorem e_ret {μ : sm_Mem} : Ends (m_ret true) μ := ⟨μ, rfl⟩
/-- the smallest pair: fault -/
theorem op_fault {Inv : sm_Mem → Prop} (h1 : ∀ μ, Inv μ → μ.1 0 2 = μ.1 146 12) (h2 : ∀ μ, Inv μ → μ.1 0 3 = μ.1 146 13) (w : Int32) : op2 Inv (fnX11_fault 0 w) (fnX12_fault 146 w) := by
  intro μ hI
  unfold fnX11_fault fnX12_fault m_br m_gi m_ret
  by_cases a : w = 0
  · exact ⟨μ.1 0 2, μ, μ, by rw [if_pos a], by rw [if_pos a, h1 μ hI], hI⟩
  · by_cases b : w = 1
    · exact ⟨μ.1 0 3, μ, μ, by rw [if_neg a, if_pos b], by rw [if_neg a, if_pos b, h2 μ hI], hI⟩
    · exact ⟨-1, μ, μ, by rw [if_neg a, if_neg b], by rw [if_neg a, if_neg b], hI⟩
