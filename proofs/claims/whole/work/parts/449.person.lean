/-! ===== READING: a person, the component: from its head ===== -/
section
variable {tp : Nat → Int32} {n : Nat} {w : Nat → Nat} {σ : Nat × Option (Nat × Nat)} {μ0 μ : sm_Mem}
theorem hand51 (hn : n ≤ 1600) (h4 : w 4 < 8) {v : Nat → Option Int32} (v0 : v 0 = some (nI (pS tp n σ))) (v1 : v 1 = some (nI (pW tp n σ))) (v2 : v 2 = some (nI (pV tp n σ))) {τ : Nat × Option (Nat × Nat)} (hτ : nuS tp n 0 (w 4) τ = p8 tp n w σ) (hv' : (p8 tp n w σ).2 = none → pH tp n σ = true ∧ τ = p7 tp n w σ) (h : Pe6 tp n w τ (pM tp n σ) (pB tp n σ) v μ0 μ) : T (fnX6_readHand_J51 2 (nI (w 4))) μ (fun _ μ' => ∃ v', v' 0 = some (nI (pS tp n σ)) ∧ v' 1 = some (nI (pW tp n σ)) ∧ v' 2 = some (nI (pV tp n σ)) ∧ ((p8 tp n w σ).2 ≠ none → Pe6 tp n w (p8 tp n w σ) (pM tp n σ) (pB tp n σ) v' μ0 μ') ∧ ((p8 tp n w σ).2 = none → ∃ μ1, Pe6 tp n w (p8 tp n w σ) (pM tp n σ) (pB tp n σ) v' μ0 μ1 ∧ μ1.1 12 (w 4) = nI (pQ tp n w σ) ∧ pQ tp n w σ < w 4 ∧ μ' = (u2 μ1.1 12 (pQ tp n w σ) (nI (w 4)), μ1.2))) := by
  have e_12 : ln 12 = 8 := rfl
  unfold fnX6_readHand_J51
  rw [t_bnd]
  refine t_mono (num6C (lo := 0) (hb := w 4) hn (by omega) (hiC (by omega)) (by omega) h.1) ?_
  rintro x μ1 ⟨rfl, a2, a3⟩
  have lt : (nuS tp n 0 (w 4) τ).2 = none → nuV tp n 0 (w 4) τ < w 4 := fun z => (nuV_lt z).2.1
  have S := pe6_g h a2 a3
  rw [hτ] at a2 S lt
  rw [t_gi]
  by_cases q : (p8 tp n w σ).2 = none
  · obtain ⟨hH, rfl⟩ := hv' q
    have hq := lt q
    rw [t_brT ((fl6_0 a2.2.2.2).mpr q), t_brF (nI_pos (by omega)), t_brF (nI_ge hq (by omega)), lk_2_0, lk_3_16, t_sai (by omega), t_sai (by omega), t_ret]
    refine ⟨fun i => if i = 3 then some (nI (nuV tp n 0 (w 4) (p7 tp n w σ))) else v i, v0, v1, v2, fun z => absurd q z, fun _ => ⟨(u2 μ1.1 12 (w 4) (nI (nuV tp n 0 (w 4) (p7 tp n w σ))), μ1.2), pe6_w S (j := 3) (by omega), ?_, hq, rfl⟩⟩
    show u2 μ1.1 12 (w 4) (nI (nuV tp n 0 (w 4) (p7 tp n w σ))) 12 (w 4) = nI (nuV tp n 0 (w 4) (p7 tp n w σ))
    rw [u2_at]
  · rw [t_brF (fun z => q ((fl6_0 a2.2.2.2).mp z)), t_ret]
    exact ⟨v, v0, v1, v2, fun _ => S, fun z => absurd z q⟩
end
