/-! ===== READING: a person, the reference, all of it ===== -/
section
variable {tp : Nat → Int32} {n : Nat} {w : Nat → Nat} {σ : Nat × Option (Nat × Nat)} {μ0 : sm_Mem}
theorem person87 (hn : n ≤ 1600) (hB : Byt tp n) (h4 : w 4 < 8) (hh : ∀ q, q < w 4 → w (190 + 7 * q) ≤ 8) {μ : sm_Mem} (h : St12 tp n (up (up (up w (185 + 7 * w 4) (pS tp n σ)) (186 + 7 * w 4) (pW tp n σ)) (187 + 7 * w 4) (pV tp n σ)) (p4 tp n σ) μ0 μ) : T (fnX12_readPerson_J87 146 (nI (w 4)) (nI (185 + 7 * w 4)) (nI (if pM tp n σ = true then 1 else 0)) (nI (188 + 7 * w 4)) 152) μ (Per12 tp n w σ μ0) := by
  have e_152 : ln 152 = 241 := rfl
  unfold fnX12_readPerson_J87
  rw [t_sai (by omega)]
  have S := st12_w h (i := 188 + 7 * w 4) (v := if pM tp n σ = true then 1 else 0) (eI_o (fun p => by omega))
  revert S
  generalize (u2 μ.1 152 (188 + 7 * w 4) (nI (if pM tp n σ = true then 1 else 0)), μ.2) = μ1
  intro S
  rw [t_bnd]
  refine t_mono (take12C hn hB 13 S.1) ?_
  rintro x μ2 ⟨rfl, a2, a3⟩
  have S2 := person109 (σ := σ) hn hB h4 hh (st12_g S a2 a3)
  rw [lk_146_14, li_4, nI_add, show 185 + 7 * w 4 + 4 = 189 + 7 * w 4 by omega]
  show T (m_br (bI (pB tp n σ) = 0) _ _) μ2 _
  cases hb : pB tp n σ
  · rw [hb] at S2
    rw [t_brT (by decide)]
    exact S2
  · rw [hb] at S2
    rw [t_brF (by decide)]
    exact S2
theorem person12_T (hn : n ≤ 1600) (hB : Byt tp n) (h4 : w 4 < 8) (hh : ∀ q, q < w 4 → w (190 + 7 * q) ≤ 8) {μ : sm_Mem} (h : St12 tp n w (adS tp n σ) μ0 μ) : T (fnX12_readPerson 146) μ (Per12 tp n w σ μ0) := by
  have e_152 : ln 152 = 241 := rfl
  unfold fnX12_readPerson
  rw [lk_146_14, li_4, t_ai (by omega), w152 h.2.1 (by omega), li_185, li_7, pk_mul, nI_add, t_nm, t_bnd]
  refine t_mono (pair12C (lo := 1) (hb := 10) (hi := 9) hn hB 9 (by omega) (by decide) (by omega) h.1) ?_
  rintro x μ1 ⟨rfl, a2, a3⟩
  have S1 : St12 tp n w (p1 tp n σ) μ0 μ1 := st12_g h a2 a3
  rw [li_0, nI_add, Nat.add_zero, t_sai (by omega)]
  have S2 : St12 tp n (up w (185 + 7 * w 4) (pS tp n σ)) (p1 tp n σ) μ0 (u2 μ1.1 152 (185 + 7 * w 4) (nI (pS tp n σ)), μ1.2) := st12_w S1 (eI_o (fun p => by omega))
  show T _ (u2 μ1.1 152 (185 + 7 * w 4) (nI (pS tp n σ)), μ1.2) _
  revert S2
  generalize (u2 μ1.1 152 (185 + 7 * w 4) (nI (pS tp n σ)), μ1.2) = μ2
  intro S2
  rw [t_bnd]
  refine t_mono (pair12C (lo := 1) (hb := 4) (hi := 3) hn hB 10 (by omega) (by decide) (by omega) S2.1) ?_
  rintro x μ3 ⟨rfl, b2, b3⟩
  have S3 : St12 tp n (up w (185 + 7 * w 4) (pS tp n σ)) (p2 tp n σ) μ0 μ3 := st12_g S2 b2 b3
  rw [li_1, nI_add, t_sai (by omega), show 185 + 7 * w 4 + 1 = 186 + 7 * w 4 by omega]
  have S4 : St12 tp n (up (up w (185 + 7 * w 4) (pS tp n σ)) (186 + 7 * w 4) (pW tp n σ)) (p2 tp n σ) μ0 (u2 μ3.1 152 (186 + 7 * w 4) (nI (pW tp n σ)), μ3.2) := st12_w S3 (eI_o (fun p => by omega))
  show T _ (u2 μ3.1 152 (186 + 7 * w 4) (nI (pW tp n σ)), μ3.2) _
  revert S4
  generalize (u2 μ3.1 152 (186 + 7 * w 4) (nI (pW tp n σ)), μ3.2) = μ4
  intro S4
  rw [t_bnd]
  refine t_mono (pair12C (lo := 0) (hb := 100) (hi := 99) hn hB 11 (by omega) (by decide) (by omega) S4.1) ?_
  rintro x μ5 ⟨rfl, c2, c3⟩
  have S5 : St12 tp n (up (up w (185 + 7 * w 4) (pS tp n σ)) (186 + 7 * w 4) (pW tp n σ)) (p3 tp n σ) μ0 μ5 := st12_g S4 c2 c3
  rw [li_2, nI_add, t_sai (by omega), show 185 + 7 * w 4 + 2 = 187 + 7 * w 4 by omega]
  have S6 : St12 tp n (up (up (up w (185 + 7 * w 4) (pS tp n σ)) (186 + 7 * w 4) (pW tp n σ)) (187 + 7 * w 4) (pV tp n σ)) (p3 tp n σ) μ0 (u2 μ5.1 152 (187 + 7 * w 4) (nI (pV tp n σ)), μ5.2) := st12_w S5 (eI_o (fun p => by omega))
  show T _ (u2 μ5.1 152 (187 + 7 * w 4) (nI (pV tp n σ)), μ5.2) _
  revert S6
  generalize (u2 μ5.1 152 (187 + 7 * w 4) (nI (pV tp n σ)), μ5.2) = μ6
  intro S6
  rw [t_bnd]
  refine t_mono (take12C hn hB 12 S6.1) ?_
  rintro x μ7 ⟨rfl, d2, d3⟩
  have S7 := person87 (σ := σ) hn hB h4 hh (st12_g S6 d2 d3)
  rw [li_3, nI_add, show 185 + 7 * w 4 + 3 = 188 + 7 * w 4 by omega]
  show T (m_br (bI (pM tp n σ) = 0) _ _) μ7 _
  cases hb : pM tp n σ
  · rw [hb] at S7
    rw [t_brT (by decide)]
    exact S7
  · rw [hb] at S7
    rw [t_brF (by decide)]
    exact S7
end
