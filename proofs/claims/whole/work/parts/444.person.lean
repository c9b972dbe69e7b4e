/-! ===== READING: a person, the reference: hands ===== -/
section
variable {tp : Nat → Int32} {n : Nat} {w : Nat → Nat} {σ : Nat × Option (Nat × Nat)} {μ0 : sm_Mem}
theorem peA_4 (h4 : w 4 < 8) : peA tp n w σ 4 = w 4 := by
  unfold peA
  rw [up_ne (by omega), up_ne (by omega), up_ne (by omega), up_ne (by omega), up_ne (by omega), up_ne (by omega), up_ne (by omega)]
theorem peA_h (h4 : w 4 < 8) {q : Nat} (hq : q < w 4) : peA tp n w σ (190 + 7 * q) = w (190 + 7 * q) := by
  unfold peA
  rw [up_ne (by omega), up_ne (by omega), up_ne (by omega), up_ne (by omega), up_ne (by omega), up_ne (by omega), up_ne (by omega)]
theorem person197 (hn : n ≤ 1600) (hB : Byt tp n) (h4 : w 4 < 8) (hH : pH tp n σ = true) {μ : sm_Mem} (h : St12 tp n (peA tp n w σ) (p7 tp n w σ) μ0 μ) : T (fnX12_readPerson_J197 146 (nI (w 4)) (nI (185 + 7 * w 4))) μ (Per12 tp n w σ μ0) := by
  have e_152 : ln 152 = 241 := rfl
  have e8 : p8 tp n w σ = nuS tp n 0 (w 4) (p7 tp n w σ) := by
    unfold p8
    rw [if_pos hH]
  unfold fnX12_readPerson_J197
  rw [t_bnd]
  refine t_mono (num12C (lo := 0) (hb := w 4) hn hB (by omega) (hiR (by omega)) (by omega) h.1) ?_
  rintro x μ1 ⟨rfl, a2, a3⟩
  have hq : (nuS tp n 0 (w 4) (p7 tp n w σ)).2 = none → pQ tp n w σ < w 4 := fun z => (nuV_lt z).2.1
  have S := st12_g h a2 a3
  rw [← e8] at a2 S hq
  rw [t_bnd, t_eq (gd12 a2.2.2.2)]
  show T (m_br (bI (decide ((p8 tp n w σ).2 = none)) = 0) (fnX12_readPerson_J238 146) (m_sai (lk 146 14) (nI (185 + 7 * w 4) + (5 : Int32)) (nI (pQ tp n w σ)) <| m_sai (lk 146 14) (((185 : Int32) + ((7 : Int32) * nI (pQ tp n w σ))) + (5 : Int32)) (nI (w 4)) <| fnX12_readPerson_J238 146)) μ1 _
  by_cases q : (p8 tp n w σ).2 = none
  · have hq' := hq q
    rw [decide_eq_true q, t_brF (by decide), lk_146_14, li_5, nI_add, t_sai (by omega), li_185, li_7, pk_mul, nI_add, nI_add, t_sai (by omega), show 185 + 7 * w 4 + 5 = 190 + 7 * w 4 by omega, show 185 + 7 * pQ tp n w σ + 5 = 190 + 7 * pQ tp n w σ by omega]
    refine person238 h4 (st12_w (st12_w S (eI_h (by omega))) (eI_h (by omega))) ?_ (fun _ => ?_)
    · rw [up_ne (by omega), up_ne (by omega), peA_4 h4]
    · unfold peH
      rw [if_pos hH]
  · rw [decide_eq_false q, t_brT (by decide)]
    exact person238 h4 S (peA_4 h4) (fun z => absurd z q)
end
