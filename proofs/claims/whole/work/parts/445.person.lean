/-! ===== READING: a person, the reference, from its head ===== -/
section
variable {tp : Nat → Int32} {n : Nat} {w : Nat → Nat} {σ : Nat × Option (Nat × Nat)} {μ0 : sm_Mem}
theorem person109 (hn : n ≤ 1600) (hB : Byt tp n) (h4 : w 4 < 8) (hh : ∀ q, q < w 4 → w (190 + 7 * q) ≤ 8) {μ : sm_Mem} (h : St12 tp n (up (up (up (up w (185 + 7 * w 4) (pS tp n σ)) (186 + 7 * w 4) (pW tp n σ)) (187 + 7 * w 4) (pV tp n σ)) (188 + 7 * w 4) (if pM tp n σ = true then 1 else 0)) (p5 tp n σ) μ0 μ) : T (fnX12_readPerson_J109 146 (nI (w 4)) (nI (185 + 7 * w 4)) (nI (if pB tp n σ = true then 1 else 0)) (nI (189 + 7 * w 4)) 152) μ (Per12 tp n w σ μ0) := by
  have e_152 : ln 152 = 241 := rfl
  have em : (-1 : Int32) = eI (190 + 7 * w 4) 0 := by
    unfold eI
    rw [if_pos (by omega)]
    rfl
  unfold fnX12_readPerson_J109
  rw [t_sai (by omega), lk_146_14, li_5, nI_add, t_sai (by omega), li_6, nI_add, t_sai (by omega), show 185 + 7 * w 4 + 5 = 190 + 7 * w 4 by omega, show 185 + 7 * w 4 + 6 = 191 + 7 * w 4 by omega]
  have S := st12_w (st12_w (st12_w h (i := 189 + 7 * w 4) (v := if pB tp n σ = true then 1 else 0) (eI_o (fun p => by omega))) (i := 190 + 7 * w 4) (v := 0) em) (i := 191 + 7 * w 4) (v := 98) (x := (98 : Int32)) (eI_o (v := 98) (fun p => by omega))
  have S : St12 tp n (peA tp n w σ) (p5 tp n σ) μ0 _ := S
  revert S
  generalize (u2 (u2 (u2 μ.1 152 (189 + 7 * w 4) (nI (if pB tp n σ = true then 1 else 0)), μ.2).1 152 (190 + 7 * w 4) (-1), (u2 μ.1 152 (189 + 7 * w 4) (nI (if pB tp n σ = true then 1 else 0)), μ.2).2).1 152 (191 + 7 * w 4) 98, (u2 (u2 μ.1 152 (189 + 7 * w 4) (nI (if pB tp n σ = true then 1 else 0)), μ.2).1 152 (190 + 7 * w 4) (-1), (u2 μ.1 152 (189 + 7 * w 4) (nI (if pB tp n σ = true then 1 else 0)), μ.2).2).2) = μ1
  intro S
  rw [t_bnd]
  refine t_mono (take12C hn hB 14 S.1) ?_
  rintro x μ2 ⟨rfl, a2, a3⟩
  have S2 := st12_g S a2 a3
  have a2 : C12 tp n (p6 tp n σ) μ2 := a2
  show T (m_br (bI (pH tp n σ) = 0) _ _) μ2 _
  cases hH : pH tp n σ
  · have e6 : p6 tp n σ = p5 tp n σ := by
      unfold p6 tkS
      rw [show flS tp n 14 (p5 tp n σ) = false from hH, if_neg (by decide)]
    have e8 : p8 tp n w σ = p5 tp n σ := by
      unfold p8
      rw [hH, if_neg (by decide)]
    rw [t_brT (by decide)]
    refine person238 h4 (z := peA tp n w σ) ?_ (peA_4 h4) (fun _ => ?_)
    · rw [e8, ← e6]
      exact S2
    · unfold peH
      rw [hH, if_neg (by decide)]
  · have hl := adv_le (tp := tp) a2.2.1
    have keep : pD tp n w σ = false → T (fnX12_readPerson_J197 146 (nI (w 4)) (nI (185 + 7 * w 4))) μ2 (Per12 tp n w σ μ0) := by
      intro hD
      have e : p7 tp n w σ = p6 tp n σ := by
        unfold p7
        rw [hD, if_neg (by decide)]
      exact person197 hn hB h4 hH (by rw [e]; exact S2)
    rw [t_brF (by decide), t_bnd, t_eq (gd12 a2.2.2.2)]
    have hnone : (p6 tp n σ).2 = none := by
      have hH' := hH
      unfold pH flS at hH'
      simp only [Bool.and_eq_true, decide_eq_true_eq] at hH'
      unfold p6 tkS
      rw [show flS tp n 14 (p5 tp n σ) = true from hH, if_pos rfl]
      exact hH'.1
    rw [decide_eq_true hnone, t_brF (by decide), t_gi, a2.2.2.1.2.2.1]
    by_cases c1 : aKd tp n (p6 tp n σ).1 = 2
    · have h11 := a2.2.2.1.2.2.2 c1
      rw [t_brT (by rw [c1]; rfl), t_gi, h11, t_bnd, t_eq (in_eq _ _ _ _), t64_0, Int32.toInt_toInt64, hiR (by omega)]
      have er : rg (nI (min 99999 (aVl tp n (p6 tp n σ).1))) 0 ((w 4 : Int) - 1) = decide (aVl tp n (p6 tp n σ).1 < w 4) := by
        unfold rg
        rw [nI_toInt (by omega)]
        apply decide_eq_decide.mpr
        omega
      rw [er]
      by_cases c2 : aVl tp n (p6 tp n σ).1 < w 4
      · have hb := hh _ c2
        have x := S2.2.1 (190 + 7 * aVl tp n (p6 tp n σ).1) (by omega)
        rw [peA_h h4 c2] at x
        unfold eI at x
        rw [if_pos (by omega)] at x
        rw [decide_eq_true c2, t_brF (by decide), t_gi, h11, show min 99999 (aVl tp n (p6 tp n σ).1) = aVl tp n (p6 tp n σ).1 by omega, li_185, li_7, pk_mul, nI_add, nI_add, t_ai (by omega), show 185 + 7 * aVl tp n (p6 tp n σ).1 + 5 = 190 + 7 * aVl tp n (p6 tp n σ).1 by omega, x]
        by_cases c3 : w (190 + 7 * aVl tp n (p6 tp n σ).1) = 0
        · rw [t_brT ((hd_m1 (by omega)).mpr c3)]
          exact keep (decide_eq_false (fun z => z.2.2 c3))
        · have hD : pD tp n w σ = true := decide_eq_true ⟨c1, c2, c3⟩
          have e : p7 tp n w σ = rfS tp n 2 (p6 tp n σ) := by
            unfold p7
            rw [hD, if_pos rfl]
          rw [t_brF (fun z => c3 ((hd_m1 (by omega)).mp z)), li_2, t_bnd]
          refine t_mono (ref12C hn (by omega) (by omega) a2) ?_
          rintro _ μ3 ⟨b1, b2⟩
          exact person197 hn hB h4 hH (by rw [e]; exact st12_g S2 b1 b2)
      · rw [decide_eq_false c2, t_brT (by decide)]
        exact keep (decide_eq_false (fun z => c2 z.2.1))
    · rw [t_brF (show ¬ nI (aKd tp n (p6 tp n σ).1) = (2 : Int32) from fun z => c1 ((nI_eq (b := 2) (by omega) (by omega)).mp z))]
      exact keep (decide_eq_false (fun z => c1 z.1))
end
