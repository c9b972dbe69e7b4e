/-! ===== READING: a line, the component ===== -/
section
variable {tp : Nat → Int32} {n : Nat} {w z : Nat → Nat} {σ τ : Nat × Option (Nat × Nat)} {μ0 μ : sm_Mem}
/-- what a line may build on -/
def LB (w : Nat → Nat) : Prop := w 1 ≤ 12 ∧ w 2 ≤ 20 ∧ w 3 ≤ 24 ∧ w 4 ≤ 8 ∧ w 5 ≤ 4 ∧ w 8 ≤ 1 ∧ w 0 < 4096 ∧ (∀ s, s < w 3 → w (10 + 7 * s) < 1000 ∧ w (11 + 7 * s) < 1000) ∧ (∀ q, q < w 4 → w (190 + 7 * q) ≤ 8) ∧ (w 3 < 24 → w (14 + 7 * w 3) = 0)
theorem rf_line6 (hn : n ≤ 1600) {c : Nat} (hc1 : 1 ≤ c) (hc3 : c ≤ 3) (hq : σ.2 = none) (hc : C6 tp n σ μ) : T (m_bnd (fnX6_refuse 2 (nI c)) fun _ => fnX6_readLine_J98 2) μ (fun _ μ' => Bd6 tp n (lnS tp n (rfS tp n c σ)) z μ μ') := by
  have hs : (rfS tp n c σ).2 ≠ none := by
    rw [rfS_none hq]
    exact fun z => (by cases z)
  have e : lnS tp n (rfS tp n c σ) = rfS tp n c σ := by
    unfold lnS
    rw [if_neg hs]
  rw [t_bnd]
  refine t_mono (ref6C hn hc1 hc3 hc) ?_
  rintro _ μ1 ⟨c1, f1⟩
  refine t_mono (line98_6 (z := z) hn ⟨c1, fun q => absurd q hs, frG_Bd f1⟩) ?_
  intro _ μ2 h
  rw [e] at h ⊢
  exact ⟨h.1, fun q => absurd q hs, h.2.2⟩
theorem peW_o {i : Nat} (h4 : i ≠ 4) (h : i < 185) : peW tp n w σ i = w i := by
  unfold peW
  rw [up_ne h4, peH_o (by omega), peA_o (by omega)]
theorem line6_T (hn : n ≤ 1600) (hw : LB w) (hq : σ.2 = none) (hc : C6 tp n σ μ) (hR : RW w μ) : T (fnX6_readLine 2) μ (fun _ μ' => Bd6 tp n (lnS tp n (bdS tp n w σ)) (up (bdW tp n w σ) 0 (bdW tp n w σ 0 + 1)) μ μ') := by
  obtain ⟨b1, b2, b3, b4, b5, b8, b0, bxy, bh, b14⟩ := hw
  unfold fnX6_readLine
  rw [lk_2_0, t_gi, hR.1.1.1]
  have W : ∀ i, fnX6_isWord 2 i μ = some (isW tp n i σ.1, μ) := fun i => word6 hn hc.2.1 hc.1 hc.2.2.1
  by_cases c0 : w 0 = 0
  · rw [t_brT (by rw [c0]; rfl)]
    unfold fnX6_readLine_J15
    rw [t_bnd, t_eq (W 0)]
    cases w0 : isW tp n 0 σ.1
    · rw [t_brF (by decide), li_1, show bdS tp n w σ = rfS tp n 1 σ by unfold bdS; rw [if_pos c0, w0, if_neg (by decide)]]
      exact rf_line6 hn (by omega) (by omega) hq hc
    · rw [t_brT (by decide), t_brF (by decide), show bdS tp n w σ = waS tp n σ by unfold bdS; rw [if_pos c0, w0, if_pos rfl], show bdW tp n w σ = waW tp n w σ by unfold bdW; rw [if_pos c0], t_bnd]
      refine t_mono (water6 hn hc hR) ?_
      intro _ μ1 h
      exact line98_6 hn h
  · rw [t_brF (show ¬ nI (w 0) = (0 : Int32) from fun z => c0 ((nI_eq (b := 0) (by omega) (by omega)).mp z))]
    unfold fnX6_readLine_J15
    rw [t_bnd, t_eq (W 0)]
    cases w0 : isW tp n 0 σ.1
    · rw [t_brT (by decide), t_brT (by decide), t_bnd, t_eq (W 3)]
      cases w3 : isW tp n 3 σ.1
      · rw [t_brT (by decide), t_bnd, t_eq (W 8)]
        cases w8 : isW tp n 8 σ.1
        · rw [t_brT (by decide), t_bnd, t_eq (W 15)]
          cases w15 : isW tp n 15 σ.1
          · rw [t_brT (by decide), li_1, show bdS tp n w σ = rfS tp n 1 σ by unfold bdS; rw [if_neg c0, w0, w3, w8, w15, if_neg (by decide), if_neg (by decide), if_neg (by decide), if_neg (by decide)]]
            exact rf_line6 hn (by omega) (by omega) hq hc
          · rw [t_brF (by decide), t_bnd, show bdS tp n w σ = if w 8 = 0 then nuS tp n 1 10 (adS tp n σ) else rfS tp n 2 σ by unfold bdS; rw [if_neg c0, w0, w3, w8, w15, if_neg (by decide), if_neg (by decide), if_neg (by decide), if_pos rfl], show bdW tp n w σ = plW tp n w σ by unfold bdW; rw [if_neg c0, w3, w8, if_neg (by decide), if_neg (by decide)]]
            refine t_mono (plank6 hn b8 hq w15 hc hR) ?_
            intro _ μ1 h
            exact line98_6 hn h
        · rw [t_brF (by decide)]
          have e1 : bdS tp n w σ = if w 4 < 8 then p8 tp n w σ else rfS tp n 3 σ := by
            unfold bdS
            rw [if_neg c0, w0, w3, w8, if_neg (by decide), if_neg (by decide), if_pos rfl]
          have e2 : bdW tp n w σ = peW tp n w σ := by
            unfold bdW
            rw [if_neg c0, w3, w8, if_neg (by decide), if_pos rfl]
          by_cases c4 : w 4 < 8
          · rw [e1, e2, if_pos c4, t_bnd]
            refine t_mono (person6_T hn c4 b3 bh hc hR.1) ?_
            rintro _ μ1 ⟨h1, h2, h3⟩
            refine line98_6 hn ⟨h1, fun q => ⟨h2 q, ?_, ?_⟩, fun k q => h3.1 k (by omega), h3.2.1, h3.2.2⟩
            · rw [h3.1 9 (by omega), peW_o (by omega) (by omega)]
              exact hR.2.1
            · rw [h3.1 10 (by omega), peW_o (by omega) (by omega)]
              exact hR.2.2
          · rw [e1, if_neg c4]
            unfold fnX6_readPerson
            rw [t_bnd, lk_2_0, t_gi, hR.1.1.2.2.2.2.2, t_brF (show ¬ nI (w 4) < (8 : Int32) from nI_nlt (b := 8) (by omega) (by omega)), li_3, t_bnd]
            have := rf_line6 (z := up (bdW tp n w σ) 0 (bdW tp n w σ 0 + 1)) hn (show 1 ≤ 3 by omega) (by omega) hq hc
            rw [t_bnd] at this
            refine t_mono this ?_
            intro _ μ1 h1
            rw [t_ret]
            exact h1
      · rw [t_brF (by decide)]
        have e1 : bdS tp n w σ = if w 3 < 24 then s8 tp n w σ else rfS tp n 3 σ := by
          unfold bdS
          rw [if_neg c0, w0, w3, if_neg (by decide), if_pos rfl]
        have e2 : bdW tp n w σ = stW tp n w σ := by
          unfold bdW
          rw [if_neg c0, w3, if_pos rfl]
        by_cases c3 : w 3 < 24
        · rw [e1, e2, if_pos c3, t_bnd]
          refine t_mono (stone6_T hn b1 b2 c3 b4 b5 bxy hc hR.1 hR.2.1) ?_
          rintro _ μ1 ⟨h1, h2, h3, h4⟩
          refine line98_6 hn ⟨h1, fun q => ⟨h2, h3, ?_⟩, fun k q => h4.1 k (by omega), h4.2.1, h4.2.2⟩
          rw [h4.1 10 (by omega), stW_o (by omega) (by omega) (by omega)]
          exact hR.2.2
        · rw [e1, if_neg c3]
          unfold fnX6_readStone
          rw [t_bnd, lk_2_0, t_gi, hR.1.1.2.2.2.2.1, t_brF (show ¬ nI (w 3) < (24 : Int32) from nI_nlt (b := 24) (by omega) (by omega)), li_3, t_bnd]
          have := rf_line6 (z := up (bdW tp n w σ) 0 (bdW tp n w σ 0 + 1)) hn (show 1 ≤ 3 by omega) (by omega) hq hc
          rw [t_bnd] at this
          refine t_mono this ?_
          intro _ μ1 h1
          rw [t_ret]
          exact h1
    · rw [t_brF (by decide), li_1, show bdS tp n w σ = rfS tp n 1 σ by unfold bdS; rw [if_neg c0, w0, if_pos rfl]]
      exact rf_line6 hn (by omega) (by omega) hq hc
end
