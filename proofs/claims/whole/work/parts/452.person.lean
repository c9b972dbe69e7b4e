/-! ===== READING: a person, the component: hands and head ===== -/
section
variable {tp : Nat → Int32} {n : Nat} {w : Nat → Nat} {σ : Nat × Option (Nat × Nat)} {μ0 μ : sm_Mem}
theorem nuS_some {lo hb : Nat} {τ : Nat × Option (Nat × Nat)} (h : τ.2 ≠ none) : nuS tp n lo hb τ = τ := by
  have e2 : nuF tp n lo hb τ = τ := by
    unfold nuF
    rw [rfS_some h, rfS_some h]
    split
    · split <;> rfl
    · rfl
  unfold nuS
  rw [e2, if_neg h]
theorem hand157 (hn : n ≤ 1600) (h4 : w 4 < 8) (h3 : w 3 ≤ 24) (hh : ∀ q, q < w 4 → w (190 + 7 * q) ≤ 8) {v : Nat → Option Int32} (v0 : v 0 = some (nI (pS tp n σ))) (v1 : v 1 = some (nI (pW tp n σ))) (v2 : v 2 = some (nI (pV tp n σ))) (hw : isW tp n 14 (p5 tp n σ).1 = true) (h : Pe6 tp n w (p5 tp n σ) (pM tp n σ) (pB tp n σ) v μ0 μ) : T (m_bnd (fnX6_readHand 2 (nI (w 4))) fun _ => fnX6_readPerson_J157 2) μ (Per6 tp n w σ μ0) := by
  have e_12 : ln 12 = 8 := rfl
  have fin : ∀ (τ : Nat × Option (Nat × Nat)) (μ1 : sm_Mem), nuS tp n 0 (w 4) τ = p8 tp n w σ → ((p8 tp n w σ).2 = none → pH tp n σ = true ∧ τ = p7 tp n w σ) → Pe6 tp n w τ (pM tp n σ) (pB tp n σ) v μ0 μ1 → T (fnX6_readHand_J51 2 (nI (w 4))) μ1 (fun _ μ' => T (fnX6_readPerson_J157 2) μ' (Per6 tp n w σ μ0)) := by
    intro τ μ1 h1 h2 hP
    refine t_mono (hand51 hn h4 v0 v1 v2 h1 h2 hP) ?_
    rintro _ μ2 ⟨v', w0, w1, w2, c1, c2⟩
    by_cases q : (p8 tp n w σ).2 = none
    · obtain ⟨μ3, P3, x3, lq, rfl⟩ := c2 q
      have hH := (h2 q).1
      refine person157x h4 h3 P3 (fun a ha => ?_) rfl w0 w1 w2 (fun _ p hp => ?_)
      · show u2 μ3.1 12 _ _ a = μ3.1 a
        rw [u2_ne ha]
      · show u2 μ3.1 12 (pQ tp n w σ) (nI (w 4)) 12 p = _
        unfold peH
        rw [if_pos hH]
        by_cases cq : p = pQ tp n w σ
        · rw [cq, u2_at, up_at, li_1, pk_sub (by omega)]
          rfl
        · rw [u2_k cq, up_ne (by omega)]
          by_cases c4 : p = w 4
          · rw [c4, up_at, x3, li_1, pk_sub (by omega)]
            rfl
          · rw [up_ne (by omega), peA_h h4 (by omega)]
            exact (P3.2.1.2.2.2.2 p (by omega)).2.2.2
    · exact person157x h4 h3 (c1 q) (fun _ _ => rfl) rfl w0 w1 w2 (fun z => absurd z q)
  unfold fnX6_readHand
  rw [t_bnd, t_bnd]
  refine t_mono (flag6C hn 14 h.1) ?_
  rintro x μ1 ⟨rfl, a2, a3⟩
  have a2 : C6 tp n (p6 tp n σ) μ1 := a2
  have P1 : Pe6 tp n w (p6 tp n σ) (pM tp n σ) (pB tp n σ) v μ0 μ1 := pe6_g h a2 a3
  have hl := adv_le (tp := tp) a2.2.1
  rw [t_gi]
  by_cases q : (p5 tp n σ).2 = none
  · have hH : pH tp n σ = true := by
      unfold pH flS
      rw [decide_eq_true q, hw]
      rfl
    have e6 : p6 tp n σ = adS tp n (p5 tp n σ) := by
      unfold p6 tkS
      rw [show flS tp n 14 (p5 tp n σ) = true from hH, if_pos rfl]
    have q6 : (p6 tp n σ).2 = none := by
      rw [e6]
      exact q
    have e8 : nuS tp n 0 (w 4) (p7 tp n w σ) = p8 tp n w σ := by
      unfold p8
      rw [if_pos hH]
    have keep : pD tp n w σ = false → T (fnX6_readHand_J51 2 (nI (w 4))) μ1 (fun _ μ' => T (fnX6_readPerson_J157 2) μ' (Per6 tp n w σ μ0)) := by
      intro hD
      have e7 : p7 tp n w σ = p6 tp n σ := by
        unfold p7
        rw [hD, if_neg (by decide)]
      exact fin (p7 tp n w σ) μ1 e8 (fun _ => ⟨hH, rfl⟩) (by rw [e7]; exact P1)
    rw [t_brT ((fl6_0 a2.2.2.2).mpr q6), t_gi, a2.2.2.1.2.2.1]
    by_cases c1 : aKd tp n (p6 tp n σ).1 = 2
    · have h8 := a2.2.2.1.2.2.2 c1
      rw [t_brT (by rw [c1]; rfl), t_gi, h8]
      by_cases c2 : w 4 ≤ aVl tp n (p6 tp n σ).1
      · rw [t_brT (nI_le (by omega) (by omega))]
        exact keep (decide_eq_false (fun z => by omega))
      · have hb := hh _ (show aVl tp n (p6 tp n σ).1 < w 4 by omega)
        have x12 := (P1.2.1.2.2.2.2 (aVl tp n (p6 tp n σ).1) (by omega)).2.2.2
        rw [t_brF (nI_ge (by omega) (by omega)), t_gi, h8, show min 1000 (aVl tp n (p6 tp n σ).1) = aVl tp n (p6 tp n σ).1 by omega, lk_2_0, lk_3_16, t_ai (by omega), x12]
        by_cases c3 : w (190 + 7 * aVl tp n (p6 tp n σ).1) = 0
        · rw [t_brT ((hd_m1 (by omega)).mpr c3)]
          exact keep (decide_eq_false (fun z => z.2.2 c3))
        · have hD : pD tp n w σ = true := decide_eq_true ⟨c1, by omega, c3⟩
          have e7 : p7 tp n w σ = rfS tp n 2 (p6 tp n σ) := by
            unfold p7
            rw [hD, if_pos rfl]
          rw [t_brF (fun z => c3 ((hd_m1 (by omega)).mp z)), li_2, t_bnd]
          refine t_mono (ref6C hn (by omega) (by omega) a2) ?_
          rintro _ μ2 ⟨b1, b2⟩
          exact fin (p7 tp n w σ) μ2 e8 (fun _ => ⟨hH, rfl⟩) (by rw [e7]; exact pe6_g P1 b1 b2)
    · rw [t_brF (show ¬ nI (aKd tp n (p6 tp n σ).1) = (2 : Int32) from fun z => c1 ((nI_eq (b := 2) (by omega) (by omega)).mp z))]
      exact keep (decide_eq_false (fun z => c1 z.1))
  · have hH : pH tp n σ = false := by
      unfold pH flS
      rw [decide_eq_false q, Bool.false_and]
    have e6 : p6 tp n σ = p5 tp n σ := by
      unfold p6 tkS
      rw [show flS tp n 14 (p5 tp n σ) = false from hH, if_neg (by decide)]
    have e8 : p8 tp n w σ = p5 tp n σ := by
      unfold p8
      rw [hH, if_neg (by decide)]
    rw [t_brF (fun z => q (by rw [← e6]; exact (fl6_0 a2.2.2.2).mp z))]
    refine fin (p6 tp n σ) μ1 (by rw [e6, nuS_some q, e8]) (fun z => absurd (by rw [← e8]; exact z) q) P1
end
