/-! ===== WHAT IS LEFT, DOUBTS ===== -/
theorem sub_le {a b : Nat} (ha : a < 2 ^ 30) (hb : b < 2 ^ 30) : (nI a - nI b ≤ nI 0) ↔ a ≤ b := by
  rw [fa_le, pk_sub_toInt ha hb, nI_toInt (by omega)]
  omega
theorem jmax_sub {a b : Nat} (ha : a < 2 ^ 30) (hb : b < 2 ^ 30) : jmax (nI 0) (nI a - nI b) = nI (a - b) := by
  unfold jmax
  have h : (nI 0 < nI a - nI b) ↔ ¬ (nI a - nI b ≤ nI 0) := by
    rw [fa_lt, fa_le]
    omega
  rw [sub_le ha hb] at h
  by_cases c : a ≤ b
  · rw [if_neg (fun q => h.mp q c), show a - b = 0 by omega]
  · rw [if_pos (h.mpr c), pk_sub (by omega)]
theorem leftOf_eq {w : Nat → Nat} {μ : sm_Mem} {c s : Nat} (hR : RH 14 w μ) (hS : SH c w μ) (hc : isSc c) (hG : Good w) (hs : s < w 3) : fnX9_leftOf c (nI s) μ = some (nI (lf w s), μ) := by
  obtain ⟨k0, k2, k3, k4, l1, l2, l3⟩ := sc_lk hc
  have n24 := hG.1
  have g := hG.2.2.2.1 s hs
  have r := hR.2.2.2.1 s hs
  have a1 : μ.1 17 s = nI (w (12 + 7 * s)) := r.2.2.1
  have a2 : μ.1 18 s = nI (w (13 + 7 * s)) := r.2.2.2.1
  have b0 := hS.1
  have b1 := hS.2.1 s (by omega)
  have b2 := hS.2.2.1 s hs
  have kl : kc (w (15 + 7 * s)) ≤ 2 := by
    unfold kc
    split <;> omega
  have ke : kc (w (15 + 7 * s)) = 1 ↔ w (15 + 7 * s) = 2 := by
    unfold kc
    split <;> omega
  have e_17 : ln 17 = 24 := rfl
  have e_18 : ln 18 = 24 := rfl
  unfold fnX9_leftOf fnX9_leftOf_J30 fnX9_leftOf_J53 lf
  simp (disch := (first | assumption | omega)) only [m_bnd, m_br, m_gi, m_gl, m_ret, m_nm, e_ai, e_al, e_ap, k0, k2, k3, lk_14_10, lk_14_11, a1, a2, b0, b1, b2, li_0, li_1, nI_leI, nI_ltI, nI_eq, ke, sub_le]
  have fin : ∀ v, v ≤ 9 → (if v ≤ w (16 + 7 * s) then some (nI 0, μ) else some (nI v - nI (w (16 + 7 * s)), μ)) = some (nI (v - w (16 + 7 * s)), μ) := by
    intro v _
    by_cases h : v ≤ w (16 + 7 * s)
    · rw [if_pos h, show v - w (16 + 7 * s) = 0 by omega]
    · rw [if_neg h, pk_sub (by omega)]
  rw [fin 1 (by omega), fin (w (12 + 7 * s)) (by omega)]
  (repeat' split) <;> first | rfl | (exfalso; omega)
theorem inDoubt_eq {w : Nat → Nat} {μ : sm_Mem} {c s : Nat} (hR : RH 14 w μ) (hS : SH c w μ) (hc : isSc c) (hG : Good w) (hs : s < w 3) : fnX9_inDoubt c (nI s) μ = some (dbt w s, μ) := by
  obtain ⟨k0, k2, k3, k4, l1, l2, l3⟩ := sc_lk hc
  have n24 := hG.1
  have g := hG.2.2.2.1 s hs
  have a1 : μ.1 19 s = nI (w (14 + 7 * s)) := (hR.2.2.2.1 s hs).2.2.2.2
  have b2 := hS.2.2.1 s hs
  have kl : kc (w (15 + 7 * s)) ≤ 2 := by
    unfold kc
    split <;> omega
  have ke : kc (w (15 + 7 * s)) = 0 ↔ w (15 + 7 * s) = 0 := by
    unfold kc
    split <;> omega
  have e_19 : ln 19 = 24 := rfl
  unfold fnX9_inDoubt dbt
  simp (disch := (first | assumption | omega)) only [m_bnd, m_br, m_gi, m_gl, m_ret, m_nm, e_ai, e_al, e_ap, k0, k2, k3, lk_14_12, a1, b2, li_0, nI_leI, nI_eq, ke]
  by_cases h1 : w (14 + 7 * s) ≤ 0
  · rw [if_pos h1, decide_eq_false (by omega)]
  · rw [if_neg h1]
    by_cases h2 : w (15 + 7 * s) = 0
    · rw [if_pos h2, decide_eq_true (by omega)]
    · rw [if_neg h2, decide_eq_false (by omega)]
theorem bearsNow12 {w : Nat → Nat} {μ : sm_Mem} {s : Nat} (hW : WH 147 w μ) (hG : Good w) (hs : s < w 3) : fnX12_bearsNow 146 (nI s) μ = some (nI (if w (15 + 7 * s) = 2 then 1 else w (12 + 7 * s)), μ) := by
  have n24 := hG.1
  have g := hG.2.2.2.1 s hs
  have e5 : 10 + 7 * s + 5 = 15 + 7 * s := by omega
  have e2 : 10 + 7 * s + 2 = 12 + 7 * s := by omega
  unfold fnX12_bearsNow
  simp (disch := (first | assumption | omega)) only [m_bnd, m_br, m_gi, m_gl, m_ret, m_nm, e_ai, e_al, e_ap, ofStone_eq hW, li_1, li_2, li_5, e5, e2, nI_eq]
  split <;> rfl
theorem left12 {w : Nat → Nat} {μ : sm_Mem} {s : Nat} (hW : WH 147 w μ) (hG : Good w) (hs : s < w 3) : fnX12_left 146 (nI s) μ = some (nI (lf w s), μ) := by
  have n24 := hG.1
  have g := hG.2.2.2.1 s hs
  have w7 := wh_lo hW (i := 7) (by omega)
  have e3 : 10 + 7 * s + 3 = 13 + 7 * s := by omega
  have e6 : 10 + 7 * s + 6 = 16 + 7 * s := by omega
  have e_147 : ln 147 = 241 := rfl
  have hb : (if w (15 + 7 * s) = 2 then 1 else w (12 + 7 * s)) ≤ 9 := by split <;> omega
  have n01 : ¬ (1 : Nat) = 0 := by omega
  unfold fnX12_left fnX12_left_J29 fnX12_left_J30 lf
  simp (disch := (first | assumption | omega)) only [m_bnd, m_br, m_gi, m_gl, m_ret, m_nm, e_ai, e_al, e_ap, ofStone_eq hW, bearsNow12 hW hG hs, li_0, li_1, li_3, li_6, li_7, e3, e6, nI_eq, nI_leI, nI_ltI, lk_146_1, w7, jmax_sub, n01, if_true, if_false]
  (repeat' split) <;> first | rfl | (exfalso; omega)
theorem isInDoubt12 {w : Nat → Nat} {μ : sm_Mem} {s : Nat} (hW : WH 147 w μ) (hG : Good w) (hs : s < w 3) : fnX12_isInDoubt 146 (nI s) μ = some (dbt w s, μ) := by
  have n24 := hG.1
  have g := hG.2.2.2.1 s hs
  have e4 : 10 + 7 * s + 4 = 14 + 7 * s := by omega
  have e5 : 10 + 7 * s + 5 = 15 + 7 * s := by omega
  unfold fnX12_isInDoubt dbt
  simp (disch := (first | assumption | omega)) only [m_bnd, m_br, m_gi, m_gl, m_ret, m_nm, e_ai, e_al, e_ap, ofStone_eq hW, li_0, li_4, li_5, e4, e5, nI_eq, nI_leI]
  by_cases h1 : w (14 + 7 * s) ≤ 0
  · rw [if_pos h1, decide_eq_false (by omega)]
  · rw [if_neg h1]
    by_cases h2 : w (15 + 7 * s) = 0
    · rw [if_pos h2, decide_eq_true (by omega)]
    · rw [if_neg h2, decide_eq_false (by omega)]
/-! ===== stone, may, person, end, hour ===== -/
/-- a pair of calls that only read -/
theorem op_ro {β : Type} {f g : sm_M β} (h : ∀ w μ, Core w μ → ∃ r, f μ = some (r, μ) ∧ g μ = some (r, μ)) : op2 Inv f g := by
  rintro μ ⟨w, hC, hO⟩
  obtain ⟨r, h1, h2⟩ := h w μ hC
  exact ⟨r, μ, μ, h1, h2, w, hC, hO⟩
theorem op_may (a b r : Int32) : op2 Inv (fnX11_may 0 a b r) (fnX12_may 146 a b r) := by
  apply op_ro
  rintro w μ ⟨hG, hR, hS, hW, -⟩
  unfold fnX11_may fnX12_may
  simp only [m_bnd, m_br, m_ret, lk_0_5, isPlace7 hR hG, isPlace12 hW hG, isStride11 hR hG, isStride12, bI_0]
  cases hA : (decide (0 < w 0) && (rg a 0 ((w 3 : Int) - 1) || decide (a = 98 ∨ a = 99)))
  · exact ⟨_, rfl, rfl⟩
  cases hB : (decide (0 < w 0) && (rg b 0 ((w 3 : Int) - 1) || decide (b = 98 ∨ b = 99)))
  · exact ⟨_, rfl, rfl⟩
  obtain ⟨a', rfl, ha⟩ := pl_nI hG hA
  obtain ⟨b', rfl, hb⟩ := pl_nI hG hB
  rw [decide_eq_true ha.1, Bool.true_and]
  cases hr : rg r 1 9
  · exact ⟨_, rfl, rfl⟩
  obtain ⟨r', h1, h2, rfl⟩ := rg_nat (a := 1) (b := 9) hr (by omega)
  simp (disch := omega) only [joins7 hR hG ha.2 hb.2, isStep12 hW hG ha.2 hb.2]
  cases stp w a' b' r' <;> exact ⟨_, rfl, rfl⟩
theorem op_stone (s k : Int32) : op2 Inv (fnX11_stone 0 s k) (fnX12_stone 146 s k) := by
  apply op_ro
  rintro w μ ⟨hG, hR, hS, hW, -⟩
  unfold fnX11_stone fnX12_stone fnX11_knowledgeOf
  simp only [m_bnd, m_br, m_ret, lk_0_5, lk_0_6, isStone11 hR hG, isStone12 hW hG, in_eq, t64_0, t64_4, bI_0]
  cases hA : rg s 0 ((w 3 : Int) - 1)
  · exact ⟨_, rfl, rfl⟩
  have n24 := hG.1
  obtain ⟨j, hj, rfl⟩ := rg_nI hA (by omega)
  have g := hG.2.2.2.1 j hj
  have r := hR.2.2.2.1 j hj
  have a1 : μ.1 15 j = nI (w (10 + 7 * j)) := r.1
  have a2 : μ.1 16 j = nI (w (11 + 7 * j)) := r.2.1
  have b1 : μ.1 25 j = nI (w (16 + 7 * j)) := hS.2.1 j (by omega)
  have b2 : μ.1 26 j = nI (kc (w (15 + 7 * j))) := hS.2.2.1 j hj
  have kl : kc (w (15 + 7 * j)) ≤ 2 := by
    unfold kc
    split <;> omega
  have ke : kc (w (15 + 7 * j)) = 1 ↔ w (15 + 7 * j) = 2 := by
    unfold kc
    split <;> omega
  have e_15 : ln 15 = 24 := rfl
  have e_16 : ln 16 = 24 := rfl
  have e_25 : ln 25 = 24 := rfl
  have e_26 : ln 26 = 24 := rfl
  have f0 : 10 + 7 * j + 0 = 10 + 7 * j := by omega
  have f1 : 10 + 7 * j + 1 = 11 + 7 * j := by omega
  have f5 : 10 + 7 * j + 5 = 15 + 7 * j := by omega
  have f6 : 10 + 7 * j + 6 = 16 + 7 * j := by omega
  cases hk : rg k 0 4
  · have no : ∀ z : Nat, z ≤ 4 → ¬ k = nI z := by
      intro z hz e
      subst e
      rw [rg_of (by omega) (by omega) (by omega)] at hk
      cases hk
    refine ⟨-2, ?_, rfl⟩
    rw [if_neg (by decide), if_neg (show ¬ k = 0 from no 0 (by omega)), if_neg (show ¬ k = 1 from no 1 (by omega)), if_neg (show ¬ k = 2 from no 2 (by omega)), if_neg (show ¬ k = 3 from no 3 (by omega)), if_neg (show ¬ k = 4 from no 4 (by omega))]
  obtain ⟨k', -, h2, rfl⟩ := rg_nat (a := 0) (b := 4) hk (by omega)
  simp (disch := (first | assumption | omega)) only [li_0, li_1, li_2, li_3, li_4, nI_eq, nI_leI, lk_14_8, lk_14_9, lk_24_2, lk_24_3, e_ai, a1, a2, b1, b2, ke, leftOf_eq hR hS sc_24 hG hj, inDoubt_eq hR hS sc_24 hG hj, left12 hW hG hj, isInDoubt12 hW hG hj, bI_n0, bI_0, li_5, li_6, ofStone_eq hW, f5, f6, m_ret]
  have cs : k' = 0 ∨ k' = 1 ∨ k' = 2 ∨ k' = 3 ∨ k' = 4 := by omega
  rcases cs with rfl | rfl | rfl | rfl | rfl
  · exact ⟨nI (w (10 + 7 * j)), rfl, by simp [f0]⟩
  · exact ⟨nI (w (11 + 7 * j)), rfl, by simp [f1]⟩
  · exact ⟨nI (lf w j), rfl, by simp⟩
  · exact ⟨nI (w (16 + 7 * j)), rfl, by simp⟩
  · cases dbt w j
    · by_cases h3 : w (15 + 7 * j) = 2
      · exact ⟨nI 1, by simp [h3, m_br, m_ret], by simp [h3]⟩
      · exact ⟨nI 0, by simp [h3, m_br, m_ret], by simp [h3]⟩
    · exact ⟨-nI 1, by simp, by simp⟩
