/-! ===== order, gap ===== -/
theorem op_one {β : Type} {f g : sm_M β} (h : ∀ w μ, Core w μ → OH w μ → ∃ r, T f μ (fun r1 μ1 => r1 = r ∧ (∀ a, (a < 28 ∨ 32 ≤ a) → (a < 36 ∨ 41 ≤ a) → (a < 42 ∨ 74 ≤ a) → μ1.1 a = μ.1 a) ∧ μ1.2 = μ.2 ∧ OH w μ1) ∧ ∀ μ1 : sm_Mem, (∀ a, 146 ≤ a → μ1.1 a = μ.1 a) → μ1.2.1 = μ.2.1 → WH 147 w μ1 → T g μ1 (fun r2 μ2 => r2 = r ∧ RP w μ1 μ2)) : op2 Inv f g := by
  rintro μ ⟨w, hC, hO⟩
  obtain ⟨r, ⟨r1, μ1, h1, e1, c2, c3, c4⟩, hg⟩ := h w μ hC hO
  subst e1
  obtain ⟨g, r, s, wh, l, t, sl, im, rf⟩ := hC
  have wh1 : WH 147 w μ1 := wh_fr (fun i _ => by rw [c2 147 (by omega) (by omega) (by omega)]) wh
  obtain ⟨r2, μ2, h2, e2, d1, d2, d3, d4⟩ := hg μ1 (fun a ha => c2 a (by omega) (by omega) (by omega)) (by rw [c3]) wh1
  subst e2
  have both : ∀ a, (a = 0 ∨ a = 1 ∨ (14 ≤ a ∧ a < 28) ∨ (32 ≤ a ∧ a < 36) ∨ (95 ≤ a ∧ a < 146) ∨ (148 ≤ a ∧ a < 151) ∨ a = 168 ∨ a = 169) → μ2.1 a = μ.1 a := fun a ha => (d2 a (by omega)).trans (c2 a (by omega) (by omega) (by omega))
  have b146 : ∀ k, (k = 5 ∨ k = 12 ∨ k = 13 ∨ k = 21 ∨ k = 39 ∨ k = 40) → μ2.1 146 k = μ.1 146 k := fun k hk => (d3 k hk).trans (by rw [c2 146 (by omega) (by omega) (by omega)])
  have bl : ∀ a, (a < 146 ∨ a = 170) → μ2.2.1 a = μ.2.1 a := fun a ha => (d4 a ha).trans (by rw [c3])
  exact ⟨r2, μ1, μ2, h1, h2, w, ⟨g, rh_fr (fun a q1 q2 => both a (by omega)) r, sh_fr (fun a q1 q2 => both a (by omega)) s, d1, lks_fr (fun a q1 q2 => both a (by omega)) l, tp_fr (both 0 (by omega)) (both 1 (by omega)) (both 150 (by omega)) (b146 5 (by omega)) (b146 12 (by omega)) (b146 13 (by omega)) t, sl_fr (fun a q1 q2 => both a (by omega)) (both 168 (by omega)) (both 169 (by omega)) (fun a q1 q2 => bl a (by omega)) (bl 170 (by omega)) sl, im_fr (fun a q1 q2 => both a (by omega)) (both 95 (by omega)) (both 148 (by omega)) (both 149 (by omega)) im, rf_fr (b146 21 (by omega)) (b146 39 (by omega)) (b146 40 (by omega)) rf⟩, oh_fr (d2 42 (by omega)) (d2 45 (by omega)) c4⟩
section
variable {w : Nat → Nat} {way : Nat} {μ : sm_Mem}
theorem fin_rp {μ1 μ2 : sm_Mem} (hW : WH 147 w μ2) (h21 : μ1.1 146 21 = nI 0) (h21' : μ2.1 146 21 = nI 0) (f1 : ∀ a, a ≠ 146 → a ≠ 147 → (a < 153 ∨ 161 ≤ a) → μ2.1 a = μ1.1 a) (f2 : ∀ k, k ≠ 19 → k ≠ 21 → k ≠ 27 → (k < 22 ∨ 26 ≤ k) → k ≠ 30 → k ≠ 31 → μ2.1 146 k = μ1.1 146 k) (f3 : μ2.2 = μ1.2) : RP w μ1 μ2 := by
  refine ⟨hW, fun a ha => f1 a (by omega) (by omega) (by omega), fun k hk => ?_, fun a ha => by rw [f3]⟩
  by_cases c : k = 21
  · rw [c, h21, h21']
  · exact f2 k (by omega) c (by omega) (by omega) (by omega) (by omega)
/-- the reference's side of both: fill, look, find -/
theorem ref_T (hG : Good w) (hw : way < 4) (hW : WH 147 w μ) (h21 : μ.1 146 21 = nI 0) {bad : Int32} {g : sm_M Int32} {r : Int32} (hbad : ¬ (waiting w).length ≤ 6 → r = bad) (hgood : (waiting w).length ≤ 6 → ∀ μ2, Fin12 w way μ μ2 ∨ (WH 147 w μ2 ∧ μ2.1 146 21 = nI 0 ∧ μ2.1 146 27 = nI (waiting w).length ∧ BR (ordBest w way) μ2 ∧ (∀ a, a ≠ 146 → a ≠ 147 → (a < 153 ∨ 161 ≤ a) → μ2.1 a = μ.1 a) ∧ (∀ k, k ≠ 19 → k ≠ 21 → k ≠ 27 → (k < 22 ∨ 26 ≤ k) → k ≠ 30 → k ≠ 31 → μ2.1 146 k = μ.1 146 k) ∧ μ2.2 = μ.2) → T g μ2 (fun r2 μ3 => r2 = r ∧ WH 147 w μ3 ∧ μ3.1 146 21 = nI 0 ∧ (∀ a, a ≠ 146 → a ≠ 147 → (a < 153 ∨ 161 ≤ a) → μ3.1 a = μ2.1 a) ∧ (∀ k, k ≠ 19 → k ≠ 21 → k ≠ 27 → (k < 22 ∨ 26 ≤ k) → k ≠ 30 → k ≠ 31 → μ3.1 146 k = μ2.1 146 k) ∧ μ3.2 = μ2.2)) : T (m_bnd (fnX12_fillWaiting 146) fun _ => m_gi 146 27 fun x28 => m_br (x28 ≤ (6 : Int32)) (m_bnd (fnX12_findsOrder 146 (nI way)) fun _ => g) (m_ret bad)) μ (fun r2 μ2 => r2 = r ∧ RP w μ μ2) := by
  have hlen := wt_len hG
  rw [t_bnd]
  refine t_mono (fillW_T hG hW) ?_
  rintro _ μ1 ⟨a1, a2, a3, a4, a5⟩
  have a1 : μ1.1 146 27 = nI (waiting w).length := a1
  have W1 : WH 147 w μ1 := wh_fr (fun i _ => by rw [a3 147 (by omega) (by omega)]) hW
  rw [t_gi, a1]
  by_cases c : (waiting w).length ≤ 6
  · rw [t_brT (show nI (waiting w).length ≤ (6 : Int32) from nI_le (b := 6) c (by omega)), t_bnd]
    unfold fnX12_findsOrder
    refine t_mono (finds2 hG hw c (μ0 := μ1) 4096 0 μ1 (by omega) (by omega) W1 (by rw [a4 21 (by omega)]; exact h21) a1 a2 (fun i hi => by omega) (frOd_rf μ1)) ?_
    rintro _ μ2 ⟨b1, b2, b3, b4, b5, b6, b7⟩
    have f1 : ∀ a, a ≠ 146 → a ≠ 147 → (a < 153 ∨ 161 ≤ a) → μ2.1 a = μ.1 a := fun a q1 q2 q3 => (b5 a q1 q2 (by omega)).trans (a3 a q1 (by omega))
    have f2 : ∀ k, k ≠ 19 → k ≠ 21 → k ≠ 27 → (k < 22 ∨ 26 ≤ k) → k ≠ 30 → k ≠ 31 → μ2.1 146 k = μ.1 146 k := fun k q1 q2 q3 q4 q5 q6 => (b6 k q1 q2 q4 q5 q6).trans (a4 k q3)
    refine t_mono (hgood c μ2 (Or.inr ⟨b1, b2, b3, b4, f1, f2, b7.trans a5⟩)) ?_
    rintro x μ3 ⟨rfl, d1, d2, d3, d4, d5⟩
    exact ⟨rfl, fin_rp d1 h21 d2 (fun a q1 q2 q3 => (d3 a q1 q2 q3).trans (f1 a q1 q2 q3)) (fun k q1 q2 q3 q4 q5 q6 => (d4 k q1 q2 q3 q4 q5 q6).trans (f2 k q1 q2 q3 q4 q5 q6)) (d5.trans (b7.trans a5))⟩
  · rw [t_brF (show ¬ nI (waiting w).length ≤ (6 : Int32) from nI_ge (a := 6) (by omega) (by omega)), t_ret]
    exact ⟨(hbad c).symm, fin_rp W1 h21 (by rw [a4 21 (by omega)]; exact h21) (fun a q1 q2 q3 => a3 a q1 (by omega)) (fun k _ _ q3 _ _ _ => a4 k q3) a5⟩
end
theorem op_order (z v : Int32) : op2 Inv (fnX11_order 0 z v) (fnX12_order 146 z v) := by
  apply op_one
  intro w μ hC hO
  obtain ⟨hG, hR, hS, hW, hL, hT, hSl, hI, hF⟩ := id hC
  have n := hG.1
  have hlen := wt_len hG
  have e_45 : ln 45 = 6 := rfl
  have e_160 : ln 160 = 8 := rfl
  have same : ∀ r : Int32, r = r ∧ (∀ a, (a < 28 ∨ 32 ≤ a) → (a < 36 ∨ 41 ≤ a) → (a < 42 ∨ 74 ≤ a) → μ.1 a = μ.1 a) ∧ μ.2 = μ.2 ∧ OH w μ := fun r => ⟨rfl, fun _ _ _ _ => rfl, rfl, hO⟩
  unfold fnX11_order fnX12_order
  cases hz : (decide (0 < w 0) && rg z 0 3)
  · refine ⟨-2, ?_, ?_⟩
    · rw [t_bnd, t_eq (isWay11 hR hG _), hz, t_brT (by decide), t_ret]
      exact same _
    · intro μ1 _ _ hW1
      rw [t_bnd, t_eq (isWay12 hW1 hG _), hz, t_brT (by decide), t_ret]
      exact ⟨rfl, rp_rf hW1⟩
  obtain ⟨-, way, hw, rfl⟩ := way_nat hz
  cases hv : rg v 0 7
  · refine ⟨-2, ?_, ?_⟩
    · rw [t_bnd, t_eq (isWay11 hR hG _), hz, t_brF (by decide)]
      rcases rg_no (b := 7) hv (by omega) with q | ⟨q1, q2⟩
      · rw [t_brT q, t_ret]
        exact same _
      · rw [t_brF q1, t_brF (show ¬ v ≤ (7 : Int32) from q2), t_ret]
        exact same _
    · intro μ1 _ _ hW1
      rw [t_bnd, t_eq (isWay12 hW1 hG _), hz, t_brF (by decide), t_bnd, t_eq (in_eq v _ _ _), t64_0, t64_7, hv, t_brT (by decide), t_ret]
      exact ⟨rfl, rp_rf hW1⟩
  obtain ⟨k, -, hk, rfl⟩ := rg_nat (a := 0) (b := 7) hv (by omega)
  obtain ⟨y, y1, y2⟩ := best_some (w := w) (way := way)
  have ans : ∃ r : Int32, r = (if (waiting w).length ≤ 6 then (if k = 0 then nI y.1.2 else if k = 1 then nI y.1.1 else if (waiting w).length ≤ k - 2 then (-1 : Int32) else nI (fnL y.2 (k - 2))) else (-3 : Int32)) := ⟨_, rfl⟩
  obtain ⟨r, hr⟩ := ans
  refine ⟨r, ?_, ?_⟩
  · rw [t_bnd, t_eq (isWay11 hR hG _), hz, t_brF (by decide), t_brF (nI_pos (by omega)), t_brT (show nI k ≤ 7 from nI_le (b := 7) hk (by omega)), lk_0_11, lk_0_6, t_bnd]
    refine t_mono (find_T hG hw hR hS hL hO) ?_
    intro x μ1 hfp
    have fr : (∀ a, (a < 28 ∨ 32 ≤ a) → (a < 36 ∨ 41 ≤ a) → (a < 42 ∨ 74 ≤ a) → μ1.1 a = μ.1 a) ∧ μ1.2 = μ.2 ∧ OH w μ1 := ⟨fun a _ q1 q2 => hfp.2.2.2.1 a q1 q2, hfp.2.2.2.2, oh_of hw hfp⟩
    rw [hfp.1]
    by_cases c : (waiting w).length ≤ 6
    · rw [if_pos c] at hr
      obtain ⟨y', h1, h2, h3, h4, h5, h6, h7⟩ := hfp.2.1 c
      rw [y1] at h1
      cases h1
      rw [decide_eq_true c, t_brF (by decide)]
      by_cases c0 : k = 0
      · rw [if_pos c0] at hr
        rw [t_brT (by rw [c0]; rfl), t_gi, t_ret, h4]
        exact ⟨hr.symm, fr⟩
      · rw [if_neg c0] at hr
        rw [t_brF (show ¬ nI k = (0 : Int32) from fun q => c0 ((nI_eq (b := 0) (by omega) (by omega)).mp q))]
        by_cases c1 : k = 1
        · rw [if_pos c1] at hr
          rw [t_brT (by rw [c1]; rfl), t_gi, t_ret, h3]
          exact ⟨hr.symm, fr⟩
        · rw [if_neg c1] at hr
          rw [t_brF (show ¬ nI k = (1 : Int32) from fun q => c1 ((nI_eq (b := 1) (by omega) (by omega)).mp q)), li_2, pk_sub (by omega), t_bnd]
          unfold fnX5_unitAt
          rw [t_brF (nI_pos (by omega)), t_gi, h5]
          by_cases c2 : (waiting w).length ≤ k - 2
          · rw [if_pos c2] at hr
            rw [t_brT (nI_le c2 (by omega)), t_ret, t_ret]
            exact ⟨hr.symm, fr⟩
          · rw [if_neg c2] at hr
            rw [t_brF (nI_ge (by omega) (by omega)), t_brF (show ¬ (6 : Int32) ≤ nI (k - 2) from nI_ge (b := 6) (by omega) (by omega)), lk_42_6, t_ai (by omega), t_ret, t_ret, h7 (k - 2) (by omega)]
            exact ⟨hr.symm, fr⟩
    · rw [if_neg c] at hr
      rw [decide_eq_false c, t_brT (by decide), t_ret]
      exact ⟨hr.symm, fr⟩
  · intro μ1 h1 h2 hW1
    have d0 : μ1.1 146 21 = nI 0 := by rw [h1 146 (by omega)]; exact hF.1
    rw [t_bnd, t_eq (isWay12 hW1 hG _), hz, t_brF (by decide), t_bnd, t_eq (in_eq _ _ _ _), t64_0, t64_7, hv, t_brF (by decide)]
    refine ref_T hG hw hW1 d0 (fun c => by rw [hr, if_neg c]) ?_
    rintro c μ2 hh
    have hh : WH 147 w μ2 ∧ μ2.1 146 21 = nI 0 ∧ μ2.1 146 27 = nI (waiting w).length ∧ BR (ordBest w way) μ2 := by
      rcases hh with hh | hh
      · exact ⟨hh.1, hh.2.1, hh.2.2.1, hh.2.2.2.1⟩
      · exact ⟨hh.1, hh.2.1, hh.2.2.1, hh.2.2.2.1⟩
    obtain ⟨b1, b2, b3, b4⟩ := hh
    rw [y1] at b4
    obtain ⟨g1, g2, _, _, g5⟩ := b4
    rw [if_pos c] at hr
    have kp : WH 147 w μ2 ∧ μ2.1 146 21 = nI 0 ∧ (∀ a, a ≠ 146 → a ≠ 147 → (a < 153 ∨ 161 ≤ a) → μ2.1 a = μ2.1 a) ∧ (∀ k, k ≠ 19 → k ≠ 21 → k ≠ 27 → (k < 22 ∨ 26 ≤ k) → k ≠ 30 → k ≠ 31 → μ2.1 146 k = μ2.1 146 k) ∧ μ2.2 = μ2.2 := ⟨b1, b2, fun _ _ _ _ => rfl, fun _ _ _ _ _ _ _ => rfl, rfl⟩
    by_cases c0 : k = 0
    · rw [if_pos c0] at hr
      rw [t_brT (by rw [c0]; rfl), t_gi, t_ret, g2]
      exact ⟨hr.symm, kp⟩
    · rw [if_neg c0] at hr
      rw [t_brF (show ¬ nI k = (0 : Int32) from fun q => c0 ((nI_eq (b := 0) (by omega) (by omega)).mp q))]
      by_cases c1 : k = 1
      · rw [if_pos c1] at hr
        rw [t_brT (by rw [c1]; rfl), t_gi, t_ret, g1]
        exact ⟨hr.symm, kp⟩
      · rw [if_neg c1] at hr
        rw [t_brF (show ¬ nI k = (1 : Int32) from fun q => c1 ((nI_eq (b := 1) (by omega) (by omega)).mp q)), t_gi, b3, li_2, pk_sub (by omega)]
        by_cases c2 : (waiting w).length ≤ k - 2
        · rw [if_pos c2] at hr
          rw [t_brT (nI_le c2 (by omega)), t_ret]
          exact ⟨hr.symm, kp⟩
        · rw [if_neg c2] at hr
          rw [t_brF (nI_ge (by omega) (by omega)), lk_146_29, t_ai (by omega), t_ret, g5 (k - 2) (by omega)]
          exact ⟨hr.symm, kp⟩
theorem op_gap (z : Int32) : op2 Inv (fnX11_gap 0 z) (fnX12_gap 146 z) := by
  apply op_one
  intro w μ hC hO
  obtain ⟨hG, hR, hS, hW, hL, hT, hSl, hI, hF⟩ := id hC
  have n := hG.1
  have hlen := wt_len hG
  unfold fnX11_gap fnX12_gap
  cases hz : (decide (0 < w 0) && rg z 0 3)
  · refine ⟨-1000000, ?_, ?_⟩
    · rw [t_bnd, t_eq (isWay11 hR hG _), hz, t_brT (by decide), t_ret]
      exact ⟨rfl, fun _ _ _ _ => rfl, rfl, hO⟩
    · intro μ1 _ _ hW1
      rw [t_bnd, t_eq (isWay12 hW1 hG _), hz, t_brT (by decide), t_ret]
      exact ⟨rfl, rp_rf hW1⟩
  obtain ⟨-, way, hw, rfl⟩ := way_nat hz
  obtain ⟨y, y1, y2⟩ := best_some (w := w) (way := way)
  have ans : ∃ r : Int32, r = (if (waiting w).length ≤ 6 then nI y.1.2 - nI (pSum w (ovr w way (w 4)).2 (fun p => w (187 + 7 * p))) else (-1000000 : Int32)) := ⟨_, rfl⟩
  obtain ⟨r, hr⟩ := ans
  refine ⟨r, ?_, ?_⟩
  · rw [t_bnd, t_eq (isWay11 hR hG _), hz, t_brF (by decide), lk_0_11, lk_0_6, lk_0_5, t_bnd]
    refine t_mono (find_T hG hw hR hS hL hO) ?_
    intro x μ1 hfp
    have f1 := hfp.2.2.2.1
    rw [hfp.1]
    by_cases c : (waiting w).length ≤ 6
    · rw [if_pos c] at hr
      obtain ⟨y', h1, h2, h3, h4, h5, h6, h7⟩ := hfp.2.1 c
      rw [y1] at h1
      cases h1
      have hR1 : RH 14 w μ1 := rh_fr (fun a q1 q2 => f1 a (by omega) (by omega)) hR
      rw [decide_eq_true c, t_brF (by decide), t_gi, h4, t_bnd]
      refine t_mono (overT_T hG hR1 (sh_fr (fun a q1 q2 => f1 a (by omega) (by omega)) hS) (lks_fr (fun a q1 q2 => f1 a (by omega) (by omega)) hL) hw) ?_
      rintro x μ2 ⟨rfl, a2, a3, a4, a5, a6⟩
      rw [t_bnd, t_eq (worthOf_eq (rh_fr (fun a q1 q2 => a5 a (by omega) (by omega)) hR1) hG (ovM_bit hG)), t_ret]
      refine ⟨by rw [hr]; rfl, fun a q1 q2 q3 => (a5 a q1 q2).trans (f1 a q2 q3), a6.trans hfp.2.2.2.2, oh_fr (a5 42 (by omega) (by omega)) (a5 45 (by omega) (by omega)) (oh_of hw hfp)⟩
    · rw [if_neg c] at hr
      rw [decide_eq_false c, t_brT (by decide), t_ret]
      exact ⟨hr.symm, fun a _ q1 q2 => f1 a q1 q2, hfp.2.2.2.2, oh_of hw hfp⟩
  · intro μ1 h1 h2 hW1
    have d0 : μ1.1 146 21 = nI 0 := by rw [h1 146 (by omega)]; exact hF.1
    rw [t_bnd, t_eq (isWay12 hW1 hG _), hz, t_brF (by decide)]
    refine ref_T hG hw hW1 d0 (fun c => by rw [hr, if_neg c]) ?_
    rintro c μ2 hh
    have hh : WH 147 w μ2 ∧ μ2.1 146 21 = nI 0 ∧ BR (ordBest w way) μ2 := by
      rcases hh with hh | hh
      · exact ⟨hh.1, hh.2.1, hh.2.2.2.1⟩
      · exact ⟨hh.1, hh.2.1, hh.2.2.2.1⟩
    obtain ⟨b1, b2, b4⟩ := hh
    rw [y1] at b4
    obtain ⟨g1, g2, _⟩ := b4
    rw [if_pos c] at hr
    rw [t_bnd]
    refine t_mono (thinks_T b2) ?_
    rintro _ μ3 ⟨e1, e2, e3, e4, e5⟩
    rw [t_bnd]
    refine t_mono (allGo_T hG hw (wh_fr (fun i _ => by rw [e4 147 (by omega) (by omega)]) b1)) ?_
    rintro - μ4 ⟨p1, p2, p3, p4, p5, p6, p7, p8, p9, p10⟩
    rw [t_bnd]
    refine t_mono (wakes_T (by rw [p8 21 (by omega) (by omega)]; exact e2)) ?_
    rintro _ μ5 ⟨s1, s2, s3, s4, s5⟩
    rw [t_gi, t_gi, t_ret]
    refine ⟨?_, fun i hi => ?_, s2, fun a q1 q2 q3 => ?_, fun k q1 q2 q3 q4 q5 q6 => ?_, by rw [s5, p10, e5]⟩
    · rw [s3 30 (by omega), s3 23 (by omega), p8 30 (by omega) (by omega), e3 30 (by omega), g2, p5, hr]
    · rw [s1 i hi, p9 157 (by omega) (by omega) (by omega), e1 i hi]
      exact b1 i hi
    · rw [s4 a q2 q1, p9 a q1 q2 (by omega), e4 a (by omega) q1]
    · rw [s3 k q2, p8 k q1 q4, e3 k q2]
