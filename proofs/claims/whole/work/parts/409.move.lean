/-! ===== moved, move: the calls ===== -/
theorem told_of {w : Nat → Nat} (hG : Good w) {s : Nat} (hs : s < w 3) : decide (0 < w 0) = true := by
  apply decide_eq_true
  refine Classical.byContradiction (fun hn => ?_)
  have := hG.2.1 (by omega)
  omega
theorem op_moved (z v u : Int32) : op2 Inv (fnX11_moved 0 z v u) (fnX12_moved 146 z v u) := by
  apply op_two
  intro w μ hC hO
  obtain ⟨hG, hR, hS, hW, hL, hT, hSl, hI', hF⟩ := id hC
  have n := hG.1
  unfold fnX11_moved fnX12_moved
  cases qz : rg z 0 ((w 3 : Int) - 1)
  · refine ⟨-2, w, same_rf w, hG, ?_, ?_⟩
    · rw [t_bnd, t_eq (isStone11 hR hG _), qz, t_brT (by decide), t_ret]
      exact ⟨rfl, cp_rf hS⟩
    · intro μ1 _ _ hW1
      rw [t_bnd, t_eq (isStone12 hW1 hG _), qz, t_brT (by decide), t_ret]
      exact ⟨rfl, rp_rf hW1⟩
  obtain ⟨s, hs, rfl⟩ := rg_nI qz (by omega)
  have q0 := told_of hG hs
  cases qa : (rg u 1 9 && rg v 0 4)
  · refine ⟨-2, w, same_rf w, hG, ?_, ?_⟩
    · rw [t_bnd, t_eq (isStone11 hR hG _), qz, t_brF (by decide), t_bnd, t_eq (isStride11 hR hG _), q0, Bool.true_and]
      cases q1 : rg u 1 9
      · rw [t_brT (by decide), t_ret]
        exact ⟨rfl, cp_rf hS⟩
      rw [q1, Bool.true_and] at qa
      rw [t_brF (by decide)]
      rcases rg_no (b := 4) qa (by omega) with q | ⟨x1, x2⟩
      · rw [t_brT q, t_ret]
        exact ⟨rfl, cp_rf hS⟩
      · rw [t_brF x1, t_brF (show ¬ v ≤ (4 : Int32) from x2), t_ret]
        exact ⟨rfl, cp_rf hS⟩
    · intro μ1 _ _ hW1
      rw [t_bnd, t_eq (isStone12 hW1 hG _), qz, t_brF (by decide), t_bnd, t_eq (in_eq _ _ _ _), t64_0, t64_4]
      cases q2 : rg v 0 4
      · rw [t_brT (by decide), t_ret]
        exact ⟨rfl, rp_rf hW1⟩
      rw [q2, Bool.and_true] at qa
      rw [t_brF (by decide), t_bnd, t_eq (isStride12 _ _), qa, t_brT (by decide), t_ret]
      exact ⟨rfl, rp_rf hW1⟩
  simp only [Bool.and_eq_true] at qa
  obtain ⟨r, r1, r2, rfl⟩ := rg_nat (a := 1) (b := 9) qa.1 (by omega)
  obtain ⟨to, -, hto, rfl⟩ := rg_nat (a := 0) (b := 4) qa.2 (by omega)
  refine ⟨mvT w s to (mvX w s to) (mvY w s to) r, w, same_rf w, hG, ?_, ?_⟩
  · rw [t_bnd, t_eq (isStone11 hR hG _), qz, t_brF (by decide), t_bnd, t_eq (isStride11 hR hG _), q0, qa.1, t_brF (by decide), t_brF (nI_pos (by omega)), t_brT (show nI to ≤ (4 : Int32) from nI_le (b := 4) hto (by omega)), t_bnd]
    refine t_mono (moved11_T hG hs hto r1 r2 hR hS hL) ?_
    rintro x μ1 ⟨a1, -, a3⟩
    rw [t_ret]
    exact ⟨a1, cp_fl hS a3⟩
  · intro μ1 h1 h2 hW1
    have h39 : μ1.1 146 39 = mI 1 := by rw [h1 146 (by omega)]; exact hF.2.1
    rw [t_bnd, t_eq (isStone12 hW1 hG _), qz, t_brF (by decide), t_bnd, t_eq (in_eq _ _ _ _), t64_0, t64_4, qa.2, t_brF (by decide), t_bnd, t_eq (isStride12 _ _), qa.1, t_brF (by decide), t_bnd]
    refine t_mono (moved12_T hG hs hto r2 hW1 h39) ?_
    rintro x μ2 ⟨a1, a3⟩
    rw [t_ret]
    exact ⟨a1, rp_fl hW1 a3⟩
noncomputable def bsI (V : Nat → Int32) : Nat → Nat → Int32 → Int32 → Int32
  | 0, _, b, _ => b
  | f + 1, j, b, m => if m < V j then bsI V f (j + 1) (nI j) (V j) else bsI V f (j + 1) b m
theorem lt_nle {a b : Int32} (h : a < b) : ¬ b ≤ a := fun q => by rw [fa_lt] at h; rw [fa_le] at q; omega
theorem nlt_le {a b : Int32} (h : ¬ a < b) : b ≤ a := by rw [fa_lt] at h; rw [fa_le]; omega
theorem move11_L {w : Nat → Nat} (hG : Good w) {s r : Nat} (hs : s < w 3) (h1 : 1 ≤ r) (h9 : r ≤ 9) {μ0 : sm_Mem} (hR : RH 14 w μ0) (hS : SH 24 w μ0) (hL : LKS w μ0) : ∀ (f j : Nat) (b m : Int32) (μ : sm_Mem), 5 - j < f → j ≤ 5 → FrC μ0 μ → T (fnX11_move_L27 f 0 (nI s) (nI r) b m (nI j)) μ (fun x μ' => x = bsI (fun j => mvT w s j (mvX w s j) (mvY w s j) r) (5 - j) j b m ∧ FrC μ0 μ') := by
  intro f
  induction f with
  | zero =>
    intro j b m μ h
    omega
  | succ f ih =>
    intro j b m μ hf hj hr
    unfold fnX11_move_L27 fnX11_move_J57
    by_cases c : 5 ≤ j
    · have : j = 5 := by omega
      subst this
      rw [t_brT (by decide), t_ret]
      exact ⟨rfl, hr⟩
    · rw [t_brF (show ¬ (4 : Int32) < nI j from nI_nlt (a := 4) (by omega) (by omega)), t_bnd, nI_1]
      refine t_mono (moved11_T hG hs (show j ≤ 4 by omega) h1 h9 (rh_fr (fun a q1 q2 => hr.1 a (by omega)) hR) (sh_fr (fun a q1 q2 => hr.1 a (by omega)) hS) (lks_fr (fun a q1 q2 => hr.1 a (by omega)) hL)) ?_
      rintro x μ1 ⟨rfl, -, a3⟩
      rw [show 5 - j = (5 - (j + 1)) + 1 by omega]
      show T _ μ1 (fun x μ' => x = (if m < mvT w s j (mvX w s j) (mvY w s j) r then bsI (fun j => mvT w s j (mvX w s j) (mvY w s j) r) (5 - (j + 1)) (j + 1) (nI j) (mvT w s j (mvX w s j) (mvY w s j) r) else bsI (fun j => mvT w s j (mvX w s j) (mvY w s j) r) (5 - (j + 1)) (j + 1) b m) ∧ FrC μ0 μ')
      by_cases c2 : m < mvT w s j (mvX w s j) (mvY w s j) r
      · rw [t_brF (lt_nle c2), if_pos c2]
        exact ih (j + 1) _ _ μ1 (by omega) (by omega) (frC_tr hr a3)
      · rw [t_brT (nlt_le c2), if_neg c2]
        exact ih (j + 1) _ _ μ1 (by omega) (by omega) (frC_tr hr a3)
theorem move12_L {w : Nat → Nat} (hG : Good w) {s r : Nat} (hs : s < w 3) (h9 : r ≤ 9) {μ0 : sm_Mem} (hW : WH 147 w μ0) (h39 : μ0.1 146 39 = mI 1) : ∀ (f j : Nat) (b m : Int32) (μ : sm_Mem), 5 - j < f → j ≤ 5 → FrN μ0 μ → T (fnX12_move_L26 f 146 (nI s) (nI r) b m (nI j)) μ (fun x μ' => x = bsI (fun j => mvT w s j (mvX w s j) (mvY w s j) r) (5 - j) j b m ∧ FrN μ0 μ') := by
  intro f
  induction f with
  | zero =>
    intro j b m μ h
    omega
  | succ f ih =>
    intro j b m μ hf hj hr
    unfold fnX12_move_L26 fnX12_move_J59
    by_cases c : 5 ≤ j
    · have : j = 5 := by omega
      subst this
      rw [t_brT (by decide), t_ret]
      exact ⟨rfl, hr⟩
    · rw [t_brF (show ¬ (5 : Int32) ≤ nI j from nI_ge (b := 5) (by omega) (by omega)), t_bnd, nI_1]
      refine t_mono (moved12_T hG hs (show j ≤ 4 by omega) h9 (rp_fl hW hr).1 (by rw [hr.2.1 39 (by omega)]; exact h39)) ?_
      rintro x μ1 ⟨rfl, a3⟩
      rw [show 5 - j = (5 - (j + 1)) + 1 by omega]
      show T _ μ1 (fun x μ' => x = (if m < mvT w s j (mvX w s j) (mvY w s j) r then bsI (fun j => mvT w s j (mvX w s j) (mvY w s j) r) (5 - (j + 1)) (j + 1) (nI j) (mvT w s j (mvX w s j) (mvY w s j) r) else bsI (fun j => mvT w s j (mvX w s j) (mvY w s j) r) (5 - (j + 1)) (j + 1) b m) ∧ FrN μ0 μ')
      by_cases c2 : m < mvT w s j (mvX w s j) (mvY w s j) r
      · rw [t_brT c2, if_pos c2]
        exact ih (j + 1) _ _ μ1 (by omega) (by omega) (frN_tr hr a3)
      · rw [t_brF c2, if_neg c2]
        exact ih (j + 1) _ _ μ1 (by omega) (by omega) (frN_tr hr a3)
theorem op_move (z u : Int32) : op2 Inv (fnX11_move 0 z u) (fnX12_move 146 z u) := by
  apply op_two
  intro w μ hC hO
  obtain ⟨hG, hR, hS, hW, hL, hT, hSl, hI', hF⟩ := id hC
  have n := hG.1
  unfold fnX11_move fnX12_move
  cases qz : rg z 0 ((w 3 : Int) - 1)
  · refine ⟨-2, w, same_rf w, hG, ?_, ?_⟩
    · rw [t_bnd, t_eq (isStone11 hR hG _), qz, t_brT (by decide), t_ret]
      exact ⟨rfl, cp_rf hS⟩
    · intro μ1 _ _ hW1
      rw [t_bnd, t_eq (isStone12 hW1 hG _), qz, t_brT (by decide), t_ret]
      exact ⟨rfl, rp_rf hW1⟩
  obtain ⟨s, hs, rfl⟩ := rg_nI qz (by omega)
  have q0 := told_of hG hs
  cases qa : rg u 1 9
  · refine ⟨-2, w, same_rf w, hG, ?_, ?_⟩
    · rw [t_bnd, t_eq (isStone11 hR hG _), qz, t_brF (by decide), t_bnd, t_eq (isStride11 hR hG _), q0, qa, t_brT (by decide), t_ret]
      exact ⟨rfl, cp_rf hS⟩
    · intro μ1 _ _ hW1
      rw [t_bnd, t_eq (isStone12 hW1 hG _), qz, t_brF (by decide), t_bnd, t_eq (isStride12 _ _), qa, t_brT (by decide), t_ret]
      exact ⟨rfl, rp_rf hW1⟩
  obtain ⟨r, r1, r2, rfl⟩ := rg_nat (a := 1) (b := 9) qa (by omega)
  refine ⟨bsI (fun j => mvT w s j (mvX w s j) (mvY w s j) r) 5 0 0 (-1), w, same_rf w, hG, ?_, ?_⟩
  · rw [t_bnd, t_eq (isStone11 hR hG _), qz, t_brF (by decide), t_bnd, t_eq (isStride11 hR hG _), q0, qa, t_brF (by decide)]
    refine t_mono (move11_L hG hs r1 r2 hR hS hL 4096 0 0 (-1) μ (by omega) (by omega) (frC_rf μ)) ?_
    rintro x μ1 ⟨a1, a3⟩
    exact ⟨a1, cp_fl hS a3⟩
  · intro μ1 h1 h2 hW1
    have h39 : μ1.1 146 39 = mI 1 := by rw [h1 146 (by omega)]; exact hF.2.1
    rw [t_bnd, t_eq (isStone12 hW1 hG _), qz, t_brF (by decide), t_bnd, t_eq (isStride12 _ _), qa, t_brF (by decide)]
    refine t_mono (move12_L hG hs r2 hW1 h39 4096 0 0 (-1) μ1 (by omega) (by omega) (frN_rf μ1)) ?_
    rintro x μ2 ⟨a1, a3⟩
    exact ⟨a1, rp_fl hW1 a3⟩
