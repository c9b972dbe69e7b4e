/-! ===== KEEP ===== -/
noncomputable def kpW (V : Nat → Option Nat) : Nat → Nat → Option (Nat × Nat) → Int32
  | 0, _, st => match st with
    | none => mI 1
    | some z => nI z.1
  | f + 1, j, st => match V j with
    | none => kpW V f (j + 1) st
    | some p => match st with
      | none => kpW V f (j + 1) (some (j, p))
      | some z => if p < z.2 then kpW V f (j + 1) (some (j, p)) else kpW V f (j + 1) (some z)
theorem kp_n {V : Nat → Option Nat} {f j : Nat} {st : Option (Nat × Nat)} (h : V j = none) : kpW V (f + 1) j st = kpW V f (j + 1) st := by
  rw [kpW, h]
theorem kp_sn {V : Nat → Option Nat} {f j p : Nat} (h : V j = some p) : kpW V (f + 1) j none = kpW V f (j + 1) (some (j, p)) := by
  rw [kpW, h]
theorem kp_ss {V : Nat → Option Nat} {f j p : Nat} {z : Nat × Nat} (h : V j = some p) : kpW V (f + 1) j (some z) = if p < z.2 then kpW V f (j + 1) (some (j, p)) else kpW V f (j + 1) (some z) := by
  rw [kpW, h]
def kpC (st : Option (Nat × Nat)) (b m : Int32) : Prop := match st with
  | none => b = mI 1 ∧ m = nI 1000
  | some z => b = nI z.1 ∧ m = nI z.2 ∧ z.1 < 4 ∧ z.2 ≤ 999
def kpR (st : Option (Nat × Nat)) (b m : Int32) : Prop := match st with
  | none => b = mI 1
  | some z => b = nI z.1 ∧ m = nI z.2 ∧ z.1 < 4 ∧ z.2 ≤ 999
theorem keep11_L {w : Nat → Nat} (hG : Good w) {r d : Nat} (h1 : 1 ≤ r) (h9 : r ≤ 9) (d1 : 1 ≤ d) (d9 : d ≤ 9) {μ0 : sm_Mem} (hR : RH 14 w μ0) (hS : SH 24 w μ0) (hL : LKS w μ0) : ∀ (f j : Nat) (st : Option (Nat × Nat)) (b m : Int32) (μ : sm_Mem), 4 - j < f → j ≤ 4 → kpC st b m → FrT μ0 μ → T (fnX11_keep_L29 f 0 (nI r) (nI d) b m (nI j)) μ (fun x μ' => x = kpW (prcW w r d) (4 - j) j st ∧ FrT μ0 μ') := by
  intro f
  induction f with
  | zero =>
    intro j st b m μ h
    omega
  | succ f ih =>
    intro j st b m μ hf hj hst hr
    unfold fnX11_keep_L29 fnX11_keep_J65
    by_cases c : 4 ≤ j
    · have : j = 4 := by omega
      subst this
      rw [t_brT (by decide), t_ret]
      refine ⟨?_, hr⟩
      cases st with
      | none => exact hst.1
      | some z => exact hst.1
    · obtain ⟨hR1, hS1, hL1⟩ := frT_core hr hR hS hL
      rw [t_brF (show ¬ (4 : Int32) ≤ nI j from nI_ge (b := 4) (by omega) (by omega)), t_bnd, nI_1]
      refine t_mono (price11_T hG h1 h9 d1 d9 (show j < 4 by omega) hR1 hS1 hL1) ?_
      rintro x μ1 ⟨a1, a2⟩
      rw [show 4 - j = (4 - (j + 1)) + 1 by omega]
      cases hf' : findW w d 1 j 98 with
      | none =>
        rw [hf'] at a1
        have a1 : x = mI 1 := a1
        have ep : prcW w r d j = none := by
          unfold prcW
          rw [hf']
        rw [kp_n ep, a1, t_brT m1_mI.symm]
        exact ih (j + 1) st b m μ1 (by omega) (by omega) hst (frT_tr hr a2)
      | some l =>
        rw [hf'] at a1
        obtain ⟨a1, a3, a4⟩ := a1
        have ep : prcW w r d j = some (mostW w r 1 - mostW (wearW w l 1) r 1) := by
          unfold prcW
          rw [hf']
        rw [a1, t_brF (n_m1 (by omega))]
        generalize hp : mostW w r 1 - mostW (wearW w l 1) r 1 = p at ep ⊢
        have p9 : p ≤ 999 := by omega
        cases st with
        | none =>
          obtain ⟨rfl, rfl⟩ := hst
          rw [kp_sn ep, t_brF (nI_ge (by omega) (by omega))]
          exact ih (j + 1) (some (j, p)) _ _ μ1 (by omega) (by omega) ⟨rfl, rfl, by show j < 4; omega, p9⟩ (frT_tr hr a2)
        | some z =>
          obtain ⟨rfl, rfl, z1, z2⟩ := id hst
          rw [kp_ss ep]
          by_cases c2 : p < z.2
          · rw [t_brF (nI_ge c2 (by omega)), if_pos c2]
            exact ih (j + 1) (some (j, p)) _ _ μ1 (by omega) (by omega) ⟨rfl, rfl, by show j < 4; omega, p9⟩ (frT_tr hr a2)
          · rw [t_brT (nI_le (by omega) (by omega)), if_neg c2]
            exact ih (j + 1) (some z) _ _ μ1 (by omega) (by omega) hst (frT_tr hr a2)
theorem keep12_L {w : Nat → Nat} (hG : Good w) {r d : Nat} (h9 : r ≤ 9) (d1 : 1 ≤ d) (d9 : d ≤ 9) (hmono : ∀ j l, j < 4 → findW w d 1 j 98 = some l → mostW (wearW w l 1) r 1 ≤ mostW w r 1 ∧ mostW w r 1 ≤ 999) {μ0 : sm_Mem} (h39 : μ0.1 146 39 = mI 1) (h21 : μ0.1 146 21 = nI 0) : ∀ (f j : Nat) (st : Option (Nat × Nat)) (b m : Int32) (μ : sm_Mem), 4 - j < f → j ≤ 4 → kpR st b m → FrQ w μ0 μ → T (fnX12_keep_L32 f 146 (nI r) (nI d) b m (nI j)) μ (fun x μ' => x = kpW (prcW w r d) (4 - j) j st ∧ FrQ w μ0 μ') := by
  intro f
  induction f with
  | zero =>
    intro j st b m μ h
    omega
  | succ f ih =>
    intro j st b m μ hf hj hst hr
    unfold fnX12_keep_L32 fnX12_keep_J71 fnX12_keep_J78
    by_cases c : 4 ≤ j
    · have : j = 4 := by omega
      subst this
      rw [t_brT (by decide), t_ret]
      refine ⟨?_, hr⟩
      cases st with
      | none => exact hst
      | some z => exact hst.1
    · rw [t_brF (show ¬ (4 : Int32) ≤ nI j from nI_ge (b := 4) (by omega) (by omega)), t_bnd, nI_1]
      refine t_mono (price12_T hG h9 d1 d9 (show j < 4 by omega) (fun l hl => (hmono j l (by omega) hl).1) hr.2.2.2 (by rw [hr.2.1 39 (by omega) (by omega)]; exact h39) (by rw [hr.2.1 21 (by omega) (by omega)]; exact h21)) ?_
      rintro x μ1 ⟨a1, a2⟩
      rw [show 4 - j = (4 - (j + 1)) + 1 by omega]
      cases hf' : findW w d 1 j 98 with
      | none =>
        rw [hf'] at a1
        have a1 : x = (-1000000 : Int32) := a1
        have ep : prcW w r d j = none := by
          unfold prcW
          rw [hf']
        rw [kp_n ep, t_brT a1]
        exact ih (j + 1) st b m μ1 (by omega) (by omega) hst (frQ_tr hr a2)
      | some l =>
        rw [hf'] at a1
        have a1 : x = nI (mostW w r 1 - mostW (wearW w l 1) r 1) := a1
        have ep : prcW w r d j = some (mostW w r 1 - mostW (wearW w l 1) r 1) := by
          unfold prcW
          rw [hf']
        have mm := hmono j l (by omega) hf'
        rw [a1, t_brF (neg_mil (by omega))]
        generalize hp : mostW w r 1 - mostW (wearW w l 1) r 1 = p at ep ⊢
        have p9 : p ≤ 999 := by omega
        cases st with
        | none =>
          have hst : b = mI 1 := hst
          subst hst
          rw [kp_sn ep, t_brT m1_mI.symm]
          exact ih (j + 1) (some (j, p)) _ _ μ1 (by omega) (by omega) ⟨rfl, rfl, by show j < 4; omega, p9⟩ (frQ_tr hr a2)
        | some z =>
          obtain ⟨rfl, rfl, z1, z2⟩ := id hst
          rw [kp_ss ep]
          rw [t_brF (n_m1 (by omega))]
          by_cases c2 : p < z.2
          · rw [t_brT (nI_lt c2 (by omega)), if_pos c2]
            exact ih (j + 1) (some (j, p)) _ _ μ1 (by omega) (by omega) ⟨rfl, rfl, by show j < 4; omega, p9⟩ (frQ_tr hr a2)
          · rw [t_brF (nI_nlt (by omega) (by omega)), if_neg c2]
            exact ih (j + 1) (some z) _ _ μ1 (by omega) (by omega) hst (frQ_tr hr a2)
theorem op_keep (v u : Int32) : op2 Inv (fnX11_keep 0 v u) (fnX12_keep 146 v u) := by
  apply op_two
  intro w μ hC hO
  obtain ⟨hG, hR, hS, hW, hL, hT, hSl, hI', hF⟩ := id hC
  unfold fnX11_keep fnX12_keep
  cases q0 : decide (0 < w 0)
  · refine ⟨-2, w, same_rf w, hG, ?_, ?_⟩
    · rw [t_bnd, t_eq (isStride11 hR hG _), q0, Bool.false_and, t_brT (by decide), t_ret]
      exact ⟨rfl, cp_rf hS⟩
    · intro μ1 _ _ hW1
      rw [t_bnd, t_eq (isRiver12 hW1 hG), q0, t_brT (by decide), t_ret]
      exact ⟨rfl, rp_rf hW1⟩
  cases q1 : rg v 1 9
  · refine ⟨-2, w, same_rf w, hG, ?_, ?_⟩
    · rw [t_bnd, t_eq (isStride11 hR hG _), q0, q1, t_brT (by decide), t_ret]
      exact ⟨rfl, cp_rf hS⟩
    · intro μ1 _ _ hW1
      rw [t_bnd, t_eq (isRiver12 hW1 hG), q0, t_brF (by decide), t_bnd, t_eq (isStride12 _ _), q1, t_brT (by decide), t_ret]
      exact ⟨rfl, rp_rf hW1⟩
  cases q2 : rg u 1 9
  · refine ⟨-2, w, same_rf w, hG, ?_, ?_⟩
    · rw [t_bnd, t_eq (isStride11 hR hG _), q0, q1, t_brF (by decide), t_bnd, t_eq (isStride11 hR hG _), q0, q2, t_brT (by decide), t_ret]
      exact ⟨rfl, cp_rf hS⟩
    · intro μ1 _ _ hW1
      rw [t_bnd, t_eq (isRiver12 hW1 hG), q0, t_brF (by decide), t_bnd, t_eq (isStride12 _ _), q1, t_brF (by decide), t_bnd, t_eq (isStride12 _ _), q2, t_brT (by decide), t_ret]
      exact ⟨rfl, rp_rf hW1⟩
  obtain ⟨r, r1, r2, rfl⟩ := rg_nat (a := 1) (b := 9) q1 (by omega)
  obtain ⟨d, d1, d2, rfl⟩ := rg_nat (a := 1) (b := 9) q2 (by omega)
  have hmono : ∀ j l, j < 4 → findW w d 1 j 98 = some l → mostW (wearW w l 1) r 1 ≤ mostW w r 1 ∧ mostW w r 1 ≤ 999 := by
    intro j l hj hl
    obtain ⟨x, μa, -, a1, -⟩ := price11_T hG r1 r2 d1 d2 hj hR hS hL
    rw [hl] at a1
    exact a1.2
  refine ⟨kpW (prcW w r d) 4 0 none, w, same_rf w, hG, ?_, ?_⟩
  · rw [t_bnd, t_eq (isStride11 hR hG _), q0, q1, t_brF (by decide), t_bnd, t_eq (isStride11 hR hG _), q0, q2, t_brF (by decide)]
    refine t_mono (keep11_L hG r1 r2 d1 d2 hR hS hL 4096 0 none _ _ μ (by omega) (by omega) ⟨m1_mI, rfl⟩ (frT_rf μ)) ?_
    rintro x μ1 ⟨a1, a2⟩
    exact ⟨a1, cp_ft hS a2⟩
  · intro μ1 h1 h2 hW1
    have h39 : μ1.1 146 39 = mI 1 := by rw [h1 146 (by omega)]; exact hF.2.1
    have h21 : μ1.1 146 21 = nI 0 := by rw [h1 146 (by omega)]; exact hF.1
    rw [t_bnd, t_eq (isRiver12 hW1 hG), q0, t_brF (by decide), t_bnd, t_eq (isStride12 _ _), q1, t_brF (by decide), t_bnd, t_eq (isStride12 _ _), q2, t_brF (by decide)]
    refine t_mono (keep12_L hG r2 d1 d2 hmono (μ0 := μ1) h39 h21 4096 0 none _ _ μ1 (by omega) (by omega) m1_mI ⟨fun _ _ => rfl, fun _ _ _ => rfl, rfl, hW1⟩) ?_
    rintro x μ2 ⟨a1, a2⟩
    exact ⟨a1, rp_q a2⟩
