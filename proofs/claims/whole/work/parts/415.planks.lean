/-! ===== PLANKS: the component ===== -/
/-- places by their numbers -/
def plBy (w : Nat → Nat) (i : Nat) : Nat := if i < w 3 then i else 98 + (i - w 3)
theorem placeBy7 {w : Nat → Nat} {μ : sm_Mem} (hR : RH 14 w μ) (hG : Good w) {i : Nat} (hi : i < 100) : fnX7_placeBy 14 (nI i) μ = some (nI (plBy w i), μ) := by
  have n := hG.1
  have r4 := hR.1.2.2.2.2.1
  unfold fnX7_placeBy plBy
  rw [e_gi, r4]
  by_cases c : w 3 ≤ i
  · rw [e_T (nI_le c (by omega)), if_neg (by omega), e_gi, r4, li_98, nI_add, pk_sub (by omega), show 98 + i - w 3 = 98 + (i - w 3) by omega]
    rfl
  · rw [e_F (nI_ge (by omega) (by omega)), if_pos (by omega)]
    rfl
theorem plBy_pl {w : Nat → Nat} {i : Nat} (h : i < w 3 + 2) : plBy w i < w 3 ∨ plBy w i = 98 ∨ plBy w i = 99 := by
  unfold plBy
  split <;> omega
/-- what lies between a place and the next one is none -/
theorem plBy_gap {w : Nat → Nat} (hG : Good w) {i c : Nat} (h1 : plBy w i < c) (h2 : c < plBy w (i + 1)) : isPlB w c = false := by
  have n := hG.1
  unfold plBy at h1 h2
  unfold isPlB
  apply decide_eq_false
  split at h1 <;> split at h2 <;> omega
theorem plBy_lt {w : Nat → Nat} (hG : Good w) {i : Nat} : plBy w i < plBy w (i + 1) := by
  have n := hG.1
  unfold plBy
  split <;> split <;> omega
theorem plBy_mono {w : Nat → Nat} (hG : Good w) {i j : Nat} (h : i < j) : plBy w i < plBy w j := by
  have n := hG.1
  unfold plBy
  split <;> split <;> omega
theorem withPlank_T {w : Nat → Nat} (hG : Good w) {a b r bv : Nat} (ha : a < w 3 ∨ a = 98 ∨ a = 99) (hb : b < w 3 ∨ b = 98 ∨ b = 99) (hab : a ≠ b) (hnb : ¬ bnk a b) (hrw : r < w 1) (hmc : ∃ E L, MinC 25 (zB (prW w) (fun s => lf w s / 1)) (jNear a b (zNear (prW w) (sy w) r)) (jFar a b (zFar (prW w) (w 1) (sy w) r)) (jAdj a b (zAdj (prW w) (sx w) (sy w) r)) (plkN w a b r) E L) {v3 v6 : Int32} {μ : sm_Mem} (H : WhI w r bv v3 v6 μ) : T (fnX11_mostWithPlank 0 (nI a) (nI b) v6) μ (fun z μ' => z = nI (plankW w a b r) ∧ FrV μ μ') := by
  have n := hG.1
  obtain ⟨hR, h2⟩ := H
  have ev : plankW w a b r = plkN w a b r := by
    unfold plankW
    rw [if_neg]
    rintro (z | z)
    · omega
    · exact hnb z
  rcases h2 with ⟨z, -⟩ | ⟨a1, a2, a3, a4, g, h, src, snk, vis, b1, b2, b3, b4⟩
  · omega
  unfold fnX11_mostWithPlank
  rw [lk_0_13, t_bnd, t_eq (linkHelps_eq b4 (show a < 25 ∨ a = 98 ∨ a = 99 by omega) (show b < 25 ∨ b = 98 ∨ b = 99 by omega))]
  cases hh : lkB vis a b
  · obtain ⟨E', L', mc⟩ := hmc
    rw [t_brT (by decide), t_ret]
    exact ⟨by rw [a3, ev, link_no hG ha hb hh b3 mc], frC_rf μ, fun _ _ _ => rfl, rfl⟩
  · rw [t_brF (by decide), t_bnd]
    refine t_mono (restore_T b4) ?_
    rintro - μ1 ⟨c1, c2, c3, c4⟩
    refine t_mono (joinfill_T hG ha hb hab hnb b1 c2 (by rw [b2]; exact c1)) ?_
    rintro z μ2 ⟨d1, -, d4, d5, d6⟩
    refine ⟨by rw [ev]; exact d1, ⟨fun a q => (d4.1 a q).trans (c3 a (by omega)), d4.2.trans c4⟩, fun a q1 q2 => (d5 a q1 q2).trans (c3 a (by omega)), ?_⟩
    rw [d6, c3 76 (by omega)]
theorem planks96 {k65 : Nat → Int32 → Int32 → Int32 → Int32 → Int32 → sm_M Int32} {Q : Int32 → sm_Mem → Prop} {w : Nat → Nat} (hG : Good w) {r i bv : Nat} (h9 : r ≤ 9) (hi : i < w 3 + 2) (hmc : ∀ a b, (a < w 3 ∨ a = 98 ∨ a = 99) → (b < w 3 ∨ b = 98 ∨ b = 99) → a ≠ b → sq w a b ≤ w 6 * w 6 → r < w 1 → ¬ bnk a b → ∃ E L, MinC 25 (zB (prW w) (fun s => lf w s / 1)) (jNear a b (zNear (prW w) (sy w) r)) (jFar a b (zFar (prW w) (w 1) (sy w) r)) (jAdj a b (zAdj (prW w) (sx w) (sy w) r)) (plkN w a b r) E L) {v3 v6 : Int32} {μ0 : sm_Mem} (HI : WhI w r bv v3 v6 μ0) {F : Int32 × Int32}
    (ex : ∀ μ', FrV μ0 μ' → mI 1 ≤ F.2 → T (k65 0 v3 F.1 F.2 v6 (nI (i + 1))) μ' Q) :
    ∀ (f j : Nat) (p m : Int32) (μ : sm_Mem), w 3 + 2 - j < f → i < j → j ≤ w 3 + 2 → plB (pkV w r) (plBy w i) (100 - plBy w j) (plBy w j) p m = F → mI 1 ≤ m → FrV μ0 μ → T (fnX11_planks_L96 k65 f 0 v3 p m v6 (nI i) (nI (plBy w i)) (nI j)) μ Q := by
  have n := hG.1
  have pi := plBy_pl hi
  intro f
  induction f with
  | zero =>
    intro j p m μ h
    omega
  | succ f ih =>
    intro j p m μ hf hij hj hF hm hr
    have HI1 := whI_fr hr HI
    have hR := HI1.1
    unfold fnX11_planks_L96
    rw [lk_0_5, t_gi, hR.1.2.2.2.2.1, li_2, nI_add]
    by_cases c1 : w 3 + 2 ≤ j
    · have : j = w 3 + 2 := by omega
      subst this
      rw [t_brT (nI_le c1 (by omega))]
      unfold fnX11_planks_J200
      have e100 : plBy w (w 3 + 2) = 100 := by
        unfold plBy
        rw [if_neg (by omega)]
        omega
      rw [e100] at hF
      have hF : (p, m) = F := hF
      subst hF
      rw [nI_1]
      exact ex μ hr hm
    · have pj := plBy_pl (w := w) (i := j) (by omega)
      have lt := plBy_mono hG hij
      have gap : ∀ (p' m' : Int32), mI 1 ≤ m' → plB (pkV w r) (plBy w i) (100 - (plBy w j + 1)) (plBy w j + 1) p' m' = plB (pkV w r) (plBy w i) (100 - plBy w (j + 1)) (plBy w (j + 1)) p' m' := by
        intro p' m' hm'
        have l2 := plBy_lt hG (w := w) (i := j)
        have h100 : plBy w (j + 1) ≤ 100 := by
          unfold plBy
          split <;> omega
        have := plB_skip (V := pkV w r) (a := plBy w i) (p := p') (m := m') (plBy w (j + 1) - (plBy w j + 1)) (plBy w j + 1) (by omega) (fun c q1 q2 => pkV_no hm' (Or.inr (plBy_gap hG (i := j) (by omega) (by omega))))
        rw [this, show plBy w j + 1 + (plBy w (j + 1) - (plBy w j + 1)) = plBy w (j + 1) by omega]
      rw [show 100 - plBy w j = (100 - (plBy w j + 1)) + 1 by omega] at hF
      have hF : (if m < pkV w r (plBy w i) (plBy w j) then plB (pkV w r) (plBy w i) (100 - (plBy w j + 1)) (plBy w j + 1) (nI (100 * plBy w i + plBy w j)) (pkV w r (plBy w i) (plBy w j)) else plB (pkV w r) (plBy w i) (100 - (plBy w j + 1)) (plBy w j + 1) p m) = F := hF
      have vv : pkV w r (plBy w i) (plBy w j) = (if sq w (plBy w i) (plBy w j) ≤ w 6 * w 6 then nI (plankW w (plBy w i) (plBy w j) r) else -5) := by
        unfold pkV isPlB
        rw [if_pos ⟨decide_eq_true pi, decide_eq_true pj⟩]
      have jn : stp w (plBy w i) (plBy w j) (w 6) = decide (sq w (plBy w i) (plBy w j) ≤ w 6 * w 6) := by
        unfold stp
        apply decide_eq_decide.mpr
        exact ⟨fun z => z.2, fun z => ⟨by omega, z⟩⟩
      rw [t_brF (nI_ge (by omega) (by omega)), t_bnd, t_eq (placeBy7 hR hG (by omega)), t_gi, hR.1.2.2.2.1, t_bnd, t_eq (joins7 hR hG pi pj (by omega)), jn]
      by_cases c : sq w (plBy w i) (plBy w j) ≤ w 6 * w 6
      · rw [if_pos c] at vv
        have J172 : ∀ μ1, FrV μ0 μ1 → T (fnX11_planks_J172 k65 (fnX11_planks_L96 k65 f) 0 v3 p m v6 (nI i) (nI (plBy w i)) (nI j) (nI (plBy w j)) (nI (plankW w (plBy w i) (plBy w j) r))) μ1 Q := by
          intro μ1 hr1
          unfold fnX11_planks_J172 fnX11_planks_J194
          rw [vv] at hF
          by_cases c2 : m < nI (plankW w (plBy w i) (plBy w j) r)
          · rw [if_pos c2] at hF
            have hm2 := ge_of_lt hm c2
            rw [gap _ _ hm2] at hF
            rw [t_brF (lt_nle c2), t_nm, li_100, pk_mul, nI_add, nI_1]
            exact ih (j + 1) _ _ μ1 (by omega) (by omega) (by omega) hF hm2 hr1
          · rw [if_neg c2, gap _ _ hm] at hF
            rw [t_brT (nlt_le c2), nI_1]
            exact ih (j + 1) _ _ μ1 (by omega) (by omega) (by omega) hF hm hr1
        rw [decide_eq_true c, t_brF (by decide)]
        rcases HI1.2 with ⟨z1, z2, z3⟩ | ⟨a1, a2, a3, -⟩
        · have e9 : plankW w (plBy w i) (plBy w j) r = 999 := by
            unfold plankW
            rw [if_pos (Or.inl z1)]
          have := J172 μ hr
          rw [e9] at this
          unfold fnX11_planks_J156
          rw [t_brF (by rw [z2]; decide)]
          exact this
        · rw [t_brT a2]
          by_cases c8 : plBy w i = 98
          · have e9 : plankW w (plBy w i) (plBy w j) r = 999 := by
              unfold plankW
              rw [if_pos (Or.inr (Or.inl ⟨c8, by omega⟩))]
            have := J172 μ hr
            rw [e9] at this
            unfold fnX11_planks_J156
            rw [t_brT (by rw [c8]; rfl)]
            exact this
          · have hnb : ¬ bnk (plBy w i) (plBy w j) := by
              unfold bnk
              omega
            rw [t_brF (show ¬ nI (plBy w i) = (98 : Int32) from fun z => c8 ((nI_eq (b := 98) (by omega) (by omega)).mp z)), t_bnd]
            refine t_mono (withPlank_T hG pi pj (by omega) hnb a1 (hmc _ _ pi pj (by omega) c a1 hnb) HI1) ?_
            rintro z μ1 ⟨e1, e2⟩
            rw [e1]
            exact J172 μ1 (frV_tr hr e2)
      · rw [if_neg c] at vv
        rw [vv, if_neg (m5_no hm), gap _ _ hm] at hF
        unfold fnX11_planks_J194
        rw [decide_eq_false c, t_brT (by decide), nI_1]
        exact ih (j + 1) _ _ μ (by omega) (by omega) (by omega) hF hm hr
theorem planks65 {w : Nat → Nat} (hG : Good w) {r bv : Nat} (h9 : r ≤ 9) (hmc : ∀ a b, (a < w 3 ∨ a = 98 ∨ a = 99) → (b < w 3 ∨ b = 98 ∨ b = 99) → a ≠ b → sq w a b ≤ w 6 * w 6 → r < w 1 → ¬ bnk a b → ∃ E L, MinC 25 (zB (prW w) (fun s => lf w s / 1)) (jNear a b (zNear (prW w) (sy w) r)) (jFar a b (zFar (prW w) (w 1) (sy w) r)) (jAdj a b (zAdj (prW w) (sx w) (sy w) r)) (plkN w a b r) E L) {v3 v6 : Int32} {μ0 : sm_Mem} (HI : WhI w r bv v3 v6 μ0) {R : Int32} :
    ∀ (f i : Nat) (p m : Int32) (μ : sm_Mem), w 3 + 2 - i < f → i ≤ w 3 + 2 → (i < w 3 + 2 → plA (pkV w r) (99 - plBy w i) (plBy w i) p m = R) → (i = w 3 + 2 → p = R) → mI 1 ≤ m → FrV μ0 μ → T (fnX11_planks_L65 f 0 v3 p m v6 (nI i)) μ (fun z μ' => z = R ∧ FrV μ0 μ') := by
  have n := hG.1
  intro f
  induction f with
  | zero =>
    intro i p m μ h
    omega
  | succ f ih =>
    intro i p m μ hf hi hF hE hm hr
    have hR := (whI_fr hr HI).1
    unfold fnX11_planks_L65
    rw [lk_0_5, t_gi, hR.1.2.2.2.2.1, li_2, nI_add]
    by_cases c1 : w 3 + 2 ≤ i
    · rw [t_brT (nI_le c1 (by omega)), t_ret]
      exact ⟨hE (by omega), hr⟩
    · have hF := hF (by omega)
      have pi := plBy_pl (w := w) (i := i) (by omega)
      have l2 := plBy_lt hG (w := w) (i := i)
      have h100 : plBy w (i + 1) ≤ 100 := by
        unfold plBy
        split <;> omega
      have gapB : plB (pkV w r) (plBy w i) (100 - (plBy w i + 1)) (plBy w i + 1) p m = plB (pkV w r) (plBy w i) (100 - plBy w (i + 1)) (plBy w (i + 1)) p m := by
        have := plB_skip (V := pkV w r) (a := plBy w i) (p := p) (m := m) (plBy w (i + 1) - (plBy w i + 1)) (plBy w i + 1) (by omega) (fun c q1 q2 => pkV_no hm (Or.inr (plBy_gap hG (i := i) (by omega) (by omega))))
        rw [this, show plBy w i + 1 + (plBy w (i + 1) - (plBy w i + 1)) = plBy w (i + 1) by omega]
      rw [t_brF (nI_ge (by omega) (by omega)), t_bnd, t_eq (placeBy7 hR hG (by omega)), t_nm, nI_1]
      refine planks96 hG h9 (show i < w 3 + 2 by omega) hmc HI ?_ 4096 (i + 1) p m μ (by omega) (by omega) (by omega) rfl hm hr
      intro μ1 hr1 hm1
      refine ih (i + 1) _ _ μ1 (by omega) (by omega) ?_ ?_ hm1 hr1
      · intro hi2
        have a99 : plBy w i < 99 := by
          unfold plBy
          split <;> omega
        have a99' : plBy w (i + 1) ≤ 99 := by
          unfold plBy
          split <;> omega
        rw [show 99 - plBy w i = (99 - (plBy w i + 1)) + 1 by omega] at hF
        have hF : plA (pkV w r) (99 - (plBy w i + 1)) (plBy w i + 1) (plB (pkV w r) (plBy w i) (99 - plBy w i) (plBy w i + 1) p m).1 (plB (pkV w r) (plBy w i) (99 - plBy w i) (plBy w i + 1) p m).2 = R := hF
        rw [show 99 - plBy w i = 100 - (plBy w i + 1) by omega, gapB] at hF
        have sk := plA_skip (V := pkV w r) (p := (plB (pkV w r) (plBy w i) (100 - plBy w (i + 1)) (plBy w (i + 1)) p m).1) (m := (plB (pkV w r) (plBy w i) (100 - plBy w (i + 1)) (plBy w (i + 1)) p m).2) (plBy w (i + 1) - (plBy w i + 1)) (plBy w i + 1) (by omega) (fun c q1 q2 b => pkV_no hm1 (Or.inl (plBy_gap hG (i := i) (by omega) (by omega))))
        rw [show plBy w i + 1 + (plBy w (i + 1) - (plBy w i + 1)) = plBy w (i + 1) by omega] at sk
        rw [← sk]
        exact hF
      · intro hi2
        have e99 : plBy w i = 99 := by
          unfold plBy
          rw [if_neg (by omega)]
          omega
        have e100 : plBy w (i + 1) = 100 := by
          unfold plBy
          rw [if_neg (by omega)]
          omega
        rw [e99] at hF
        have hF : p = R := hF
        rw [e99, e100]
        exact hF
theorem op_planks (v : Int32) : op2 Inv (fnX11_planks 0 v) (fnX12_planks 146 v) := by
  apply op_two
  intro w μ hC hO
  obtain ⟨hG, hR, hS, hW, hL, hT, hSl, hI', hF⟩ := id hC
  have n := hG.1
  have gw := good_wide hG
  unfold fnX11_planks fnX12_planks
  cases q1 : (decide (0 < w 0) && rg v 1 9)
  · refine ⟨-2, w, same_rf w, hG, ?_, ?_⟩
    · rw [t_bnd, t_eq (isStride11 hR hG _), q1, t_brT (by decide), t_ret]
      exact ⟨rfl, cp_rf hS⟩
    · intro μ1 _ _ hW1
      rw [t_bnd, t_eq (isRiver12 hW1 hG)]
      cases q0 : decide (0 < w 0)
      · rw [t_brT (by decide), t_ret]
        exact ⟨rfl, rp_rf hW1⟩
      rw [q0, Bool.true_and] at q1
      rw [t_brF (by decide), t_bnd, t_eq (isStride12 _ _), q1, t_brT (by decide), t_ret]
      exact ⟨rfl, rp_rf hW1⟩
  have q1' := q1
  simp only [Bool.and_eq_true] at q1'
  have w0 := of_decide_eq_true q1'.1
  obtain ⟨r, r1, r2, rfl⟩ := rg_nat (a := 1) (b := 9) q1'.2 (by omega)
  have hmc : ∀ a b, (a < w 3 ∨ a = 98 ∨ a = 99) → (b < w 3 ∨ b = 98 ∨ b = 99) → a ≠ b → sq w a b ≤ w 6 * w 6 → r < w 1 → ¬ bnk a b → ∃ E L, MinC 25 (zB (prW w) (fun s => lf w s / 1)) (jNear a b (zNear (prW w) (sy w) r)) (jFar a b (zFar (prW w) (w 1) (sy w) r)) (jAdj a b (zAdj (prW w) (sx w) (sy w) r)) (plkN w a b r) E L := by
    intro a b ha hb hab hsq hrw hnb
    obtain ⟨z, μ', -, -, m, -⟩ := plankOf12_T hG ha hb hab r2 hW hF.2.1 hF.2.2
    obtain ⟨E, L, q⟩ := m (by omega) hnb
    exact ⟨E, L, q.resolve_right (fun z => z hsq)⟩
  have st : plA (pkV w r) (99 - plBy w 0) (plBy w 0) (-1) (-1) = plA (pkV w r) 99 0 (-1) (-1) := by
    have := plA_skip (V := pkV w r) (p := (-1 : Int32)) (m := (-1 : Int32)) (plBy w 0) 0 (by unfold plBy; split <;> omega) (fun c q1 q2 b => pkV_no (by decide) (Or.inl (by
      unfold plBy at q2
      unfold isPlB
      apply decide_eq_false
      split at q2 <;> omega)))
    rw [Nat.zero_add] at this
    exact this.symm
  refine ⟨plA (pkV w r) 99 0 (-1) (-1), w, same_rf w, hG, ?_, ?_⟩
  · rw [t_bnd, t_eq (isStride11 hR hG _), q1, t_brF (by decide), lk_0_5, t_gi, hR.1.2.1]
    have J53 : ∀ (v3 v6 : Int32) (μ1 : sm_Mem), FrC μ μ1 → (∀ Q : Unit → sm_Mem → Prop, (∀ μ2, WhI w r 1 v3 v6 μ2 → (∀ c, (c < 83 ∨ 89 ≤ c) → μ2.1 c = μ1.1 c) → μ2.2 = μ1.2 → Q () μ2) → T (fnX2_save 76) μ1 Q) → T (fnX11_planks_J53 0 v3 (-1 : Int32) (-1 : Int32) v6) μ1 (fun z μ' => z = plA (pkV w r) 99 0 (-1) (-1) ∧ CP w w μ μ') := by
      intro v3 v6 μ1 f1 hs
      unfold fnX11_planks_J53
      rw [lk_0_13, t_bnd]
      apply hs
      intro μ2 HI s1 s2
      refine t_mono (planks65 hG r2 hmc HI (R := plA (pkV w r) 99 0 (-1) (-1)) 4096 0 (-1) (-1) μ2 (by omega) (by omega) (fun _ => st) (fun z => by omega) (by decide) ⟨frC_rf μ2, fun _ _ _ => rfl, rfl⟩) ?_
      rintro z μ3 ⟨e1, e2⟩
      refine ⟨e1, cp_fl hS (frC_tr f1 (frC_tr ⟨fun a q => s1 a (by omega), s2⟩ e2.1))⟩
    by_cases hrw : r < w 1
    · rw [t_brT (nI_lt hrw (by omega))]
      unfold fnX11_planks_J27
      rw [t_brT rfl, lk_0_6, li_1, t_bnd]
      refine t_mono (mostOf11_T sc_24 hG r1 r2 (by omega) (by omega) hR hS hL) ?_
      rintro x μ1 ⟨rfl, -, a3, a4⟩
      obtain ⟨-, ⟨g, h, src, snk, vis, n1, n2, n3, n4, n5, n6, n7, n8⟩, n9⟩ := a3 hrw
      refine J53 0 _ μ1 a4 ?_
      intro Q hQ
      refine t_mono (save_T n4 n5 n7 n8) ?_
      rintro - μ2 ⟨s1, s2, s3⟩
      exact hQ μ2 ⟨rh_fr (fun a q1 q2 => (s2 a (by omega)).trans (a4.1 a (by omega))) hR, Or.inr ⟨hrw, rfl, rfl, by rw [s2 76 (by omega)]; exact n9, g, h, src, snk, vis, n1, n2, n6, s1⟩⟩ s2 s3
    · rw [t_brF (nI_nlt (by omega) (by omega))]
      unfold fnX11_planks_J27
      rw [t_brF (by decide)]
      refine J53 1 _ μ (frC_rf μ) ?_
      intro Q hQ
      unfold fnX2_save
      rw [lk_76_1, lk_76_2, t_bnd]
      refine t_mono (takeFrom4_T (Or.inr ⟨rfl, rfl⟩)) ?_
      rintro - μ2 ⟨-, -, -, s4, s5⟩
      rw [t_ret]
      exact hQ μ2 ⟨rh_fr (fun a q1 q2 => s4 a (by omega)) hR, Or.inl ⟨by omega, rfl, rfl⟩⟩ s4 s5
  · intro μ1 h1 h2 hW1
    have h39 : μ1.1 146 39 = mI 1 := by rw [h1 146 (by omega)]; exact hF.2.1
    have h40 : μ1.1 146 40 = mI 1 := by rw [h1 146 (by omega)]; exact hF.2.2
    rw [t_bnd, t_eq (isRiver12 hW1 hG), q1'.1, t_brF (by decide), t_bnd, t_eq (isStride12 _ _), q1'.2, t_brF (by decide)]
    refine t_mono (planks24 hG w0 r2 hW1 h39 h40 4096 0 (-1) (-1) μ1 (by omega) (by omega) (by decide) (frN_rf μ1)) ?_
    rintro z μ2 ⟨e1, e2⟩
    exact ⟨e1, rp_fl hW1 e2⟩
