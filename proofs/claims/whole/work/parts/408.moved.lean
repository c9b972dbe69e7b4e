/-! ===== MOVED, MOVE ===== -/
noncomputable def movedW (w : Nat → Nat) (s x y r : Nat) : Nat := if w 1 ≤ r then 999 else netV (prW w) (up (sx w) s x) (up (sy w) s y) (fun s => lf w s / 1) (w 1) r
noncomputable def mvT (w : Nat → Nat) (s to : Nat) (X Y : Int32) (r : Nat) : Int32 := if to ≠ 0 ∧ (inB w X Y = false ∨ onB w X.toInt.toNat Y.toInt.toNat = true) then -5 else nI (movedW w s X.toInt.toNat Y.toInt.toNat r)
theorem prP_s {w : Nat → Nat} {s : Nat} (hs : s < w 3) : prP w s = prW w := by
  funext t
  unfold prP prW
  apply decide_eq_decide.mpr
  omega
theorem prN_s {w : Nat → Nat} {s : Nat} : prN (prW w) s = prM w s := by
  funext t
  unfold prN prW prM
  by_cases c : t < w 3
  · by_cases c2 : t = s
    · simp [c2]
    · simp [c, c2]
  · simp [c]
theorem tn {n : Nat} (h : n < 2 ^ 31) : (nI n).toInt.toNat = n := by
  rw [nI_toInt h]
  omega
theorem moved102 {w : Nat → Nat} (hG : Good w) {s x y r : Nat} (hs : s < w 3) (h1 : 1 ≤ r) (h9 : r ≤ 9) (hx : x < w 2) (hy : y ≤ w 1) {μ : sm_Mem} (hR : RH 14 w μ) (hS : SH 24 w μ) (hL : LKS w μ) : T (fnX11_mostMoved_J102 0 (nI s) (nI r) (nI x) (nI y)) μ (fun z μ' => z = nI (movedW w s x y r) ∧ movedW w s x y r ≤ 999 ∧ FrC μ μ') := by
  have n := hG.1
  have gw := good_wide hG
  unfold fnX11_mostMoved_J102 movedW
  rw [lk_0_5, lk_0_13, lk_0_6, t_gi, hR.1.2.1]
  by_cases c1 : r < w 1
  · rw [t_brT (nI_lt c1 (by omega)), if_neg (by omega), li_1, t_bnd]
    refine t_mono (layC_T sc_24 hG h1 h9 (show 1 ≤ 1 by omega) (show 1 < 100 by omega) hR hS hL) ?_
    rintro - μ1 ⟨N1, m2, m7, fy⟩
    rw [t_bnd]
    refine t_mono (lift_T (s0 := s) (by omega) N1) ?_
    rintro - μ2 ⟨N2, fz⟩
    have hR2 : RH 14 w μ2 := rh_fr (fun a q1 q2 => (fz.1 a (by omega)).trans (fy.1 a (by omega))) hR
    have hS2 : SH 24 w μ2 := sh_fr (fun a q1 q2 => (fz.1 a (by omega)).trans (fy.1 a (by omega))) hS
    rw [prN_s] at N2
    rw [t_bnd, t_eq (leftOf_eq hR2 hS2 sc_24 hG hs), t_bnd]
    refine t_mono (put_T (b := fun s => lf w s / 1) (bv := lf w s) hG (show x ≤ 20 by omega) (show y ≤ 12 by omega) hy h9 (show s < 25 by omega) hR2 (by rw [fz.1 76 (by omega)]; exact m7) N2) ?_
    rintro - μ3 ⟨N3, fz3⟩
    have eb : up (fun s => lf w s / 1) s (lf w s) = fun s => lf w s / 1 := by
      funext k
      by_cases c : k = s
      · subst c
        rw [up_at, Nat.div_one]
      · rw [up_ne c]
    rw [prP_s hs, eb] at N3
    rw [t_bnd]
    refine t_mono (filC_T (zB_9 hG) (zAdj_self _ _ _ _) (fl_zero _ _ _ _) N3 (by rw [fz3.2.1 2 (by omega), fz.2.1 2 (by omega), m2, sm_0])) ?_
    rintro z μ4 hP
    rw [t_ret]
    obtain ⟨a1, a2, -, a4⟩ := fiP_net (zB_9 hG) hP
    exact ⟨a1, Nat.le_trans a2 (by omega), frC_tr (frC_tr (frY_C fy) (frZ_C fz)) (frC_tr (frZ_C fz3) (frW_C a4))⟩
  · rw [t_brF (nI_nlt (by omega) (by omega)), if_pos (by omega), t_ret]
    exact ⟨rfl, by omega, frC_rf μ⟩
theorem moved86 {w : Nat → Nat} (hG : Good w) {s x y r : Nat} (hs : s < w 3) (h9 : r ≤ 9) (hx : x < w 2) (hy : y ≤ w 1) {μ : sm_Mem} (hW : WH 147 w μ) (h39 : μ.1 146 39 = mI 1) : T (fnX12_movedOf_J86 146 (nI s) (nI r) (nI x) (nI y)) μ (fun z μ' => z = nI (movedW w s x y r) ∧ FrN μ μ') := by
  have n := hG.1
  have gw := good_wide hG
  obtain ⟨w12, hgx, hgy⟩ := geo hG
  have e_161 : ln 161 = 27 := rfl
  have e_162 : ln 162 = 27 := rfl
  unfold fnX12_movedOf_J86 movedW
  rw [li_1, t_bnd]
  refine t_mono (fillNodes_T hG (by omega) (by omega) hW) ?_
  rintro - μ1 ⟨N1, f1⟩
  rw [lk_146_32, lk_146_33, li_2, nI_add, t_sai (by omega), t_sai (by omega), t_bnd]
  have N2 : NdH (w 3 + 2) (ndx (up (sx w) s x)) (ndy (w 1) (up (sy w) s y)) (ndh (fun s => lf w s / 1)) (u2 (u2 μ1.1 161 (2 + s) (nI x)) 162 (2 + s) (nI y), μ1.2) := by
    refine ⟨by rw [← N1.1]; simp (disch := omega) only [u2_ne, u2_a, u2_k, u2_at], fun k q1 q2 => ?_, fun k q => ?_, fun k q => by rw [← N1.2.2.2 k q]; simp (disch := omega) only [u2_ne, u2_a, u2_k, u2_at]⟩
    · have := N1.2.1 k q1 q2
      unfold ndx at this ⊢
      rw [if_neg (by omega)] at this ⊢
      by_cases c : k = 2 + s
      · subst c
        rw [show 2 + s - 2 = s by omega, up_at]
        simp (disch := omega) only [u2_ne, u2_a, u2_k, u2_at]
      · rw [up_ne (by omega), ← this]
        simp (disch := omega) only [u2_ne, u2_a, u2_k, u2_at]
    · have := N1.2.2.1 k q
      unfold ndy at this ⊢
      by_cases c0 : k = 0
      · rw [if_pos c0] at this ⊢
        rw [← this]
        simp (disch := omega) only [u2_ne, u2_a, u2_k, u2_at]
      · rw [if_neg c0] at this ⊢
        by_cases c1 : k = 1
        · rw [if_pos c1] at this ⊢
          rw [← this]
          simp (disch := omega) only [u2_ne, u2_a, u2_k, u2_at]
        · rw [if_neg c1] at this ⊢
          by_cases c : k = 2 + s
          · subst c
            rw [show 2 + s - 2 = s by omega, up_at]
            simp (disch := omega) only [u2_ne, u2_a, u2_k, u2_at]
          · rw [up_ne (by omega), ← this]
            simp (disch := omega) only [u2_ne, u2_a, u2_k, u2_at]
  have kx : ∀ t, t < w 3 → up (sx w) s x t ≤ 20 := by
    intro t ht
    by_cases c : t = s
    · subst c
      rw [up_at]
      omega
    · rw [up_ne c]
      exact hgx t ht
  have ky : ∀ t, t < w 3 → up (sy w) s y t ≤ w 1 := by
    intro t ht
    by_cases c : t = s
    · subst c
      rw [up_at]
      omega
    · rw [up_ne c]
      exact hgy t ht
  have p39 : (u2 (u2 μ1.1 161 (2 + s) (nI x)) 162 (2 + s) (nI y), μ1.2).1 146 39 = mI 1 := by
    rw [← h39, ← f1.2.1 39 (by omega)]
    simp (disch := omega) only [u2_ne, u2_a, u2_k, u2_at]
  have fr2 : FrN μ1 (u2 (u2 μ1.1 161 (2 + s) (nI x)) 162 (2 + s) (nI y), μ1.2) := ⟨fun a q1 q2 => (by simp (disch := omega) only [u2_ne, u2_a, u2_k, u2_at]), fun k q => (by simp (disch := omega) only [u2_ne, u2_a, u2_k, u2_at]), rfl⟩
  by_cases c1 : r < w 1
  · rw [if_neg (by omega)]
    refine t_mono (flowW_T (n := w 3) (by omega) h9 w12 kx ky (fun t ht => by have := lf_le hG ht; show lf w t / 1 ≤ 9; rw [Nat.div_one]; omega) c1 N2 p39) ?_
    rintro z μ2 ⟨v, E, L, q1, q2, q3⟩
    rw [t_ret]
    have ev : netV (prW w) (up (sx w) s x) (up (sy w) s y) (fun s => lf w s / 1) (w 1) r = v := mcV_eq q2
    exact ⟨by rw [ev]; exact q1, frN_tr (frN_tr f1 fr2) q3⟩
  · rw [if_pos (by omega), t_eq (flowN_999 (n := w 3) (po := none) (by omega) h9 w12 kx ky (Or.inr (by omega)) N2 p39), t_ret]
    exact ⟨rfl, frN_tr f1 fr2⟩
/-- where to: as the component and the reference reckon it -/
def mvX (w : Nat → Nat) (s to : Nat) : Int32 := if to = 1 then nI (sx w s) + 1 else if to = 2 then nI (sx w s) - 1 else nI (sx w s)
def mvY (w : Nat → Nat) (s to : Nat) : Int32 := if to = 3 then nI (sy w s) + 1 else if to = 4 then nI (sy w s) - 1 else nI (sy w s)
theorem add0 (x : Int32) : x + (0 : Int32) = x := Int32.add_zero x
theorem sub0 (x : Int32) : x - (0 : Int32) = x := Int32.sub_zero x
theorem addm1 (x : Int32) : x + (-1 : Int32) = x - 1 := (Int32.sub_eq_add_neg ..).symm
theorem moved63 {w : Nat → Nat} (hG : Good w) {s to r : Nat} (hs : s < w 3) (hto : to ≤ 4) (h1 : 1 ≤ r) (h9 : r ≤ 9) {μ : sm_Mem} (hR : RH 14 w μ) (hS : SH 24 w μ) (hL : LKS w μ) {X Y : Int32} {a b : Int32} (hY : a - b = Y) (h0 : to = 0 → X = nI (sx w s) ∧ Y = nI (sy w s)) : T (fnX11_mostMoved_J63 0 (nI s) (nI to) (nI r) X b a) μ (fun z μ' => z = mvT w s to X Y r ∧ (z = -5 ∨ ∃ k, k ≤ 999 ∧ z = nI k) ∧ FrC μ μ') := by
  have gw := good_wide hG
  have g := hG.2.2.2.1 s hs
  unfold fnX11_mostMoved_J63
  rw [t_nm, hY, lk_0_5]
  have fin : ∀ x y, X = nI x → Y = nI y → x < w 2 → y ≤ w 1 → ¬ (to ≠ 0 ∧ (inB w X Y = false ∨ onB w X.toInt.toNat Y.toInt.toNat = true)) → T (fnX11_mostMoved_J102 0 (nI s) (nI r) X Y) μ (fun z μ' => z = mvT w s to X Y r ∧ (z = -5 ∨ ∃ k, k ≤ 999 ∧ z = nI k) ∧ FrC μ μ') := by
    intro x y hx hy x2 y2 hn
    subst hx hy
    refine t_mono (moved102 hG hs h1 h9 x2 y2 hR hS hL) ?_
    rintro z μ' ⟨a1, a2, a3⟩
    unfold mvT
    rw [if_neg hn, tn (by omega), tn (by omega)]
    exact ⟨a1, Or.inr ⟨_, a2, a1⟩, a3⟩
  by_cases c0 : to = 0
  · obtain ⟨e1, e2⟩ := h0 c0
    rw [t_brT (by rw [c0]; rfl)]
    exact fin (sx w s) (sy w s) e1 e2 (by unfold sx; omega) (by unfold sy; omega) (fun z => z.1 c0)
  · rw [t_brF (show ¬ nI to = (0 : Int32) from fun z => c0 ((nI_eq (b := 0) (by omega) (by omega)).mp z)), t_bnd, t_eq (inWater7 hR hG _ _)]
    cases qi : inB w X Y
    · rw [t_brT (by decide), t_ret]
      unfold mvT
      rw [if_pos ⟨c0, Or.inl qi⟩]
      exact ⟨rfl, Or.inl rfl, frC_rf μ⟩
    · obtain ⟨x, y, ex, ey, hx, hy1, hy⟩ := in_nat hG qi
      obtain ⟨k, k1, k2⟩ := stoneAt7 hR hG (x := x) (y := y) (by omega) (by omega)
      have tx : X.toInt.toNat = x := by rw [ex]; exact tn (by omega)
      have ty : Y.toInt.toNat = y := by rw [ey]; exact tn (by omega)
      rw [t_brF (by decide), t_bnd]
      rw [show fnX7_stoneAt 14 X Y = fnX7_stoneAt 14 (nI x) (nI y) from by rw [ex, ey], t_eq k1]
      cases qo : onB w x y
      · rw [t_brT (k2.mpr qo)]
        refine fin x y ex ey hx (by omega) ?_
        rw [tx, ty, qi, qo]
        rintro ⟨-, z | z⟩ <;> cases z
      · rw [t_brF (fun z => by rw [k2.mp z] at qo; cases qo), t_ret]
        unfold mvT
        rw [if_pos ⟨c0, Or.inr (by rw [tx, ty]; exact qo)⟩]
        exact ⟨rfl, Or.inl rfl, frC_rf μ⟩
theorem moved53 {w : Nat → Nat} (hG : Good w) {s to r : Nat} (hs : s < w 3) (hto : to ≤ 4) (h9 : r ≤ 9) {μ : sm_Mem} (hW : WH 147 w μ) (h39 : μ.1 146 39 = mI 1) {X Y : Int32} {a b : Int32} (hY : a + b = Y) (h0 : to = 0 → X = nI (sx w s) ∧ Y = nI (sy w s)) : T (fnX12_movedOf_J53 146 (nI s) (nI to) (nI r) X b a) μ (fun z μ' => z = mvT w s to X Y r ∧ FrN μ μ') := by
  have gw := good_wide hG
  have g := hG.2.2.2.1 s hs
  unfold fnX12_movedOf_J53
  rw [t_nm, hY]
  have fin : ∀ x y, X = nI x → Y = nI y → x < w 2 → y ≤ w 1 → ¬ (to ≠ 0 ∧ (inB w X Y = false ∨ onB w X.toInt.toNat Y.toInt.toNat = true)) → T (fnX12_movedOf_J86 146 (nI s) (nI r) X Y) μ (fun z μ' => z = mvT w s to X Y r ∧ FrN μ μ') := by
    intro x y hx hy x2 y2 hn
    subst hx hy
    refine t_mono (moved86 hG hs h9 x2 y2 hW h39) ?_
    rintro z μ' ⟨a1, a2⟩
    unfold mvT
    rw [if_neg hn, tn (by omega), tn (by omega)]
    exact ⟨a1, a2⟩
  by_cases c0 : to = 0
  · obtain ⟨e1, e2⟩ := h0 c0
    rw [t_brT (show nI to ≤ 0 by rw [c0]; decide)]
    exact fin (sx w s) (sy w s) e1 e2 (by unfold sx; omega) (by unfold sy; omega) (fun z => z.1 c0)
  · rw [t_brF (show ¬ nI to ≤ (0 : Int32) from nI_ge (a := 0) (by omega) (by omega)), t_bnd, t_eq (isSpot12 hW hG _ _)]
    cases qi : inB w X Y
    · rw [t_brT (by decide), t_ret]
      unfold mvT
      rw [if_pos ⟨c0, Or.inl qi⟩]
      exact ⟨rfl, frN_rf μ⟩
    · obtain ⟨x, y, ex, ey, hx, hy1, hy⟩ := in_nat hG qi
      obtain ⟨k, k1, k2⟩ := stoneOn12 hW hG (x := x) (y := y) (by omega) (by omega)
      have tx : X.toInt.toNat = x := by rw [ex]; exact tn (by omega)
      have ty : Y.toInt.toNat = y := by rw [ey]; exact tn (by omega)
      rw [t_brF (by decide), t_bnd]
      rw [show fnX12_stoneOn 146 X Y = fnX12_stoneOn 146 (nI x) (nI y) from by rw [ex, ey], t_eq k1]
      cases qo : onB w x y
      · rw [t_brT (k2.mpr qo)]
        refine fin x y ex ey hx (by omega) ?_
        rw [tx, ty, qi, qo]
        rintro ⟨-, z | z⟩ <;> cases z
      · rw [t_brF (fun z => by rw [k2.mp z] at qo; cases qo), t_ret]
        unfold mvT
        rw [if_pos ⟨c0, Or.inr (by rw [tx, ty]; exact qo)⟩]
        exact ⟨rfl, frN_rf μ⟩
theorem moved11_T {w : Nat → Nat} (hG : Good w) {s to r : Nat} (hs : s < w 3) (hto : to ≤ 4) (h1 : 1 ≤ r) (h9 : r ≤ 9) {μ : sm_Mem} (hR : RH 14 w μ) (hS : SH 24 w μ) (hL : LKS w μ) : T (fnX11_mostMoved 0 (nI s) (nI to) (nI r)) μ (fun z μ' => z = mvT w s to (mvX w s to) (mvY w s to) r ∧ (z = -5 ∨ ∃ k, k ≤ 999 ∧ z = nI k) ∧ FrC μ μ') := by
  have n := hG.1
  have e_15 : ln 15 = 24 := rfl
  have e_16 : ln 16 = 24 := rfl
  have x1 : μ.1 15 s = nI (sx w s) := (hR.2.2.2.1 s hs).1
  have y1 : μ.1 16 s = nI (sy w s) := (hR.2.2.2.1 s hs).2.1
  unfold fnX11_mostMoved fnX11_mostMoved_J19 fnX11_mostMoved_J30 fnX11_mostMoved_J52
  rw [lk_0_5, lk_14_8, lk_14_9, t_ai (by omega), x1]
  have cs : to = 0 ∨ to = 1 ∨ to = 2 ∨ to = 3 ∨ to = 4 := by omega
  rcases cs with rfl | rfl | rfl | rfl | rfl
  · rw [t_brF (by decide), t_brF (by decide), t_nm, t_ai (by omega), y1, t_brF (by decide), t_brF (by decide), add0, sub0]
    exact moved63 hG hs (by omega) h1 h9 hR hS hL (by rw [add0, sub0]; rfl) (fun _ => ⟨rfl, rfl⟩)
  · rw [t_brT (by decide), t_brF (by decide), t_nm, t_ai (by omega), y1, t_brF (by decide), t_brF (by decide), sub0]
    exact moved63 hG hs (by omega) h1 h9 hR hS hL (by rw [add0, sub0]; rfl) (fun z => by omega)
  · rw [t_brF (by decide), t_brT (by decide), t_nm, t_ai (by omega), y1, t_brF (by decide), t_brF (by decide), add0]
    exact moved63 hG hs (by omega) h1 h9 hR hS hL (by rw [add0, sub0]; rfl) (fun z => by omega)
  · rw [t_brF (by decide), t_brF (by decide), t_nm, t_ai (by omega), y1, t_brT (by decide), t_brF (by decide), add0, sub0]
    exact moved63 hG hs (by omega) h1 h9 hR hS hL (by rw [sub0]; rfl) (fun z => by omega)
  · rw [t_brF (by decide), t_brF (by decide), t_nm, t_ai (by omega), y1, t_brF (by decide), t_brT (by decide), add0, sub0]
    exact moved63 hG hs (by omega) h1 h9 hR hS hL (by rw [add0]; rfl) (fun z => by omega)
theorem moved12_T {w : Nat → Nat} (hG : Good w) {s to r : Nat} (hs : s < w 3) (hto : to ≤ 4) (h9 : r ≤ 9) {μ : sm_Mem} (hW : WH 147 w μ) (h39 : μ.1 146 39 = mI 1) : T (fnX12_movedOf 146 (nI s) (nI to) (nI r)) μ (fun z μ' => z = mvT w s to (mvX w s to) (mvY w s to) r ∧ FrN μ μ') := by
  have n := hG.1
  have x1 := ofStone_eq hW (s := s) (k := 0) (by omega) (by omega)
  have y1 := ofStone_eq hW (s := s) (k := 1) (by omega) (by omega)
  rw [Nat.add_zero, show w (10 + 7 * s) = sx w s from rfl] at x1
  rw [show 10 + 7 * s + 1 = 11 + 7 * s by omega, show w (11 + 7 * s) = sy w s from rfl] at y1
  have x1' : fnX12_ofStone 146 (nI s) (0 : Int32) μ = some (nI (sx w s), μ) := x1
  have y1' : fnX12_ofStone 146 (nI s) (1 : Int32) μ = some (nI (sy w s), μ) := y1
  unfold fnX12_movedOf fnX12_movedOf_J25
  rw [t_bnd, t_eq x1']
  have cs : to = 0 ∨ to = 1 ∨ to = 2 ∨ to = 3 ∨ to = 4 := by omega
  rcases cs with rfl | rfl | rfl | rfl | rfl
  · rw [t_brF (by decide), t_brF (by decide), t_nm, t_bnd, t_eq y1', t_brF (by decide), t_brF (by decide), add0]
    exact moved53 hG hs (by omega) h9 hW h39 (by rw [add0]; rfl) (fun _ => ⟨rfl, rfl⟩)
  · rw [t_brT (by decide), t_nm, t_bnd, t_eq y1', t_brF (by decide), t_brF (by decide)]
    exact moved53 hG hs (by omega) h9 hW h39 (by rw [add0]; rfl) (fun z => by omega)
  · rw [t_brF (by decide), t_brT (by decide), t_nm, t_bnd, t_eq y1', t_brF (by decide), t_brF (by decide), addm1]
    exact moved53 hG hs (by omega) h9 hW h39 (by rw [add0]; rfl) (fun z => by omega)
  · rw [t_brF (by decide), t_brF (by decide), t_nm, t_bnd, t_eq y1', t_brT (by decide), add0]
    exact moved53 hG hs (by omega) h9 hW h39 rfl (fun z => by omega)
  · rw [t_brF (by decide), t_brF (by decide), t_nm, t_bnd, t_eq y1', t_brF (by decide), t_brT (by decide), add0]
    exact moved53 hG hs (by omega) h9 hW h39 (by rw [addm1]; rfl) (fun z => by omega)
