/-! ===== CUT, LATE, NOON ===== -/
theorem cut_L {w : Nat → Nat} {μ : sm_Mem} (hW : WH 147 w μ) (hG : Good w) {S : Nat → Bool} (hS : ∀ k, k < 2 * (w 3 + 2) → (μ.1 165 k = mI 1 ↔ S k = false)) : ∀ f s, w 3 - s < f → s ≤ w 3 → fnX12_cut_L31 f 146 (mk (fun s => S (2 * (s + 2)) && !S (2 * (s + 2) + 1)) s) (nI s) μ = some (mk (fun s => S (2 * (s + 2)) && !S (2 * (s + 2) + 1)) (w 3), μ) := by
  have n := hG.1
  have e_147 : ln 147 = 241 := rfl
  have e_165 : ln 165 = 54 := rfl
  have w3 := wh_lo hW (i := 3) (by omega)
  have o0 : ∀ x : Int32, x ||| (0 : Int32) = x := fun x => b_ext (fun i _ => by rw [b_or, b_0, Bool.or_false])
  intro f
  induction f with
  | zero =>
    intro s h
    omega
  | succ f ih =>
    intro s hf hs
    unfold fnX12_cut_L31 fnX12_cut_J82 fnX12_cut_J83
    rw [li_3, lk_146_1, e_ai (by omega), w3]
    by_cases c1 : w 3 ≤ s
    · have : s = w 3 := by omega
      subst this
      rw [e_T (nI_le c1 (by omega))]
      rfl
    · have ih' := ih (s + 1) (by omega) (by omega)
      rw [mk_succ] at ih'
      have k1 := hS (2 * (2 + s)) (by omega)
      have k2 := hS (2 * (2 + s) + 1) (by omega)
      rw [show 2 * (s + 2) = 2 * (2 + s) by omega] at ih'
      rw [e_F (nI_ge (by omega) (by omega)), e_nm', lk_146_37, li_2, nI_add, pk_mul, e_ai (by omega)]
      cases h1 : S (2 * (2 + s))
      · rw [h1, Bool.false_and, if_neg (by decide)] at ih'
        rw [e_T (show μ.1 165 (2 * (2 + s)) = (-1 : Int32) from k1.mpr h1), e_nm', o0, nI_1]
        exact ih'
      · rw [h1, Bool.true_and] at ih'
        rw [e_F (show ¬ μ.1 165 (2 * (2 + s)) = (-1 : Int32) from fun z => by rw [k1.mp z] at h1; cases h1), nI_1, e_ai (by omega)]
        cases h2 : S (2 * (2 + s) + 1)
        · rw [h2, if_pos (show (!false) = true from rfl)] at ih'
          rw [e_T (show μ.1 165 (2 * (2 + s) + 1) = (-1 : Int32) from k2.mpr h2), e_nm', nI_1]
          exact ih'
        · rw [h2, if_neg (by decide)] at ih'
          rw [e_F (show ¬ μ.1 165 (2 * (2 + s) + 1) = (-1 : Int32) from fun z => by rw [k2.mp z] at h2; cases h2), e_nm', o0, nI_1]
          exact ih'
theorem op_cut (v u : Int32) : op2 Inv (fnX11_cut 0 v u) (fnX12_cut 146 v u) := by
  apply op_two
  intro w μ hC hO
  obtain ⟨hG, hR, hS, hW, hL, hT, hSl, hI, hF⟩ := id hC
  have n := hG.1
  unfold fnX11_cut fnX12_cut
  cases hq : (decide (0 < w 0) && (rg v 1 9 && rg u 1 6))
  · refine ⟨-2, w, same_rf w, hG, ?_, ?_⟩
    · rw [t_bnd, t_eq (isStride11 hR hG _)]
      cases q1 : (decide (0 < w 0) && rg v 1 9)
      · rw [t_brT (by decide), t_ret]
        exact ⟨rfl, cp_rf hS⟩
      rw [t_brF (by decide), t_bnd, t_eq (isWeight11 _ _)]
      cases q2 : rg u 1 6
      · rw [t_brT (by decide), t_ret]
        exact ⟨rfl, cp_rf hS⟩
      exfalso
      simp only [Bool.and_eq_true] at q1
      rw [q1.1, q1.2, q2] at hq
      cases hq
    · intro μ1 _ _ hW1
      rw [t_bnd, t_eq (isLoad12 hW1 hG _ _), hq, t_brT (by decide), t_ret]
      exact ⟨rfl, rp_rf hW1⟩
  obtain ⟨h0, ⟨r, r1, r2, rfl⟩, t, t1, t2, rfl⟩ := load_nat hq
  have hq2 := hq
  simp only [Bool.and_eq_true] at hq2
  have f1 : (decide (0 < w 0) && rg (nI r) 1 9) = true := by rw [hq2.1, hq2.2.1]; rfl
  by_cases hrw : r < w 1
  · obtain ⟨x, μa, hf, rfl, -, a3, a4⟩ := mostOf11_T sc_24 hG r1 r2 t1 (show t < 100 by omega) hR hS hL
    obtain ⟨l225, ⟨g, h, src, snk, vis, -, -, -, -, -, mc, mE, mL⟩, -⟩ := a3 hrw
    refine ⟨μa.1 77 3 &&& (μa.1 77 4 ^^^ (-1 : Int32)), w, same_rf w, hG, ?_, ?_⟩
    · rw [t_bnd, t_eq (isStride11 hR hG _), f1, t_brF (by decide), t_bnd, t_eq (isWeight11 _ _), hq2.2.2, t_brF (by decide), lk_0_6, lk_0_13, t_bnd, t_eq hf, t_brF (show ¬ nI (mostW w r t) = (999 : Int32) from fun z => by have := (nI_eq (b := 999) (by omega) (by omega)).mp z; omega), t_bnd]
      unfold fnX2_barring
      rw [lk_76_1, t_gi, t_gi, t_ret, t_ret]
      exact ⟨rfl, cp_fl hS a4⟩
    · intro μ1 h1 h2 hW1
      have h39 : μ1.1 146 39 = mI 1 := by rw [h1 146 (by omega)]; exact hF.2.1
      rw [t_bnd, t_eq (isLoad12 hW1 hG _ _), hq, t_brF (by decide), t_bnd]
      refine t_mono (mostOf12_T hG r2 t1 (by omega) hW1 h39) ?_
      rintro x μ2 ⟨rfl, b2, b3⟩
      obtain ⟨S, mc2, b5⟩ := b2 hrw
      have hW2 : WH 147 w μ2 := (rp_fl hW1 b3).1
      have one := (minC_one mc mc2).2
      have e0 := cut_L hW2 hG b5 4096 0 (by omega) (by omega)
      rw [t_brF (show ¬ nI (mostW w r t) = (999 : Int32) from fun z => by have := (nI_eq (b := 999) (by omega) (by omega)).mp z; omega)]
      rw [t_eq (show fnX12_cut_L31 4096 146 (0 : Int32) (0 : Int32) μ2 = _ from e0)]
      refine ⟨?_, rp_fl hW1 b3⟩
      apply b_ext
      intro i hi
      rw [bt_mk _ _ (by omega) i hi, b_and, k_not _ hi, mE i hi, mL i hi]
      by_cases c : i < 25
      · obtain ⟨o1, o2⟩ := one i c
        rw [decide_eq_true c, o1, o2]
        unfold prW
        by_cases c3 : i < w 3
        · rw [decide_eq_true c3]
          simp
        · rw [decide_eq_false c3]
          simp
      · rw [decide_eq_false c, decide_eq_false (show ¬ i < w 3 by omega)]
        rfl
  · refine ⟨0, w, same_rf w, hG, ?_, ?_⟩
    · have m9 : mostW w r t = 999 := by
        unfold mostW
        rw [if_pos (by omega)]
      rw [t_bnd, t_eq (isStride11 hR hG _), f1, t_brF (by decide), t_bnd, t_eq (isWeight11 _ _), hq2.2.2, t_brF (by decide), lk_0_6, lk_0_13, t_bnd]
      refine t_mono (mostOf11_T sc_24 hG r1 r2 t1 (show t < 100 by omega) hR hS hL) ?_
      rintro x μ1 ⟨rfl, -, -, a4⟩
      rw [t_brT (by rw [m9]; rfl), t_ret]
      exact ⟨rfl, cp_fl hS a4⟩
    · intro μ1 h1 h2 hW1
      have h39 : μ1.1 146 39 = mI 1 := by rw [h1 146 (by omega)]; exact hF.2.1
      have m9 : mostW w r t = 999 := by
        unfold mostW
        rw [if_pos (by omega)]
      rw [t_bnd, t_eq (isLoad12 hW1 hG _ _), hq, t_brF (by decide), t_bnd]
      refine t_mono (mostOf12_T hG r2 t1 (by omega) hW1 h39) ?_
      rintro x μ2 ⟨rfl, -, b3⟩
      rw [t_brT (by rw [m9]; rfl), t_ret]
      exact ⟨rfl, rp_fl hW1 b3⟩
/-! late, noon -/
theorem good_up7 {w : Nat → Nat} (hG : Good w) {h : Nat} (hh : h ≤ 23) : Same w (up w 7 h) ∧ Good (up w 7 h) := by
  have hs : Same w (up w 7 h) := same_up (Or.inl rfl)
  refine ⟨hs, same_good hs hG ?_ ?_ ?_ ?_⟩
  · rw [up_at]
    exact hh
  · intro s hs'
    have g := hG.2.2.2.1 s hs'
    rw [up_ne (by omega), up_ne (by omega)]
    omega
  · intro s h1 h2
    rw [up_ne (by omega)]
    exact hG.2.2.2.2.1 s h1 h2
  · intro p hp
    rw [up_ne (by omega)]
    have := hG.2.2.2.2.2.2.2.2.2 p hp
    omega
def FrT (μ0 μ : sm_Mem) : Prop := (∀ a, (a < 28 ∨ 32 ≤ a) → (a < 36 ∨ 41 ≤ a) → (a < 76 ∨ 92 ≤ a) → μ.1 a = μ0.1 a) ∧ μ.2 = μ0.2
theorem frT_rf (μ : sm_Mem) : FrT μ μ := ⟨fun _ _ _ _ => rfl, rfl⟩
theorem frT_tr {μ μ1 μ2 : sm_Mem} (h : FrT μ μ1) (h' : FrT μ1 μ2) : FrT μ μ2 := ⟨fun a q1 q2 q3 => (h'.1 a q1 q2 q3).trans (h.1 a q1 q2 q3), h'.2.trans h.2⟩
theorem frC_T {μ μ' : sm_Mem} (h : FrC μ μ') : FrT μ μ' := ⟨fun a _ _ q => h.1 a q, h.2⟩
theorem cp_ft {w : Nat → Nat} {μ μ1 : sm_Mem} (hS : SH 24 w μ) (h : FrT μ μ1) : CP w w μ μ1 := ⟨sh_fr (fun a _ _ => h.1 a (by omega) (by omega) (by omega)) hS, fun a _ => h.1 a (by omega) (by omega) (by omega), by rw [h.2], Or.inr ⟨rfl, h.1 42 (by omega) (by omega) (by omega), h.1 45 (by omega) (by omega) (by omega)⟩⟩
theorem frT_core {w : Nat → Nat} {μ μ1 : sm_Mem} (h : FrT μ μ1) (hR : RH 14 w μ) (hS : SH 24 w μ) (hL : LKS w μ) : RH 14 w μ1 ∧ SH 24 w μ1 ∧ LKS w μ1 := ⟨rh_fr (fun a _ _ => h.1 a (by omega) (by omega) (by omega)) hR, sh_fr (fun a _ _ => h.1 a (by omega) (by omega) (by omega)) hS, lks_fr (fun a _ _ => h.1 a (by omega) (by omega) (by omega)) hL⟩
theorem mostAt11_T {w : Nat → Nat} (hG : Good w) {r h : Nat} (h1 : 1 ≤ r) (h9 : r ≤ 9) (hh : h ≤ 23) {μ : sm_Mem} (hR : RH 14 w μ) (hS : SH 24 w μ) (hL : LKS w μ) : T (fnX11_mostAt 0 (nI r) (nI h)) μ (fun x μ' => x = nI (mostW (up w 7 h) r 1) ∧ mostW (up w 7 h) r 1 ≤ 999 ∧ FrT μ μ') := by
  obtain ⟨gs, gg⟩ := good_up7 hG hh
  unfold fnX11_mostAt
  rw [lk_0_7, lk_0_6, t_bnd]
  refine t_mono (takeFrom9 (scK_of sc_28) (scK_of sc_24) (by omega) hG hS) ?_
  rintro - μ1 ⟨a1, a2, a3⟩
  rw [t_si, li_1, t_bnd]
  have fr : ∀ a, (a < 28 ∨ 32 ≤ a) → (u2 μ1.1 28 1 (nI h), μ1.2).1 a = μ.1 a := by
    intro a ha
    rw [← a2 a ha]
    simp (disch := omega) only [u2_ne, u2_a, u2_k, u2_at]
  refine t_mono (mostOf11_T sc_28 gg h1 h9 (by omega) (by omega) (same_rh gs hG (rh_fr (μ := μ) (fun a q1 q2 => fr a (by omega)) hR)) (sh_up7 a1) (same_lks gs hG (lks_fr (μ := μ) (fun a q1 q2 => fr a (by omega)) hL))) ?_
  rintro x μ2 ⟨b1, b2, -, b4⟩
  rw [t_ret]
  exact ⟨b1, b2, fun a q1 q2 q3 => (b4.1 a q3).trans (fr a q1), b4.2.trans a3⟩
theorem lateOf12_T {w : Nat → Nat} (hG : Good w) {r h : Nat} (h9 : r ≤ 9) (hh : h ≤ 23) {μ : sm_Mem} (hW : WH 147 w μ) (h39 : μ.1 146 39 = mI 1) : T (fnX12_lateOf 146 (nI r) (nI h)) μ (fun x μ' => x = nI (mostW (up w 7 h) r 1) ∧ FrN μ μ' ∧ WH 147 w μ') := by
  obtain ⟨gs, gg⟩ := good_up7 hG hh
  have e_147 : ln 147 = 241 := rfl
  have e7 : ∀ v, eI 7 v = nI v := fun v => by unfold eI; rw [if_neg (by omega)]
  unfold fnX12_lateOf
  rw [lk_146_1, li_7, li_1, t_ai (by omega), t_sai (by omega), t_bnd]
  refine t_mono (mostOf12_T gg h9 (by omega) (by omega) (wh_up hW (e7 h).symm) (by rw [← h39]; simp (disch := omega) only [u2_ne, u2_a, u2_k, u2_at])) ?_
  rintro x μ1 ⟨a1, -, a3⟩
  rw [t_sai (by omega), t_ret]
  have back : ∀ i, (u2 μ1.1 147 7 (μ.1 147 7), μ1.2).1 147 i = μ.1 147 i := by
    intro i
    by_cases c : i = 7
    · subst c
      simp (disch := omega) only [u2_ne, u2_a, u2_k, u2_at]
    · rw [show (u2 μ1.1 147 7 (μ.1 147 7), μ1.2).1 147 i = μ1.1 147 i from (by simp (disch := omega) only [u2_ne, u2_a, u2_k, u2_at]), a3.1 147 (by omega) (by omega)]
      simp (disch := omega) only [u2_ne, u2_a, u2_k, u2_at]
  refine ⟨a1, ⟨fun a q1 q2 => ?_, fun k hk => ?_, a3.2.2⟩, wh_fr (μ := μ) (fun i _ => back i) hW⟩
  · by_cases c : a = 147
    · subst c
      funext i
      exact back i
    · rw [show (u2 μ1.1 147 7 (μ.1 147 7), μ1.2).1 a = μ1.1 a from (by simp (disch := omega) only [u2_ne, u2_a, u2_k, u2_at]), a3.1 a q1 q2]
      simp (disch := omega) only [u2_ne, u2_a, u2_k, u2_at]
  · rw [show (u2 μ1.1 147 7 (μ.1 147 7), μ1.2).1 146 k = μ1.1 146 k from (by simp (disch := omega) only [u2_ne, u2_a, u2_k, u2_at]), a3.2.1 k hk]
    simp (disch := omega) only [u2_ne, u2_a, u2_k, u2_at]
theorem op_late (v u : Int32) : op2 Inv (fnX11_late 0 v u) (fnX12_late 146 v u) := by
  apply op_two
  intro w μ hC hO
  obtain ⟨hG, hR, hS, hW, hL, hT, hSl, hI, hF⟩ := id hC
  unfold fnX11_late fnX12_late
  cases q1 : (decide (0 < w 0) && rg v 1 9)
  · refine ⟨-2, w, same_rf w, hG, ?_, ?_⟩
    · rw [t_bnd, t_eq (isStride11 hR hG _), q1, t_brT (by decide), t_ret]
      exact ⟨rfl, cp_rf hS⟩
    · intro μ1 _ _ hW1
      rw [t_bnd, t_eq (isRiver12 hW1 hG)]
      cases q0 : decide (0 < w 0)
      · rw [t_brT (by decide), t_ret]
        exact ⟨rfl, rp_rf hW1⟩
      rw [q0, Bool.true_and] at q1
      rw [t_brF (by decide), t_bnd, t_eq (isStride12 _ _), q1, t_brT (by decide), t_ret]
      exact ⟨rfl, rp_rf hW1⟩
  have q1' := q1
  simp only [Bool.and_eq_true] at q1'
  obtain ⟨r, r1, r2, rfl⟩ := rg_nat (a := 1) (b := 9) q1'.2 (by omega)
  cases q2 : rg u 0 23
  · refine ⟨-2, w, same_rf w, hG, ?_, ?_⟩
    · rw [t_bnd, t_eq (isStride11 hR hG _), q1, t_brF (by decide), t_bnd, t_eq (isHour11 hR hG _), q2, Bool.and_false, t_brT (by decide), t_ret]
      exact ⟨rfl, cp_rf hS⟩
    · intro μ1 _ _ hW1
      rw [t_bnd, t_eq (isRiver12 hW1 hG), q1'.1, t_brF (by decide), t_bnd, t_eq (isStride12 _ _), q1'.2, t_brF (by decide), t_bnd, t_eq (in_eq _ _ _ _), t64_0, t64_23, q2, t_brT (by decide), t_ret]
      exact ⟨rfl, rp_rf hW1⟩
  obtain ⟨h, -, hh, rfl⟩ := rg_nat (a := 0) (b := 23) q2 (by omega)
  refine ⟨nI (mostW (up w 7 h) r 1), w, same_rf w, hG, ?_, ?_⟩
  · rw [t_bnd, t_eq (isStride11 hR hG _), q1, t_brF (by decide), t_bnd, t_eq (isHour11 hR hG _), q1'.1, q2, t_brF (by decide), t_bnd]
    refine t_mono (mostAt11_T hG r1 r2 hh hR hS hL) ?_
    rintro x μ1 ⟨a1, -, a3⟩
    rw [t_ret]
    exact ⟨a1, cp_ft hS a3⟩
  · intro μ1 h1 h2 hW1
    have h39 : μ1.1 146 39 = mI 1 := by rw [h1 146 (by omega)]; exact hF.2.1
    rw [t_bnd, t_eq (isRiver12 hW1 hG), q1'.1, t_brF (by decide), t_bnd, t_eq (isStride12 _ _), q1'.2, t_brF (by decide), t_bnd, t_eq (in_eq _ _ _ _), t64_0, t64_23, q2, t_brF (by decide), t_bnd]
    refine t_mono (lateOf12_T hG r2 hh hW1 h39) ?_
    rintro x μ2 ⟨a1, a2, a3⟩
    rw [t_ret]
    exact ⟨a1, rp_fl hW1 a2⟩
