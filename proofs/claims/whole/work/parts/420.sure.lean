/-! ===== SURE, TREAD, FIRST ===== -/
def FrSu (μ0 μ : sm_Mem) : Prop := (∀ a, (a < 28 ∨ 32 ≤ a) → a ≠ 74 → a ≠ 75 → μ.1 a = μ0.1 a) ∧ μ.2 = μ0.2
theorem frSu_rf (μ : sm_Mem) : FrSu μ μ := ⟨fun _ _ _ _ => rfl, rfl⟩
theorem frSu_tr {μ μ1 μ2 : sm_Mem} (h : FrSu μ μ1) (h' : FrSu μ1 μ2) : FrSu μ μ2 := ⟨fun a q1 q2 q3 => (h'.1 a q1 q2 q3).trans (h.1 a q1 q2 q3), h'.2.trans h.2⟩
theorem cp_fsu {w : Nat → Nat} {μ μ1 : sm_Mem} (hS : SH 24 w μ) (h : FrSu μ μ1) : CP w w μ μ1 := ⟨sh_fr (fun a _ _ => h.1 a (by omega) (by omega) (by omega)) hS, fun a _ => h.1 a (by omega) (by omega) (by omega), by rw [h.2], Or.inr ⟨rfl, h.1 42 (by omega) (by omega) (by omega), h.1 45 (by omega) (by omega) (by omega)⟩⟩
theorem frSu_core {w : Nat → Nat} {μ μ1 : sm_Mem} (h : FrSu μ μ1) (hR : RH 14 w μ) (hS : SH 24 w μ) (hL : LKS w μ) : RH 14 w μ1 ∧ SH 24 w μ1 ∧ LKS w μ1 := ⟨rh_fr (fun a _ _ => h.1 a (by omega) (by omega) (by omega)) hR, sh_fr (fun a _ _ => h.1 a (by omega) (by omega) (by omega)) hS, lks_fr (fun a _ _ => h.1 a (by omega) (by omega) (by omega)) hL⟩
def FrTr (w : Nat → Nat) (μ0 μ : sm_Mem) : Prop := WH 147 w μ ∧ (∀ a, a ≠ 147 → μ.1 a = μ0.1 a) ∧ ∀ a, a ≠ 167 → μ.2.1 a = μ0.2.1 a
theorem frTr_rf {w : Nat → Nat} {μ : sm_Mem} (hW : WH 147 w μ) : FrTr w μ μ := ⟨hW, fun _ _ => rfl, fun _ _ => rfl⟩
theorem frTr_tr {w : Nat → Nat} {μ μ1 μ2 : sm_Mem} (h : FrTr w μ μ1) (h' : FrTr w μ1 μ2) : FrTr w μ μ2 := ⟨h'.1, fun a q => (h'.2.1 a q).trans (h.2.1 a q), fun a q => (h'.2.2 a q).trans (h.2.2 a q)⟩
theorem rp_ftr {w : Nat → Nat} {μ μ1 : sm_Mem} (h : FrTr w μ μ1) : RP w μ μ1 := ⟨h.1, fun a _ => h.2.1 a (by omega), fun k _ => by rw [h.2.1 146 (by omega)], fun a _ => h.2.2 a (by omega)⟩
theorem good_up15 {w : Nat → Nat} (hG : Good w) {j v : Nat} (hj : j < w 3) (hv : v ≤ 2) : Same w (up w (15 + 7 * j) v) ∧ Good (up w (15 + 7 * j) v) := by
  have n := hG.1
  have hs : Same w (up w (15 + 7 * j) v) := same_up (Or.inr (Or.inl ⟨j, by omega, rfl⟩))
  refine ⟨hs, ?_⟩
  refine same_good hs hG (by rw [up_ne (by omega)]; omega) ?_ ?_ ?_
  · intro s hs
    have g := hG.2.2.2.1 s hs
    rw [up_ne (i := 15 + 7 * j) (k := 16 + 7 * s) (by omega)]
    by_cases e : s = j
    · subst e
      rw [up_at]
      omega
    · rw [up_ne (by omega)]
      omega
  · intro s h1 h2
    rw [up_ne (by omega)]
    exact hG.2.2.2.2.1 s h1 h2
  · intro p hp
    rw [up_ne (by omega)]
    exact hG.2.2.2.2.2.2.2.2.2 p hp
noncomputable def trX (w : Nat → Nat) (s r wt : Nat) : Int64 := if dbt w s = true then ((((nI (dN w s)).toInt64 * lN (sureW (up w (15 + 7 * s) 2) r wt)) + ((((100 : Int32) - nI (dN w s)).toInt64) * lN (sureW (up w (15 + 7 * s) 1) r wt))) / (100 : Int64)) - lN (sureW w r wt) else 0
theorem op_sure (v u : Int32) : op2 Inv (fnX11_sure 0 v u) (fnX12_sure 146 v u) := by
  apply op_two
  intro w μ hC hO
  obtain ⟨hG, hR, hS, hW, hL, hT, hSl, hI', hF⟩ := id hC
  unfold fnX11_sure fnX12_sure
  cases q1 : (decide (0 < w 0) && rg v 1 9)
  · refine ⟨-2, w, same_rf w, hG, ?_, ?_⟩
    · rw [t_bnd, t_eq (isStride11 hR hG _), q1, t_brT (by decide), t_ret]
      exact ⟨rfl, cp_rf hS⟩
    · intro μ1 _ _ hW1
      rw [t_bnd, t_eq (isLoad12 hW1 hG _ _), ← Bool.and_assoc, q1, Bool.false_and, t_brT (by decide), t_ret]
      exact ⟨rfl, rp_rf hW1⟩
  cases q2 : rg u 1 6
  · refine ⟨-2, w, same_rf w, hG, ?_, ?_⟩
    · rw [t_bnd, t_eq (isStride11 hR hG _), q1, t_brF (by decide), t_bnd, t_eq (isWeight11 _ _), q2, t_brT (by decide), t_ret]
      exact ⟨rfl, cp_rf hS⟩
    · intro μ1 _ _ hW1
      rw [t_bnd, t_eq (isLoad12 hW1 hG _ _), ← Bool.and_assoc, q1, Bool.true_and, q2, t_brT (by decide), t_ret]
      exact ⟨rfl, rp_rf hW1⟩
  have q1' := q1
  simp only [Bool.and_eq_true] at q1'
  obtain ⟨r, r1, r2, rfl⟩ := rg_nat (a := 1) (b := 9) q1'.2 (by omega)
  obtain ⟨wt, w1, w2, rfl⟩ := rg_nat (a := 1) (b := 6) q2 (by omega)
  refine ⟨lN (sureW w r wt), w, same_rf w, hG, ?_, ?_⟩
  · rw [t_bnd, t_eq (isStride11 hR hG _), q1, t_brF (by decide), t_bnd, t_eq (isWeight11 _ _), q2, t_brF (by decide), lk_0_12, lk_0_6, t_bnd]
    refine t_mono (chance11_T sc_24 hG r1 r2 (by omega) hR hS hL) ?_
    rintro x μ1 ⟨a1, a2, a3, a4⟩
    rw [t_ret]
    exact ⟨a1, cp_fsu hS ⟨fun a _ q2 q3 => a3 a q2 q3, a4⟩⟩
  · intro μ1 h1 h2 hW1
    rw [t_bnd, t_eq (isLoad12 hW1 hG _ _), ← Bool.and_assoc, q1, Bool.true_and, q2, t_brF (by decide), t_bnd]
    refine t_mono (sureOf12_T hG r2 (by omega) hW1) ?_
    rintro x μ2 ⟨a1, a2⟩
    rw [t_ret]
    exact ⟨a1, rp_ftr ⟨wh_L a2.1 hW1, fun a _ => by rw [a2.1], a2.2.2⟩⟩
theorem tread11_T {w : Nat → Nat} (hG : Good w) {s r wt : Nat} (hs : s < w 3) (hd : dbt w s = true) (h1 : 1 ≤ r) (h9 : r ≤ 9) (hw : wt < 100) {μ : sm_Mem} (hR : RH 14 w μ) (hS : SH 24 w μ) (hL : LKS w μ) : T (fnX11_treadOf 0 (nI s) (nI r) (nI wt)) μ (fun x μ' => x = trX w s r wt ∧ FrSu μ μ') := by
  have n := hG.1
  have e_30 : ln 30 = 24 := rfl
  have e_19 : ln 19 = 24 := rfl
  obtain ⟨s2, g2⟩ := good_up15 hG hs (show 2 ≤ 2 by omega)
  obtain ⟨s1, g1⟩ := good_up15 hG hs (show 1 ≤ 2 by omega)
  unfold fnX11_treadOf
  rw [lk_0_7, lk_0_6, lk_0_12, lk_0_5, lk_28_3, lk_14_12, t_bnd]
  refine t_mono (takeFrom9 (scK_of sc_28) (scK_of sc_24) (by omega) hG hS) ?_
  rintro _ μ1 ⟨a1, a2, a3⟩
  rw [t_sai (by omega), t_bnd]
  have S2 : SH 28 (up w (15 + 7 * s) 2) (u2 μ1.1 30 s (nI (kc 2)), μ1.2) := sh_up15 (by omega) a1
  have f1 : FrSu μ (u2 μ1.1 30 s (nI (kc 2)), μ1.2) := ⟨fun a q1 q2 q3 => by
    rw [← a2 a (by omega)]
    simp (disch := omega) only [u2_ne, u2_a, u2_k, u2_at], a3⟩
  obtain ⟨R1, T1, L1⟩ := frSu_core f1 hR hS hL
  refine t_mono (chance11_T sc_28 g2 h1 h9 hw (same_rh s2 hG R1) S2 (same_lks s2 hG L1)) ?_
  rintro x2 μ2 ⟨b1, -, b3, b4⟩
  have f2 : FrSu μ μ2 := frSu_tr f1 ⟨fun a _ q2 q3 => b3 a q2 q3, b4⟩
  rw [t_sai (by omega), t_bnd]
  have S1 : SH 28 (up (up w (15 + 7 * s) 2) (15 + 7 * s) 1) (u2 μ2.1 30 s (nI (kc 1)), μ2.2) := sh_up15 (by omega) (sh_fr (fun a q1 q2 => b3 a (by omega) (by omega)) S2)
  have eu : up (up w (15 + 7 * s) 2) (15 + 7 * s) 1 = up w (15 + 7 * s) 1 := by
    funext k
    by_cases c : k = 15 + 7 * s
    · rw [c, up_at, up_at]
    · rw [up_ne c, up_ne c, up_ne c]
  rw [eu] at S1
  have f3 : FrSu μ (u2 μ2.1 30 s (nI (kc 1)), μ2.2) := ⟨fun a q1 q2 q3 => by
    rw [← f2.1 a q1 q2 q3]
    simp (disch := omega) only [u2_ne, u2_a, u2_k, u2_at], f2.2⟩
  obtain ⟨R3, T3, L3⟩ := frSu_core f3 hR hS hL
  refine t_mono (chance11_T sc_28 g1 h1 h9 hw (same_rh s1 hG R3) S1 (same_lks s1 hG L3)) ?_
  rintro x3 μ3 ⟨c1, -, c3, c4⟩
  have f4 : FrSu μ μ3 := frSu_tr f3 ⟨fun a _ q2 q3 => c3 a q2 q3, c4⟩
  obtain ⟨R4, T4, L4⟩ := frSu_core f4 hR hS hL
  have x19 : μ3.1 19 s = nI (dN w s) := (R4.2.2.2.1 s hs).2.2.2.2
  rw [t_ai (by omega), x19, t_gd (by decide), t_bnd]
  refine t_mono (chance11_T sc_24 hG h1 h9 hw R4 T4 L4) ?_
  rintro x4 μ4 ⟨d1, -, d3, d4⟩
  rw [t_ret]
  refine ⟨?_, frSu_tr f4 ⟨fun a _ q2 q3 => d3 a q2 q3, d4⟩⟩
  unfold trX
  rw [if_pos hd, b1, c1, d1]
theorem tread12_T {w : Nat → Nat} (hG : Good w) {s r wt : Nat} (hs : s < w 3) (h9 : r ≤ 9) (hw : wt < 100) {μ : sm_Mem} (hW : WH 147 w μ) : T (fnX12_treadOf 146 (nI s) (nI r) (nI wt)) μ (fun x μ' => x = trX w s r wt ∧ FrTr w μ μ') := by
  have n := hG.1
  obtain ⟨s2, g2⟩ := good_up15 hG hs (show 2 ≤ 2 by omega)
  obtain ⟨s1, g1⟩ := good_up15 hG hs (show 1 ≤ 2 by omega)
  have e5 : 10 + 7 * s + 5 = 15 + 7 * s := by omega
  have e4 : 10 + 7 * s + 4 = 14 + 7 * s := by omega
  have ee : ∀ v, nI v = eI (15 + 7 * s) v := by
    intro v
    unfold eI
    rw [if_neg (by omega)]
  unfold fnX12_treadOf
  rw [t_bnd, t_eq (isInDoubt12 hW hG hs)]
  cases hd : dbt w s
  · rw [t_brT (by decide), t_ret]
    refine ⟨?_, frTr_rf hW⟩
    unfold trX
    rw [hd, if_neg (by decide)]
  · have hd' := hd
    unfold dbt at hd'
    have z15 := (of_decide_eq_true hd').2
    rw [t_brF (by decide), t_bnd]
    refine t_mono (sureOf12_T hG h9 hw hW) ?_
    rintro x1 μ1 ⟨a1, a2, a3, a4⟩
    have W1 : WH 147 w μ1 := wh_L a2 hW
    rw [t_bnd, li_5, setStone_T (by omega) (by omega), e5, t_bnd]
    have W2 : WH 147 (up w (15 + 7 * s) 2) (u2 μ1.1 147 (15 + 7 * s) (nI 2), μ1.2) := wh_up W1 (ee 2)
    refine t_mono (sureOf12_T g2 h9 hw W2) ?_
    rintro x2 μ2 ⟨b1, b2, b3, b4⟩
    rw [t_bnd, setStone_T (by omega) (by omega), e5, t_bnd]
    have W3 : WH 147 (up (up w (15 + 7 * s) 2) (15 + 7 * s) 1) (u2 μ2.1 147 (15 + 7 * s) (nI 1), μ2.2) := wh_up (wh_L b2 W2) (ee 1)
    have eu : up (up w (15 + 7 * s) 2) (15 + 7 * s) 1 = up w (15 + 7 * s) 1 := by
      funext k
      by_cases c : k = 15 + 7 * s
      · rw [c, up_at, up_at]
      · rw [up_ne c, up_ne c, up_ne c]
    rw [eu] at W3
    refine t_mono (sureOf12_T g1 h9 hw W3) ?_
    rintro x3 μ3 ⟨c1, c2, c3, c4⟩
    rw [t_bnd, setStone_T (by omega) (by omega), e5, t_bnd]
    have W4 : WH 147 (up (up w (15 + 7 * s) 1) (15 + 7 * s) 0) (u2 μ3.1 147 (15 + 7 * s) (nI 0), μ3.2) := wh_up (wh_L c2 W3) (ee 0)
    have ev : up (up w (15 + 7 * s) 1) (15 + 7 * s) 0 = w := by
      funext k
      by_cases c : k = 15 + 7 * s
      · rw [c, up_at, z15]
      · rw [up_ne c, up_ne c]
    rw [ev] at W4
    rw [li_4, t_eq (μ := (u2 μ3.1 147 (15 + 7 * s) 0, μ3.2)) (ofStone_eq (s := s) (k := 4) W4 (by omega) (by omega)), e4, t_gd (by decide), t_ret]
    refine ⟨?_, W4, ?_, ?_⟩
    · unfold trX dN
      rw [if_pos hd, a1, b1, c1]
    · intro a ha
      show u2 μ3.1 147 (15 + 7 * s) (nI 0) a = _
      rw [u2_ne ha, c2]
      show u2 μ2.1 147 (15 + 7 * s) (nI 1) a = _
      rw [u2_ne ha, b2]
      show u2 μ1.1 147 (15 + 7 * s) (nI 2) a = _
      rw [u2_ne ha, a2]
    · intro a ha
      show μ3.2.1 a = _
      rw [c4 a ha]
      show μ2.2.1 a = _
      rw [b4 a ha]
      exact a4 a ha
theorem op_tread (k v u : Int32) : op2 Inv (fnX11_tread 0 k v u) (fnX12_tread 146 k v u) := by
  apply op_two
  intro w μ hC hO
  obtain ⟨hG, hR, hS, hW, hL, hT, hSl, hI', hF⟩ := id hC
  have n := hG.1
  unfold fnX11_tread fnX12_tread
  cases q0 : rg k 0 ((w 3 : Int) - 1)
  · refine ⟨-2, w, same_rf w, hG, ?_, ?_⟩
    · rw [t_bnd, t_eq (isStone11 hR hG _), q0, t_brT (by decide), t_ret]
      exact ⟨rfl, cp_rf hS⟩
    · intro μ1 _ _ hW1
      rw [t_bnd, t_eq (isStone12 hW1 hG _), q0, t_brT (by decide), t_ret]
      exact ⟨rfl, rp_rf hW1⟩
  cases q1 : (decide (0 < w 0) && rg v 1 9)
  · refine ⟨-2, w, same_rf w, hG, ?_, ?_⟩
    · rw [t_bnd, t_eq (isStone11 hR hG _), q0, t_brF (by decide), t_bnd, t_eq (isStride11 hR hG _), q1, t_brT (by decide), t_ret]
      exact ⟨rfl, cp_rf hS⟩
    · intro μ1 _ _ hW1
      rw [t_bnd, t_eq (isStone12 hW1 hG _), q0, t_brF (by decide), t_bnd, t_eq (isLoad12 hW1 hG _ _), ← Bool.and_assoc, q1, Bool.false_and, t_brT (by decide), t_ret]
      exact ⟨rfl, rp_rf hW1⟩
  cases q2 : rg u 1 6
  · refine ⟨-2, w, same_rf w, hG, ?_, ?_⟩
    · rw [t_bnd, t_eq (isStone11 hR hG _), q0, t_brF (by decide), t_bnd, t_eq (isStride11 hR hG _), q1, t_brF (by decide), t_bnd, t_eq (isWeight11 _ _), q2, t_brT (by decide), t_ret]
      exact ⟨rfl, cp_rf hS⟩
    · intro μ1 _ _ hW1
      rw [t_bnd, t_eq (isStone12 hW1 hG _), q0, t_brF (by decide), t_bnd, t_eq (isLoad12 hW1 hG _ _), ← Bool.and_assoc, q1, Bool.true_and, q2, t_brT (by decide), t_ret]
      exact ⟨rfl, rp_rf hW1⟩
  have q1' := q1
  simp only [Bool.and_eq_true] at q1'
  obtain ⟨s, hs, rfl⟩ := rg_nI q0 (by omega)
  obtain ⟨r, r1, r2, rfl⟩ := rg_nat (a := 1) (b := 9) q1'.2 (by omega)
  obtain ⟨wt, w1, w2, rfl⟩ := rg_nat (a := 1) (b := 6) q2 (by omega)
  refine ⟨trX w s r wt, w, same_rf w, hG, ?_, ?_⟩
  · rw [t_bnd, t_eq (isStone11 hR hG _), q0, t_brF (by decide), t_bnd, t_eq (isStride11 hR hG _), q1, t_brF (by decide), t_bnd, t_eq (isWeight11 _ _), q2, t_brF (by decide), lk_0_6, t_bnd, t_eq (inDoubt_eq hR hS sc_24 hG hs)]
    cases hd : dbt w s
    · rw [t_brT (by decide), t_ret]
      refine ⟨?_, cp_rf hS⟩
      unfold trX
      rw [hd, if_neg (by decide)]
    · rw [t_brF (by decide), t_bnd]
      refine t_mono (tread11_T hG hs hd r1 r2 (by omega) hR hS hL) ?_
      rintro x μ1 ⟨a1, a2⟩
      rw [t_ret]
      exact ⟨a1, cp_fsu hS a2⟩
  · intro μ1 h1 h2 hW1
    rw [t_bnd, t_eq (isStone12 hW1 hG _), q0, t_brF (by decide), t_bnd, t_eq (isLoad12 hW1 hG _ _), ← Bool.and_assoc, q1, Bool.true_and, q2, t_brF (by decide), t_bnd]
    refine t_mono (tread12_T hG hs r2 (by omega) hW1) ?_
    rintro x μ2 ⟨a1, a2⟩
    rw [t_ret]
    exact ⟨a1, rp_ftr a2⟩
noncomputable def frW (w : Nat → Nat) (r wt : Nat) : Nat → Nat → Int32 → Int64 → Int32
  | 0, _, b, _ => b
  | f + 1, s, b, v => if 0 < lg_cmp (trX w s r wt) v then frW w r wt f (s + 1) (nI s) (trX w s r wt) else frW w r wt f (s + 1) b v
theorem le_ngt {a b : Int32} : a ≤ b ↔ ¬ b < a := by
  rw [Int32.lt_iff_toInt_lt, Int32.le_iff_toInt_le]
  omega
theorem first11_L {w : Nat → Nat} (hG : Good w) {r wt : Nat} (h1 : 1 ≤ r) (h9 : r ≤ 9) (hw : wt < 100) {μ0 : sm_Mem} (hR : RH 14 w μ0) (hS : SH 24 w μ0) (hL : LKS w μ0) : ∀ (f s : Nat) (b : Int32) (v : Int64) (μ : sm_Mem), w 3 - s < f → s ≤ w 3 → FrSu μ0 μ → T (fnX11_first_L26 f 0 (nI r) (nI wt) b v (nI s)) μ (fun x μ' => x = frW w r wt (w 3 - s) s b v ∧ FrSu μ0 μ') := by
  have n := hG.1
  intro f
  induction f with
  | zero =>
    intro s b v μ h
    omega
  | succ f ih =>
    intro s b v μ hf hs hr
    obtain ⟨R1, S1, L1⟩ := frSu_core hr hR hS hL
    unfold fnX11_first_L26
    rw [lk_0_5, lk_0_6, t_gi, R1.1.2.2.2.2.1]
    by_cases c : w 3 ≤ s
    · rw [t_brT (nI_le c (by omega)), t_ret, show w 3 - s = 0 by omega]
      exact ⟨rfl, hr⟩
    · have hs' : s < w 3 := by omega
      have nx : ∀ μ', FrSu μ0 μ' → T (fnX11_first_J62 (fnX11_first_L26 f) 0 (nI r) (nI wt) b v (nI s) (trX w s r wt)) μ' (fun x μ' => x = frW w r wt (w 3 - s) s b v ∧ FrSu μ0 μ') := by
        intro μ' hr'
        unfold fnX11_first_J62 fnX11_first_J79
        rw [nI_1, show w 3 - s = (w 3 - (s + 1)) + 1 by omega, frW]
        by_cases c2 : 0 < lg_cmp (trX w s r wt) v
        · rw [t_brF (fun z => le_ngt.mp z c2), if_pos c2]
          exact ih (s + 1) _ _ μ' (by omega) (by omega) hr'
        · rw [t_brT (le_ngt.mpr c2), if_neg c2]
          exact ih (s + 1) _ _ μ' (by omega) (by omega) hr'
      rw [t_brF (nI_ge (by omega) (by omega)), t_bnd, t_eq (inDoubt_eq R1 S1 sc_24 hG hs')]
      cases hd : dbt w s
      · have e0 : (0 : Int64) = trX w s r wt := by
          unfold trX
          rw [hd, if_neg (by decide)]
        rw [t_brT (by decide), e0]
        exact nx μ hr
      · rw [t_brF (by decide), t_bnd]
        refine t_mono (tread11_T hG hs' hd h1 h9 hw R1 S1 L1) ?_
        rintro x μ1 ⟨a1, a2⟩
        rw [a1]
        exact nx μ1 (frSu_tr hr a2)
theorem first12_L {w : Nat → Nat} (hG : Good w) {r wt : Nat} (h9 : r ≤ 9) (hw : wt < 100) {μ0 : sm_Mem} : ∀ (f s : Nat) (b : Int32) (v : Int64) (μ : sm_Mem), w 3 - s < f → s ≤ w 3 → FrTr w μ0 μ → T (fnX12_first_L20 f 146 (nI r) (nI wt) b v (nI s)) μ (fun x μ' => x = frW w r wt (w 3 - s) s b v ∧ FrTr w μ0 μ') := by
  have n := hG.1
  have e_147 : ln 147 = 241 := rfl
  intro f
  induction f with
  | zero =>
    intro s b v μ h
    omega
  | succ f ih =>
    intro s b v μ hf hs hr
    have w3 := wh_lo hr.1 (i := 3) (by omega)
    unfold fnX12_first_L20 fnX12_first_J59
    rw [lk_146_1, li_3, t_ai (by omega), w3, nI_1]
    by_cases c : w 3 ≤ s
    · rw [t_brT (nI_le c (by omega)), t_ret, show w 3 - s = 0 by omega]
      exact ⟨rfl, hr⟩
    · have hs' : s < w 3 := by omega
      rw [t_brF (nI_ge (by omega) (by omega)), t_bnd]
      refine t_mono (tread12_T hG hs' h9 hw hr.1) ?_
      rintro x μ1 ⟨a1, a2⟩
      rw [a1, show w 3 - s = (w 3 - (s + 1)) + 1 by omega, frW]
      by_cases c2 : 0 < lg_cmp (trX w s r wt) v
      · rw [t_brT c2, if_pos c2]
        exact ih (s + 1) _ _ μ1 (by omega) (by omega) (frTr_tr hr a2)
      · rw [t_brF c2, if_neg c2]
        exact ih (s + 1) _ _ μ1 (by omega) (by omega) (frTr_tr hr a2)
theorem op_first (v u : Int32) : op2 Inv (fnX11_first 0 v u) (fnX12_first 146 v u) := by
  apply op_two
  intro w μ hC hO
  obtain ⟨hG, hR, hS, hW, hL, hT, hSl, hI', hF⟩ := id hC
  have n := hG.1
  unfold fnX11_first fnX12_first
  cases q1 : (decide (0 < w 0) && rg v 1 9)
  · refine ⟨-2, w, same_rf w, hG, ?_, ?_⟩
    · rw [t_bnd, t_eq (isStride11 hR hG _), q1, t_brT (by decide), t_ret]
      exact ⟨rfl, cp_rf hS⟩
    · intro μ1 _ _ hW1
      rw [t_bnd, t_eq (isLoad12 hW1 hG _ _), ← Bool.and_assoc, q1, Bool.false_and, t_brT (by decide), t_ret]
      exact ⟨rfl, rp_rf hW1⟩
  cases q2 : rg u 1 6
  · refine ⟨-2, w, same_rf w, hG, ?_, ?_⟩
    · rw [t_bnd, t_eq (isStride11 hR hG _), q1, t_brF (by decide), t_bnd, t_eq (isWeight11 _ _), q2, t_brT (by decide), t_ret]
      exact ⟨rfl, cp_rf hS⟩
    · intro μ1 _ _ hW1
      rw [t_bnd, t_eq (isLoad12 hW1 hG _ _), ← Bool.and_assoc, q1, Bool.true_and, q2, t_brT (by decide), t_ret]
      exact ⟨rfl, rp_rf hW1⟩
  have q1' := q1
  simp only [Bool.and_eq_true] at q1'
  obtain ⟨r, r1, r2, rfl⟩ := rg_nat (a := 1) (b := 9) q1'.2 (by omega)
  obtain ⟨wt, w1, w2, rfl⟩ := rg_nat (a := 1) (b := 6) q2 (by omega)
  refine ⟨frW w r wt (w 3) 0 (-1) 0, w, same_rf w, hG, ?_, ?_⟩
  · rw [t_bnd, t_eq (isStride11 hR hG _), q1, t_brF (by decide), t_bnd, t_eq (isWeight11 _ _), q2, t_brF (by decide), li_0]
    refine t_mono (first11_L hG r1 r2 (by omega) hR hS hL 4096 0 _ _ μ (by omega) (by omega) (frSu_rf μ)) ?_
    rintro x μ1 ⟨a1, a2⟩
    exact ⟨a1, cp_fsu hS a2⟩
  · intro μ1 h1 h2 hW1
    rw [t_bnd, t_eq (isLoad12 hW1 hG _ _), ← Bool.and_assoc, q1, Bool.true_and, q2, t_brF (by decide), li_0]
    refine t_mono (first12_L hG r2 (by omega) 4096 0 _ _ μ1 (by omega) (by omega) (frTr_rf hW1)) ?_
    rintro x μ2 ⟨a1, a2⟩
    exact ⟨a1, rp_ftr a2⟩
