theorem rg_nat31 {v : Int32} {b : Nat} (h : rg v 0 b = true) (hb : b < 2 ^ 31) : ∃ j, j ≤ b ∧ v = nI j := by
  unfold rg at h
  have h := of_decide_eq_true h
  refine ⟨v.toInt.toNat, by omega, ?_⟩
  apply Int32.toInt_inj.mp
  rw [nI_toInt (by omega)]
  omega
theorem op_run (v z : Int32) : op2 Inv (fnX11_run 0 v z) (fnX12_run 146 v z) := by
  apply op_two
  intro w μ hC hO
  obtain ⟨hG, hR, hS, hW, hL, hT, hSl, hI, hF⟩ := id hC
  have n := hG.1
  unfold fnX11_run fnX12_run
  cases q0 : rg v 0 2000000000
  · refine ⟨-2, w, same_rf w, hG, ?_, ?_⟩
    · rw [t_bnd, t_eq (isSeed11 _ _), q0, t_brT (by decide), t_ret]
      exact ⟨rfl, cp_rf hS⟩
    · intro μ1 _ _ hW1
      rw [t_bnd, t_eq (isSeed12 _ _), q0, t_brT (by decide), t_ret]
      exact ⟨rfl, rp_rf hW1⟩
  obtain ⟨x, x2, rfl⟩ := rg_nat31 (b := 2000000000) q0 (by omega)
  cases hz : (decide (0 < w 0) && rg z 0 3)
  · refine ⟨-2, w, same_rf w, hG, ?_, ?_⟩
    · rw [t_bnd, t_eq (isSeed11 _ _), q0, t_brF (by decide), t_bnd, t_eq (isWay11 hR hG _), hz, t_brT (by decide), t_ret]
      exact ⟨rfl, cp_rf hS⟩
    · intro μ1 _ _ hW1
      rw [t_bnd, t_eq (isSeed12 _ _), q0, t_brF (by decide), t_bnd, t_eq (isWay12 hW1 hG _), hz, t_brT (by decide), t_ret]
      exact ⟨rfl, rp_rf hW1⟩
  obtain ⟨-, way, hw, rfl⟩ := way_nat hz
  refine ⟨nI (dyN w x way), w, same_rf w, hG, ?_, ?_⟩
  · rw [t_bnd, t_eq (isSeed11 _ _), q0, t_brF (by decide), t_bnd, t_eq (isWay11 hR hG _), hz, t_brF (by decide), t_bnd]
    refine t_mono (day11_T hG (by omega) hw hR hS hL) ?_
    rintro y μ1 ⟨a1, -, a3, a4⟩
    rw [t_ret]
    exact ⟨a1, cp_th hS a3 a4⟩
  · intro μ1 h1 h2 hW1
    rw [t_bnd, t_eq (isSeed12 _ _), q0, t_brF (by decide), t_bnd, t_eq (isWay12 hW1 hG _), hz, t_brF (by decide), t_bnd, nI_l (by omega)]
    refine t_mono (run12_T hG (by omega) hw hW1 (by rw [h1 146 (by omega)]; exact hF.1)) ?_
    rintro y μ2 ⟨a1, -, a3⟩
    rw [t_ret]
    exact ⟨a1, rp_fru a3⟩
def mnD (d : Nat → Nat) (b : Nat) : Nat → Nat
  | 0 => b
  | k + 1 => min (mnD d b k) (d k)
theorem mnD_le {d : Nat → Nat} {b k : Nat} (hd : ∀ i, d i ≤ 8) (h : 1 ≤ k) : mnD d b k ≤ 8 := by
  cases k with
  | zero => omega
  | succ k =>
    show min _ (d k) ≤ 8
    have := hd k
    omega
theorem mnD_eq {d : Nat → Nat} (hd : ∀ i, d i ≤ 8) : ∀ k, mnD d 8 k = min 8 (mnD d 1000000 k) := by
  intro k
  induction k with
  | zero => rfl
  | succ k ih =>
    show min (mnD d 8 k) (d k) = min 8 (min (mnD d 1000000 k) (d k))
    have := hd k
    rw [ih]
    omega
theorem mnD_b {d : Nat → Nat} {b : Nat} : ∀ k, mnD d b k ≤ b := by
  intro k
  induction k with
  | zero => exact Nat.le_refl _
  | succ k ih =>
    show min (mnD d b k) (d k) ≤ b
    omega
theorem dyN_le {w : Nat → Nat} (hG : Good w) {x way : Nat} : dyN w x way ≤ 8 := by
  have n := hG.1
  unfold dyN
  rw [pSum_ct]
  have := fb_ct_le (ppl w (day (drn w x (w 3)).2 way w (w 4)).2) (w 4)
  omega
/-- what is asked of the days -/
noncomputable def rnA (w : Nat → Nat) (x way nd k : Nat) (m : Nat) : Int32 := if k = 0 then nI (fb_sm (fun i => dyN w (x + i) way) nd) else if k = 1 then nI m else nI (fb_ct (fun i => decide (dyM w (x + i) way = 0)) nd)
theorem runs11_L {w : Nat → Nat} (hG : Good w) {x way nd k : Nat} (hx : x ≤ 2000000000) (hn : nd ≤ 60) (hw : way < 4) (hk : k ≤ 2) {μ0 : sm_Mem} (hR : RH 14 w μ0) (hS : SH 24 w μ0) (hL : LKS w μ0) : ∀ (f i : Nat) (μ : sm_Mem), nd - i < f → i ≤ nd → (∀ a, (a < 28 ∨ 32 ≤ a) → (a < 36 ∨ 41 ≤ a) → μ.1 a = μ0.1 a) → μ.2 = μ0.2 →
    T (fnX11_runs_L53 f 0 (nI x) (nI nd) (nI way) (nI k) (nI (fb_sm (fun i => dyN w (x + i) way) i)) (nI (mnD (fun i => dyN w (x + i) way) 8 i)) (nI (fb_ct (fun i => decide (dyM w (x + i) way = 0)) i)) (nI i)) μ (fun y μ' => y = rnA w x way nd k (mnD (fun i => dyN w (x + i) way) 8 nd) ∧ (∀ a, (a < 28 ∨ 32 ≤ a) → (a < 36 ∨ 41 ≤ a) → μ'.1 a = μ0.1 a) ∧ μ'.2 = μ0.2) := by
  intro f
  induction f with
  | zero =>
    intro i μ h
    omega
  | succ f ih =>
    intro i μ hf hi ho h2
    unfold fnX11_runs_L53
    by_cases c : nd ≤ i
    · have : i = nd := by omega
      subst this
      rw [t_brT (nI_le c (by omega))]
      unfold fnX11_runs_J105 rnA
      have cs : k = 0 ∨ k = 1 ∨ k = 2 := by omega
      rcases cs with rfl | rfl | rfl
      · rw [t_brT (show nI 0 = 0 from rfl), t_ret, if_pos rfl]
        exact ⟨rfl, ho, h2⟩
      · rw [t_brF (by decide), t_brT (show nI 1 = 1 from rfl), t_ret, if_neg (by decide), if_pos rfl]
        exact ⟨rfl, ho, h2⟩
      · rw [t_brF (by decide), t_brF (by decide), t_ret, if_neg (by decide), if_neg (by decide)]
        exact ⟨rfl, ho, h2⟩
    · have R1 : RH 14 w μ := rh_fr (fun a q1 q2 => ho a (by omega) (by omega)) hR
      have S1 : SH 24 w μ := sh_fr (fun a q1 q2 => ho a (by omega) (by omega)) hS
      have L1 : LKS w μ := lks_fr (fun a q1 q2 => ho a (by omega) (by omega)) hL
      have d8 := dyN_le hG (x := x + i) (way := way)
      have b8 := mnD_b (d := fun i => dyN w (x + i) way) (b := 8) i
      rw [t_brF (nI_ge (by omega) (by omega)), nI_add, t_bnd]
      refine t_mono (day11_T hG (x := x + i) (by omega) hw R1 S1 L1) ?_
      rintro y μ1 ⟨rfl, a2, a3, a4⟩
      obtain ⟨hs, hg, -⟩ := day_good (cr := (drn w (x + i) (w 3)).2) (way := way) (good_q hG) (w 4) (Nat.le_refl _)
      have w4 := hs.1 4 (by omega)
      have fr : ∀ a, (a < 28 ∨ 32 ≤ a) → (a < 36 ∨ 41 ≤ a) → μ1.1 a = μ0.1 a := fun a h1 h3 => (a3 a h1 h3).trans (ho a h1 h3)
      have R2 := same_rh hs hG (rh_fr (μ' := μ1) (fun a q1 q2 => fr a (by omega) (by omega)) hR)
      have em := missing9_eqQ sc_28 R2 a2 hg
      rw [w4] at em
      have em : fnX9_missing 28 μ1 = some (dyM w (x + i) way, μ1) := em
      rw [t_nm, nI_add, t_nm, jmin_nat (by omega) (by omega), lk_0_7, t_bnd, t_eq em]
      unfold fnX11_runs_J99
      rw [nI_1]
      by_cases c2 : dyM w (x + i) way = 0
      · rw [t_brT c2, nI_1]
        have := ih (i + 1) μ1 (by omega) (by omega) fr (a4.trans h2)
        rw [fb_sm_succ, fb_ct_succ, if_pos (decide_eq_true c2)] at this
        exact this
      · rw [t_brF c2, nI_1]
        have := ih (i + 1) μ1 (by omega) (by omega) fr (a4.trans h2)
        rw [fb_sm_succ, fb_ct_succ, if_neg (by rw [decide_eq_false c2]; decide)] at this
        exact this
theorem runs12_L {w : Nat → Nat} (hG : Good w) {x way nd k : Nat} (hx : x ≤ 2000000000) (hn : nd ≤ 60) (hw : way < 4) (hk : k ≤ 2) {μ0 : sm_Mem} (h21 : μ0.1 146 21 = nI 0) : ∀ (f i : Nat) (μ : sm_Mem), nd - i < f → i ≤ nd → FrRu w μ0 μ →
    T (fnX12_runs_L57 f 146 (nI x) (nI nd) (nI way) (nI k) (nI (fb_sm (fun i => dyN w (x + i) way) i)) (nI (mnD (fun i => dyN w (x + i) way) 1000000 i)) (nI (fb_ct (fun i => decide (dyM w (x + i) way = 0)) i)) (nI i)) μ (fun y μ' => y = rnA w x way nd k (mnD (fun i => dyN w (x + i) way) 1000000 nd) ∧ FrRu w μ0 μ') := by
  intro f
  induction f with
  | zero =>
    intro i μ h
    omega
  | succ f ih =>
    intro i μ hf hi ho
    unfold fnX12_runs_L57
    by_cases c : nd ≤ i
    · have : i = nd := by omega
      subst this
      rw [t_brT (nI_le c (by omega))]
      unfold fnX12_runs_J115 rnA
      have cs : k = 0 ∨ k = 1 ∨ k = 2 := by omega
      rcases cs with rfl | rfl | rfl
      · rw [t_brT (show nI 0 = 0 from rfl), t_ret, if_pos rfl]
        exact ⟨rfl, ho⟩
      · rw [t_brF (by decide), t_brT (show nI 1 = 1 from rfl), t_ret, if_neg (by decide), if_pos rfl]
        exact ⟨rfl, ho⟩
      · rw [t_brF (by decide), t_brF (by decide), t_ret, if_neg (by decide), if_neg (by decide)]
        exact ⟨rfl, ho⟩
    · have d8 := dyN_le hG (x := x + i) (way := way)
      have b8 := mnD_b (d := fun i => dyN w (x + i) way) (b := 1000000) i
      rw [t_brF (nI_ge (by omega) (by omega)), nI_l (by omega), nI_l (by omega), lN_add, t_bnd]
      refine t_mono (run12_T hG (x := x + i) (by omega) hw ho.1 (by rw [ho.2.1 21 (by omega)]; exact h21)) ?_
      rintro y μ1 ⟨rfl, a2, a3⟩
      rw [t_nm, nI_add, t_nm, jmin_nat (by omega) (by omega), t_gi, a2]
      unfold fnX12_runs_J106
      by_cases c2 : dyM w (x + i) way = 0
      · rw [t_brT c2, t_nm, nI_1, nI_1]
        have := ih (i + 1) μ1 (by omega) (by omega) (frRu_tr ho a3)
        rw [fb_sm_succ, fb_ct_succ, if_pos (decide_eq_true c2)] at this
        exact this
      · rw [t_brF c2, t_nm, li_0, nI_add, nI_1]
        have := ih (i + 1) μ1 (by omega) (by omega) (frRu_tr ho a3)
        rw [fb_sm_succ, fb_ct_succ, if_neg (by rw [decide_eq_false c2]; decide)] at this
        exact this
theorem op_runs (v u z y : Int32) : op2 Inv (fnX11_runs 0 v u z y) (fnX12_runs 146 v u z y) := by
  apply op_two
  intro w μ hC hO
  obtain ⟨hG, hR, hS, hW, hL, hT, hSl, hI, hF⟩ := id hC
  have n := hG.1
  unfold fnX11_runs fnX12_runs
  cases q0 : rg v 0 2000000000
  · refine ⟨-2, w, same_rf w, hG, ?_, ?_⟩
    · rw [t_bnd, t_eq (isSeed11 _ _), q0, t_brT (by decide), t_ret]
      exact ⟨rfl, cp_rf hS⟩
    · intro μ1 _ _ hW1
      rw [t_bnd, t_eq (isSeed12 _ _), q0, t_brT (by decide), t_ret]
      exact ⟨rfl, rp_rf hW1⟩
  obtain ⟨x, x2, rfl⟩ := rg_nat31 (b := 2000000000) q0 (by omega)
  cases q1 : rg u 1 60
  · refine ⟨-2, w, same_rf w, hG, ?_, ?_⟩
    · rw [t_bnd, t_eq (isSeed11 _ _), q0, t_brF (by decide)]
      have q1' := of_decide_eq_false (show decide _ = false from q1)
      by_cases c1 : u < 1
      · rw [t_brT c1, t_ret]
        exact ⟨rfl, cp_rf hS⟩
      · rw [t_brF c1, t_brT, t_ret]
        · exact ⟨rfl, cp_rf hS⟩
        · rw [fa_lt] at c1 ⊢
          have e1 : (1 : Int32).toInt = 1 := by decide
          have e2 : (60 : Int32).toInt = 60 := by decide
          omega
    · intro μ1 _ _ hW1
      rw [t_bnd, t_eq (isSeed12 _ _), q0, t_brF (by decide), t_bnd, t_eq (in_eq u _ _ _), show (1 : Int64).toInt = 1 from by decide, show (60 : Int64).toInt = 60 from by decide, q1, t_brT (by decide), t_ret]
      exact ⟨rfl, rp_rf hW1⟩
  obtain ⟨nd, n1, n2, rfl⟩ := rg_nat (a := 1) (b := 60) q1 (by omega)
  have c11 : ¬ nI nd < (1 : Int32) := nI_nlt (b := 1) (by omega) (by omega)
  have c12 : ¬ (60 : Int32) < nI nd := nI_nlt (a := 60) (by omega) (by omega)
  cases hz : (decide (0 < w 0) && rg z 0 3)
  · refine ⟨-2, w, same_rf w, hG, ?_, ?_⟩
    · rw [t_bnd, t_eq (isSeed11 _ _), q0, t_brF (by decide), t_brF c11, t_brF c12, t_bnd, t_eq (isWay11 hR hG _), hz, t_brT (by decide), t_ret]
      exact ⟨rfl, cp_rf hS⟩
    · intro μ1 _ _ hW1
      rw [t_bnd, t_eq (isSeed12 _ _), q0, t_brF (by decide), t_bnd, t_eq (in_eq _ _ _ _), show (1 : Int64).toInt = 1 from by decide, show (60 : Int64).toInt = 60 from by decide, q1, t_brF (by decide), t_bnd, t_eq (isWay12 hW1 hG _), hz, t_brT (by decide), t_ret]
      exact ⟨rfl, rp_rf hW1⟩
  obtain ⟨-, way, hw, rfl⟩ := way_nat hz
  cases q2 : rg y 0 2
  · refine ⟨-2, w, same_rf w, hG, ?_, ?_⟩
    · rw [t_bnd, t_eq (isSeed11 _ _), q0, t_brF (by decide), t_brF c11, t_brF c12, t_bnd, t_eq (isWay11 hR hG _), hz, t_brF (by decide)]
      rcases rg_no (b := 2) q2 (by omega) with q | ⟨a1, a2⟩
      · rw [t_brT q, t_ret]
        exact ⟨rfl, cp_rf hS⟩
      · rw [t_brF a1, t_brF (show ¬ y ≤ (2 : Int32) from a2), t_ret]
        exact ⟨rfl, cp_rf hS⟩
    · intro μ1 _ _ hW1
      rw [t_bnd, t_eq (isSeed12 _ _), q0, t_brF (by decide), t_bnd, t_eq (in_eq _ _ _ _), show (1 : Int64).toInt = 1 from by decide, show (60 : Int64).toInt = 60 from by decide, q1, t_brF (by decide), t_bnd, t_eq (isWay12 hW1 hG _), hz, t_brF (by decide), t_bnd, t_eq (in_eq y _ _ _), t64_0, show (2 : Int64).toInt = 2 from by decide, q2, t_brT (by decide), t_ret]
      exact ⟨rfl, rp_rf hW1⟩
  obtain ⟨k, -, hk, rfl⟩ := rg_nat (a := 0) (b := 2) q2 (by omega)
  have d8 : ∀ i, (fun i => dyN w (x + i) way) i ≤ 8 := fun i => dyN_le hG
  have em : mnD (fun i => dyN w (x + i) way) 1000000 nd = mnD (fun i => dyN w (x + i) way) 8 nd := by
    rw [mnD_eq d8]
    have := mnD_le (b := 1000000) d8 n1
    omega
  refine ⟨rnA w x way nd k (mnD (fun i => dyN w (x + i) way) 8 nd), w, same_rf w, hG, ?_, ?_⟩
  · rw [t_bnd, t_eq (isSeed11 _ _), q0, t_brF (by decide), t_brF c11, t_brF c12, t_bnd, t_eq (isWay11 hR hG _), hz, t_brF (by decide), t_brF (nI_pos (by omega)), t_brT (show nI k ≤ (2 : Int32) from nI_le (b := 2) hk (by omega))]
    refine t_mono (runs11_L hG x2 n2 hw hk hR hS hL 4096 0 μ (by omega) (by omega) (fun _ _ _ => rfl) rfl) ?_
    rintro r μ1 ⟨a1, a2, a3⟩
    exact ⟨a1, cp_th hS a2 a3⟩
  · intro μ1 h1 h2 hW1
    rw [t_bnd, t_eq (isSeed12 _ _), q0, t_brF (by decide), t_bnd, t_eq (in_eq _ _ _ _), show (1 : Int64).toInt = 1 from by decide, show (60 : Int64).toInt = 60 from by decide, q1, t_brF (by decide), t_bnd, t_eq (isWay12 hW1 hG _), hz, t_brF (by decide), t_bnd, t_eq (in_eq _ _ _ _), t64_0, show (2 : Int64).toInt = 2 from by decide, q2, t_brF (by decide)]
    refine t_mono (runs12_L hG x2 n2 hw hk (by rw [h1 146 (by omega)]; exact hF.1) 4096 0 μ1 (by omega) (by omega) (frRu_rf hW1)) ?_
    rintro r μ2 ⟨a1, a2⟩
    rw [em] at a1
    exact ⟨a1, rp_fru a2⟩
