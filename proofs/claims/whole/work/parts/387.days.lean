/-! ===== DAYS, BEST, ALIKE ===== -/
theorem mk_z {p : Nat → Bool} {n : Nat} (hn : n ≤ 24) : mk p n = 0 ↔ fb_ct p n = 0 := by
  rw [k_z, fb_ct_zero]
  constructor
  · intro h k hk
    have := h k (by omega)
    rw [bt_mk _ _ (by omega) k (by omega), decide_eq_true hk, Bool.true_and] at this
    exact this
  · intro h i hi
    rw [bt_mk _ _ (by omega) i hi]
    by_cases c : i < n
    · rw [decide_eq_true c, h i c]
      rfl
    · rw [decide_eq_false c, Bool.false_and]
/-- behind thinking: the waking -/
theorem wake_RP {w : Nat → Nat} {μ1 μ2 μ : sm_Mem} (hd : μ1.1 146 21 = nI 0) (hW : WH 147 w μ1) (b1 : ∀ i, i < 241 → μ2.1 157 i = μ1.1 147 i) (b2 : μ2.1 146 21 = nI 1) (b3 : ∀ k, k ≠ 21 → μ2.1 146 k = μ1.1 146 k) (b4 : ∀ a, a ≠ 157 → a ≠ 146 → μ2.1 a = μ1.1 a) (b5 : μ2.2 = μ1.2)
    (q8 : ∀ k, k ≠ 19 → (k < 22 ∨ 26 ≤ k) → μ.1 146 k = μ2.1 146 k) (q9 : ∀ a, a ≠ 146 → a ≠ 147 → (a < 153 ∨ 157 ≤ a) → μ.1 a = μ2.1 a) (q10 : μ.2 = μ2.2) :
    T (fnX12_wakes 146) μ (fun _ μ' => RP w μ1 μ' ∧ (∀ a, a ≠ 146 → a ≠ 147 → (a < 153 ∨ 158 ≤ a) → μ'.1 a = μ1.1 a) ∧ (∀ k, k ≠ 19 → (k < 22 ∨ 26 ≤ k) → μ'.1 146 k = μ1.1 146 k) ∧ (∀ k, k ≠ 21 → μ'.1 146 k = μ.1 146 k) ∧ μ'.2 = μ1.2) := by
  refine t_mono (wakes_T (by rw [q8 21 (by omega) (by omega)]; exact b2)) ?_
  rintro - μ5 ⟨e1, e2, e3, e4, e5⟩
  have ka : ∀ a, a ≠ 146 → a ≠ 147 → (a < 153 ∨ 158 ≤ a) → μ5.1 a = μ1.1 a := by
    intro a h1 h2 h3
    rw [e4 a h2 h1, q9 a h1 h2 (by omega), b4 a (by omega) h1]
  have kk : ∀ k, k ≠ 19 → (k < 22 ∨ 26 ≤ k) → μ5.1 146 k = μ1.1 146 k := by
    intro k h1 h2
    by_cases q : k = 21
    · subst q
      rw [e2, hd]
    · rw [e3 k q, q8 k h1 h2, b3 k q]
  refine ⟨⟨?_, fun a ha => ka a (by omega) (by omega) (by omega), fun k hk => kk k (by omega) (by omega), fun a _ => by rw [e5, q10, b5]⟩, ka, kk, e3, by rw [e5, q10, b5]⟩
  intro i hi
  rw [e1 i hi, q9 157 (by omega) (by omega) (by omega), b1 i hi]
  exact hW i hi
theorem somebody_L {w : Nat → Nat} {μ : sm_Mem} (hW : WH 147 w μ) (hG : Good w) : ∀ f p, w 4 - p < f → p ≤ w 4 → ∃ b, fnX12_isSomebodyHere_L2 f 146 (nI p) μ = some (b, μ) ∧ (b = true ↔ ∃ q, p ≤ q ∧ q < w 4 ∧ w (191 + 7 * q) = 98) := by
  have n := hG.1
  have w4 := wh_lo hW (i := 4) (by omega)
  have e_147 : ln 147 = 241 := rfl
  intro f
  induction f with
  | zero =>
    intro p h
    omega
  | succ f ih =>
    intro p hf hp
    unfold fnX12_isSomebodyHere_L2
    rw [li_4, lk_146_1, e_ai (by omega), w4]
    simp only [m_br]
    by_cases c1 : w 4 ≤ p
    · rw [if_pos (nI_le c1 (by omega))]
      refine ⟨false, rfl, ?_⟩
      constructor
      · intro h
        cases h
      · rintro ⟨q, h1, h2, -⟩
        omega
    · have q6 := of_eq hW (p := p) (k := 6) (by omega) (by omega) (by omega)
      rw [show 185 + 7 * p + 6 = 191 + 7 * p by omega] at q6
      have gl := hG.2.2.2.2.2.2.2.2.2 p (by omega)
      rw [if_neg (nI_ge (by omega) (by omega)), li_6]
      simp only [m_bnd, q6, m_br]
      by_cases c2 : w (191 + 7 * p) = 98
      · rw [if_pos (by rw [c2]; rfl)]
        exact ⟨true, rfl, fun _ => ⟨p, Nat.le_refl _, by omega, c2⟩, fun _ => rfl⟩
      · rw [if_neg (show ¬ nI (w (191 + 7 * p)) = (98 : Int32) from fun z => c2 ((nI_eq (b := 98) (by omega) (by omega)).mp z)), nI_1]
        obtain ⟨b, h1, h2⟩ := ih (p + 1) (by omega) (by omega)
        refine ⟨b, h1, h2.trans ?_⟩
        constructor
        · rintro ⟨q, x, y, z⟩
          exact ⟨q, by omega, y, z⟩
        · rintro ⟨q, x, y, z⟩
          by_cases e : q = p
          · subst e
            exact absurd z c2
          · exact ⟨q, by omega, y, z⟩
theorem somebody_eq {w : Nat → Nat} {μ : sm_Mem} (hW : WH 147 w μ) (hG : Good w) : fnX12_isSomebodyHere 146 μ = some (decide (0 < c98 w), μ) := by
  have n := hG.1
  unfold fnX12_isSomebodyHere
  obtain ⟨b, h1, h2⟩ := somebody_L hW hG 4096 0 (by omega) (by omega)
  rw [show (0 : Int32) = nI 0 from rfl, h1]
  have : b = decide (0 < c98 w) := by
    apply bool_same h2
    rw [decide_eq_true_eq]
    unfold c98
    rw [fb_ct_pos]
    constructor
    · rintro ⟨k, hk, e⟩
      exact ⟨k, by omega, hk, of_decide_eq_true e⟩
    · rintro ⟨q, -, hq, e⟩
      exact ⟨q, hq, decide_eq_true e⟩
  rw [this]
noncomputable def dayW (way : Nat) : Nat → Nat → (Nat → Nat) → Int32
  | 0, _, _ => mI 1
  | f + 1, d, w => if c98 w = 0 then nI d else if pSum (ws w) (ovr (ws w) way ((ws w) 4)).2 (fun _ => 1) = 0 then mI 1 else dayW way f (d + 1) (ovr (ws w) way ((ws w) 4)).1
theorem c98_ws (w : Nat → Nat) : c98 (ws w) = c98 w := by
  unfold c98
  rw [(same_ws w).1 4 (by omega)]
  apply fb_ct_cong
  intro k _
  rw [ws_o w (fun s _ => by omega)]
theorem day_less {w : Nat → Nat} (hG : Good w) {way : Nat} (h : pSum (ws w) (ovr (ws w) way ((ws w) 4)).2 (fun _ => 1) ≠ 0) : c98 (ovr (ws w) way ((ws w) 4)).1 < c98 w := by
  obtain ⟨-, -, -, a⟩ := ovr_c98 (good_ws hG) (way := way) ((ws w) 4) (Nat.le_refl _)
  rw [c98_ws] at a
  apply a
  rw [pSum_ct] at h
  have : 0 < fb_ct (ppl (ws w) (ovr (ws w) way ((ws w) 4)).2) ((ws w) 4) := by omega
  obtain ⟨k, hk, e⟩ := fb_ct_pos.mp this
  unfold ppl at e
  rw [decide_eq_true hk, Bool.true_and] at e
  exact ⟨_, e⟩
theorem days11_L {w0 : Nat → Nat} (hG0 : Good w0) {way : Nat} (hw : way < 4) {μ0 : sm_Mem} (hR : RH 14 w0 μ0) (hL : LKS w0 μ0) : ∀ (f g d : Nat) (w : Nat → Nat) (μ : sm_Mem), c98 w < f → c98 w < g → d + c98 w ≤ 8 → Good w → Same w0 w → SH 28 w μ → (∀ a, (a < 28 ∨ 32 ≤ a) → (a < 36 ∨ 41 ≤ a) → μ.1 a = μ0.1 a) → μ.2 = μ0.2 →
    T (fnX11_days_L24 f 0 (nI way) (nI d)) μ (fun r μ' => r = dayW way g d w ∧ (∀ a, (a < 28 ∨ 32 ≤ a) → (a < 36 ∨ 41 ≤ a) → μ'.1 a = μ0.1 a) ∧ μ'.2 = μ0.2) := by
  intro f
  induction f with
  | zero =>
    intro g d w μ h
    omega
  | succ f ih =>
    intro g d w μ hf hg hd hG hs hS ho h2
    have n := hG.1
    have hR1 : RH 14 w μ := same_rh hs hG0 (rh_fr (fun a q1 q2 => ho a (by omega) (by omega)) hR)
    have hL1 : LKS w μ := same_lks hs hG0 (lks_fr (fun a q1 q2 => ho a (by omega) (by omega)) hL)
    obtain ⟨g', rfl⟩ : ∃ g', g = g' + 1 := ⟨g - 1, by omega⟩
    unfold fnX11_days_L24 dayW
    rw [t_brF (show ¬ (8 : Int32) < nI d from nI_nlt (a := 8) (by omega) (by omega)), lk_0_7, lk_0_10, li_98, t_bnd, t_eq (peopleAt_eq sc_28 hR1 hS hG (by omega))]
    have z := mk_z (p := fun p => decide (w (191 + 7 * p) = 98)) (n := w 4) (by omega)
    by_cases c : c98 w = 0
    · rw [t_brT (z.mpr c), t_ret, if_pos c]
      exact ⟨rfl, ho, h2⟩
    · rw [t_brF (fun q => c (z.mp q)), t_bnd, if_neg c]
      refine t_mono (wash_T (scK_of sc_28) hG hS) ?_
      rintro x μ1 ⟨-, a1, a2, a3⟩
      have f1 : ∀ a, (a < 28 ∨ 32 ≤ a) → μ1.1 a = μ.1 a := fun a ha => a2 a (by omega)
      rw [t_bnd]
      refine t_mono (sendOver_T sc_28 (good_ws hG) hw (same_rh (same_ws w) hG (rh_fr (fun a q1 q2 => f1 a (by omega)) hR1)) (same_lks (same_ws w) hG (lks_fr (fun a q1 q2 => f1 a (by omega)) hL1)) a1) ?_
      rintro x μ2 ⟨b1, b2, b3, b4, b5, b6⟩
      rw [mask_mk (good_ws hG) b1]
      have w4 := (same_ws w).1 4 (by omega)
      have z2 := mk_z (p := ppl (ws w) (ovr (ws w) way ((ws w) 4)).2) (n := (ws w) 4) (by omega)
      rw [← pSum_ct] at z2
      have fr : ∀ a, (a < 28 ∨ 32 ≤ a) → (a < 36 ∨ 41 ≤ a) → μ2.1 a = μ0.1 a := fun a h1 h3 => (b5 a h3 h1).trans ((f1 a h1).trans (ho a h1 h3))
      by_cases c2 : pSum (ws w) (ovr (ws w) way ((ws w) 4)).2 (fun _ => 1) = 0
      · rw [t_brT (z2.mpr c2), t_ret, if_pos c2]
        exact ⟨m1_mI, fr, b6.trans (a3.trans h2)⟩
      · have := day_less hG (way := way) c2
        rw [t_brF (fun q => c2 (z2.mp q)), if_neg c2, nI_1]
        exact ih g' (d + 1) _ μ2 (by omega) (by omega) (by omega) b4 (same_tr hs (same_tr (same_ws w) b3)) b2 fr (b6.trans (a3.trans h2))
def ThP (μ0 μ : sm_Mem) : Prop := (∀ k, k ≠ 19 → (k < 22 ∨ 26 ≤ k) → μ.1 146 k = μ0.1 146 k) ∧ (∀ a, a ≠ 146 → a ≠ 147 → (a < 153 ∨ 157 ≤ a) → μ.1 a = μ0.1 a) ∧ μ.2 = μ0.2
theorem days12_L {way : Nat} (hw : way < 4) {μ0 : sm_Mem} {Q : Int32 → sm_Mem → Prop} {R : Int32} (ex : ∀ (μ : sm_Mem) (v2 v3 : Int32), ThP μ0 μ → (if v3 = 0 then mI 1 else v2) = R → T (fnX12_days_J58 146 v2 v3) μ Q) : ∀ (f g d : Nat) (w : Nat → Nat) (μ : sm_Mem), c98 w + 1 < f → c98 w < g → Good w → WH 147 w μ → ThP μ0 μ → dayW way g d w = R →
    T (fnX12_days_L19 f 146 (nI way) (nI d) (1 : Int32)) μ Q := by
  intro f
  induction f with
  | zero =>
    intro g d w μ h
    omega
  | succ f ih =>
    intro g d w μ hf hg hG hW hT hR
    have n := hG.1
    obtain ⟨t1, t2, t3⟩ := id hT
    obtain ⟨g', rfl⟩ : ∃ g', g = g' + 1 := ⟨g - 1, by omega⟩
    unfold dayW at hR
    unfold fnX12_days_L19
    rw [t_brF (by decide), t_bnd, t_eq (somebody_eq hW hG)]
    by_cases c : c98 w = 0
    · rw [if_pos c] at hR
      rw [decide_eq_false (by omega), t_brT (by decide)]
      exact ex μ _ _ hT (by rw [if_neg (by decide)]; exact hR)
    · rw [if_neg c] at hR
      rw [decide_eq_true (by omega), t_brF (by decide), t_bnd]
      refine t_mono (freshens_T hW hG) ?_
      rintro - μ1 ⟨a1, a2, a3⟩
      rw [t_bnd]
      refine t_mono (allGo_T (good_ws hG) hw a3) ?_
      rintro - μ2 ⟨p1, p2, p3, p4, p5, p6, p7, p8, p9, p10⟩
      have hT2 : ThP μ0 μ2 := ⟨fun k h1 h2 => by rw [p8 k h1 h2, a1 146 (by omega)]; exact t1 k h1 h2, fun a h1 h2 h3 => by rw [p9 a h1 h2 h3, a1 a h2]; exact t2 a h1 h2 h3, by rw [p10, a2]; exact t3⟩
      rw [t_gi, p4]
      have pl := pSum_le (good_ws hG) (G := (ovr (ws w) way ((ws w) 4)).2) (v := fun _ => 1) (fun _ _ => by omega)
      unfold fnX12_days_J51
      rw [nI_1]
      by_cases c2 : pSum (ws w) (ovr (ws w) way ((ws w) 4)).2 (fun _ => 1) = 0
      · rw [if_pos c2] at hR
        rw [c2, t_brT (by decide)]
        obtain ⟨f', rfl⟩ : ∃ f', f = f' + 1 := ⟨f - 1, by omega⟩
        unfold fnX12_days_L19
        rw [t_brT (by decide)]
        exact ex μ2 _ _ hT2 (by rw [if_pos rfl]; exact hR)
      · rw [if_neg c2] at hR
        have := day_less hG (way := way) c2
        rw [t_brF (show ¬ nI (pSum (ws w) (ovr (ws w) way ((ws w) 4)).2 (fun _ => 1)) ≤ 0 from nI_ge (a := 0) (by omega) (by omega))]
        exact ih g' (d + 1) _ μ2 (by omega) (by omega) p3 p1 hT2 hR
theorem c98_le {w : Nat → Nat} (hG : Good w) : c98 w ≤ 8 := by
  have n := hG.1
  have := fb_ct_le (fun p => decide (w (191 + 7 * p) = 98)) (w 4)
  unfold c98
  omega
theorem op_days (z : Int32) : op2 Inv (fnX11_days 0 z) (fnX12_days 146 z) := by
  apply op_two
  intro w μ hC hO
  obtain ⟨hG, hR, hS, hW, hL, hT, hSl, hI, hF⟩ := id hC
  have n := hG.1
  have c8 := c98_le hG
  unfold fnX11_days fnX12_days
  cases hz : (decide (0 < w 0) && rg z 0 3)
  · refine ⟨-2, w, same_rf w, hG, ?_, ?_⟩
    · rw [t_bnd, t_eq (isWay11 hR hG _), hz, t_brT (by decide), t_ret]
      exact ⟨rfl, cp_rf hS⟩
    · intro μ1 _ _ hW1
      rw [t_bnd, t_eq (isWay12 hW1 hG _), hz, t_brT (by decide), t_ret]
      exact ⟨rfl, rp_rf hW1⟩
  obtain ⟨-, way, hw, rfl⟩ := way_nat hz
  refine ⟨dayW way 9 0 w, w, same_rf w, hG, ?_, ?_⟩
  · rw [t_bnd, t_eq (isWay11 hR hG _), hz, t_brF (by decide), lk_0_7, lk_0_6, t_bnd]
    refine t_mono (takeFrom9 (scK_of sc_28) (scK_of sc_24) (by omega) hG hS) ?_
    rintro - μ1 ⟨a1, a2, a3⟩
    refine t_mono (days11_L hG hw hR hL 4096 9 0 w μ1 (by omega) (by omega) (by omega) hG (same_rf w) a1 (fun a h1 _ => a2 a h1) a3) ?_
    rintro r μ2 ⟨b1, b2, b3⟩
    exact ⟨b1, cp_th hS b2 b3⟩
  · intro μ1 h1 h2 hW1
    have d0 : μ1.1 146 21 = nI 0 := by rw [h1 146 (by omega)]; exact hF.1
    rw [t_bnd, t_eq (isWay12 hW1 hG _), hz, t_brF (by decide), t_bnd]
    refine t_mono (thinks_T d0) ?_
    rintro - μ2 ⟨b1, b2, b3, b4, b5⟩
    have hW2 : WH 147 w μ2 := wh_fr (fun i hi => by rw [b4 147 (by omega) (by omega)]) hW1
    refine days12_L hw (μ0 := μ2) (R := dayW way 9 0 w) ?_ 4096 9 0 w μ2 (by omega) (by omega) hG hW2 ⟨fun _ _ _ => rfl, fun _ _ _ _ => rfl, rfl⟩ rfl
    rintro μ3 v2 v3 ⟨q8, q9, q10⟩ hv
    unfold fnX12_days_J58
    rw [t_bnd]
    refine t_mono (wake_RP d0 hW1 b1 b2 b3 b4 b5 q8 q9 q10) ?_
    rintro - μ4 ⟨e1, -⟩
    by_cases c : v3 = 0
    · rw [if_pos c] at hv
      rw [t_brT c, t_ret]
      exact ⟨by rw [← hv]; exact m1_mI, e1⟩
    · rw [if_neg c] at hv
      rw [t_brF c, t_ret]
      exact ⟨hv, e1⟩
/-! best -/
noncomputable def wthW (w : Nat → Nat) (way : Nat) : Nat := pSum w (ovr w way (w 4)).2 (fun p => w (187 + 7 * p))
noncomputable def bstW (V : Nat → Nat) : Nat → Nat → Int32 → Int32 → Int32
  | 0, _, b, _ => b
  | f + 1, j, b, m => if m < nI (V j) then bstW V f (j + 1) (nI j) (nI (V j)) else bstW V f (j + 1) b m
theorem best11_L {w : Nat → Nat} (hG : Good w) {μ0 : sm_Mem} (hR : RH 14 w μ0) (hL : LKS w μ0) (hS : SH 24 w μ0) : ∀ (f j : Nat) (b m : Int32) (μ : sm_Mem), 4 - j < f → j ≤ 4 → (∀ a, (a < 28 ∨ 32 ≤ a) → (a < 36 ∨ 41 ≤ a) → μ.1 a = μ0.1 a) → μ.2 = μ0.2 →
    T (fnX11_best_L16 f 0 b m (nI j)) μ (fun r μ' => r = bstW (wthW w) (4 - j) j b m ∧ (∀ a, (a < 28 ∨ 32 ≤ a) → (a < 36 ∨ 41 ≤ a) → μ'.1 a = μ0.1 a) ∧ μ'.2 = μ0.2) := by
  intro f
  induction f with
  | zero =>
    intro j b m μ h
    omega
  | succ f ih =>
    intro j b m μ hf hj ho h2
    unfold fnX11_best_L16 fnX11_best_J46
    by_cases c : 4 ≤ j
    · have : j = 4 := by omega
      subst this
      rw [t_brT (by decide), t_ret]
      exact ⟨rfl, ho, h2⟩
    · rw [t_brF (show ¬ (4 : Int32) ≤ nI j from nI_ge (b := 4) (by omega) (by omega)), t_bnd]
      refine t_mono (overT_T hG (rh_fr (fun a q1 q2 => ho a (by omega) (by omega)) hR) (sh_fr (fun a q1 q2 => ho a (by omega) (by omega)) hS) (lks_fr (fun a q1 q2 => ho a (by omega) (by omega)) hL) (way := j) (by omega)) ?_
      rintro x μ1 ⟨rfl, a2, a3, a4, a5, a6⟩
      have fr : ∀ a, (a < 28 ∨ 32 ≤ a) → (a < 36 ∨ 41 ≤ a) → μ1.1 a = μ0.1 a := fun a h1 h3 => (a5 a h1 h3).trans (ho a h1 h3)
      rw [lk_0_5, t_bnd, t_eq (worthOf_eq (rh_fr (fun a q1 q2 => fr a (by omega) (by omega)) hR) hG (ovM_bit hG)), nI_1]
      show T (m_br (nI (wthW w j) ≤ m) _ _) _ _
      have e : bstW (wthW w) (4 - j) j b m = if m < nI (wthW w j) then bstW (wthW w) (4 - (j + 1)) (j + 1) (nI j) (nI (wthW w j)) else bstW (wthW w) (4 - (j + 1)) (j + 1) b m := by
        rw [show 4 - j = (4 - (j + 1)) + 1 by omega]
        rfl
      by_cases c2 : m < nI (wthW w j)
      · rw [e, if_pos c2, t_brF (fun q => by rw [fa_lt] at c2; rw [fa_le] at q; omega)]
        exact ih (j + 1) _ _ μ1 (by omega) (by omega) fr (a6.trans h2)
      · rw [e, if_neg c2, t_brT (by rw [fa_lt] at c2; rw [fa_le]; omega)]
        exact ih (j + 1) _ _ μ1 (by omega) (by omega) fr (a6.trans h2)
theorem best12_L {w : Nat → Nat} (hG : Good w) {μ0 : sm_Mem} (hd : μ0.1 146 21 = nI 0) (hW : WH 147 w μ0) : ∀ (f j : Nat) (b m : Int32) (μ : sm_Mem), 4 - j < f → j ≤ 4 → RP w μ0 μ →
    T (fnX12_best_L16 f 146 b m (nI j)) μ (fun r μ' => r = bstW (wthW w) (4 - j) j b m ∧ RP w μ0 μ') := by
  intro f
  induction f with
  | zero =>
    intro j b m μ h
    omega
  | succ f ih =>
    intro j b m μ hf hj hP
    obtain ⟨o1, o2, o3, o4⟩ := id hP
    unfold fnX12_best_L16 fnX12_best_J52
    by_cases c : 4 ≤ j
    · have : j = 4 := by omega
      subst this
      rw [t_brT (by decide), t_ret]
      exact ⟨rfl, hP⟩
    · have d0 : μ.1 146 21 = nI 0 := by rw [o3 21 (by omega)]; exact hd
      rw [t_brF (show ¬ (4 : Int32) ≤ nI j from nI_ge (b := 4) (by omega) (by omega)), t_bnd]
      refine t_mono (thinks_T d0) ?_
      rintro - μ2 ⟨b1, b2, b3, b4, b5⟩
      have hW2 : WH 147 w μ2 := wh_fr (fun i hi => by rw [b4 147 (by omega) (by omega)]) o1
      rw [t_bnd]
      refine t_mono (allGo_T hG (way := j) (by omega) hW2) ?_
      rintro - μ3 ⟨p1, p2, p3, p4, p5, p6, p7, p8, p9, p10⟩
      rw [t_bnd]
      refine t_mono (wake_RP d0 o1 b1 b2 b3 b4 b5 p8 p9 p10) ?_
      rintro - μ4 ⟨e1, -, -, e4, -⟩
      have v23 : μ4.1 146 23 = nI (wthW w j) := by rw [e4 23 (by omega)]; exact p5
      have hP4 : RP w μ0 μ4 := ⟨e1.1, fun a ha => (e1.2.1 a ha).trans (o2 a ha), fun k hk => (e1.2.2.1 k hk).trans (o3 k hk), fun a ha => (e1.2.2.2 a ha).trans (o4 a ha)⟩
      rw [t_gi, v23, nI_1]
      have e : bstW (wthW w) (4 - j) j b m = if m < nI (wthW w j) then bstW (wthW w) (4 - (j + 1)) (j + 1) (nI j) (nI (wthW w j)) else bstW (wthW w) (4 - (j + 1)) (j + 1) b m := by
        rw [show 4 - j = (4 - (j + 1)) + 1 by omega]
        rfl
      by_cases c2 : m < nI (wthW w j)
      · rw [e, if_pos c2, t_brT c2, t_gi, v23]
        exact ih (j + 1) _ _ μ4 (by omega) (by omega) hP4
      · rw [e, if_neg c2, t_brF c2]
        exact ih (j + 1) _ _ μ4 (by omega) (by omega) hP4
theorem op_best : op2 Inv (fnX11_best 0) (fnX12_best 146) := by
  apply op_two
  intro w μ hC hO
  obtain ⟨hG, hR, hS, hW, hL, hT, hSl, hI, hF⟩ := id hC
  have n := hG.1
  unfold fnX11_best fnX12_best
  by_cases hz : 0 < w 0
  · refine ⟨bstW (wthW w) 4 0 0 (-1), w, same_rf w, hG, ?_, ?_⟩
    · rw [t_bnd, t_eq (isTold11 hR hG), decide_eq_true hz, t_brF (by decide)]
      refine t_mono (best11_L hG hR hL hS 4096 0 0 (-1) μ (by omega) (by omega) (fun _ _ _ => rfl) rfl) ?_
      rintro r μ2 ⟨b1, b2, b3⟩
      exact ⟨b1, cp_th hS b2 b3⟩
    · intro μ1 h1 h2 hW1
      have d0 : μ1.1 146 21 = nI 0 := by rw [h1 146 (by omega)]; exact hF.1
      rw [t_bnd, t_eq (isRiver12 hW1 hG), decide_eq_true hz, t_brF (by decide)]
      exact best12_L hG d0 hW1 4096 0 0 (-1) μ1 (by omega) (by omega) (rp_rf hW1)
  · refine ⟨-2, w, same_rf w, hG, ?_, ?_⟩
    · rw [t_bnd, t_eq (isTold11 hR hG), decide_eq_false hz, t_brT (by decide), t_ret]
      exact ⟨rfl, cp_rf hS⟩
    · intro μ1 _ _ hW1
      rw [t_bnd, t_eq (isRiver12 hW1 hG), decide_eq_false hz, t_brT (by decide), t_ret]
      exact ⟨rfl, rp_rf hW1⟩
/-! alike -/
theorem lf_wear {w : Nat → Nat} {l : List Nat} {wt s : Nat} (hl : ∀ x, x ∈ l → x < 24) (hn : l.Nodup) (hs : s < 24) : lf (wearW w l wt) s = lf w s - (if s ∈ l then wt else 0) := by
  unfold lf
  rw [wear_o l w (13 + 7 * s) (fun t _ => by omega), wear_o l w 7 (fun t _ => by omega), wear_o l w (15 + 7 * s) (fun t _ => by omega), wear_o l w (12 + 7 * s) (fun t _ => by omega), wear_b l w s hn]
  split
  · omega
  · omega
def lfS (w : Nat → Nat) : Nat := fb_sm (lf w) (w 3)
theorem sm_lt {f g : Nat → Nat} {i : Nat} : ∀ {n : Nat}, (∀ k, k < n → f k ≤ g k) → i < n → f i < g i → fb_sm f n < fb_sm g n
  | 0, _, h, _ => by omega
  | n + 1, h, hi, hl => by
    rw [fb_sm_succ, fb_sm_succ]
    by_cases e : i = n
    · subst e
      have := fb_sm_le (f := f) (g := g) (n := i) (fun k hk => h k (by omega))
      omega
    · have := sm_lt (n := n) (fun k hk => h k (by omega)) (by omega) hl
      have := h n (by omega)
      omega
theorem lfS_wear {w : Nat → Nat} (hG : Good w) {l : List Nat} {wt : Nat} (hw : 1 ≤ wt) (hl : ∀ x, x ∈ l → x < w 3 ∧ opn w wt x = true) (hn : l.Nodup) (hne : l ≠ []) : lfS (wearW w l wt) < lfS w := by
  have n := hG.1
  have hl24 : ∀ x, x ∈ l → x < 24 := fun x hx => by have := (hl x hx).1; omega
  unfold lfS
  rw [wear_o l w 3 (fun t _ => by omega)]
  obtain ⟨x, hx⟩ := List.exists_mem_of_ne_nil l hne
  have ox := (hl x hx).2
  unfold opn at ox
  have ox := (of_decide_eq_true ox).2
  refine sm_lt (i := x) ?_ (hl x hx).1 ?_
  · intro k hk
    rw [lf_wear hl24 hn (by omega)]
    omega
  · rw [lf_wear hl24 hn (hl24 x hx), if_pos hx]
    omega
theorem lfS_le {w : Nat → Nat} (hG : Good w) : lfS w ≤ 216 := by
  have n := hG.1
  have : fb_sm (lf w) (w 3) ≤ w 3 * 9 := fb_sm_bound (fun k hk => lf_le hG hk)
  have : w 3 * 9 ≤ 24 * 9 := Nat.mul_le_mul_right _ n.1
  unfold lfS
  omega
noncomputable def alkW (r wt way : Nat) : Nat → Nat → (Nat → Nat) → Nat
  | 0, d, _ => d
  | f + 1, d, w => match findW w r wt way 98 with
    | none => d
    | some l => alkW r wt way f (d + 1) (wearW w l wt)
theorem alike11_L {w0 : Nat → Nat} (hG0 : Good w0) {r wt way : Nat} (hr : 1 ≤ r) (hr9 : r ≤ 9) (hrw : r < w0 1) (ht1 : 1 ≤ wt) (ht6 : wt ≤ 6) (hw : way < 4) {μ0 : sm_Mem} (hR : RH 14 w0 μ0) (hL : LKS w0 μ0) : ∀ (f g d : Nat) (w : Nat → Nat) (μ : sm_Mem), lfS w < f → lfS w < g → d + lfS w ≤ 216 → Good w → Same w0 w → SH 28 w μ → (∀ a, (a < 28 ∨ 32 ≤ a) → (a < 36 ∨ 41 ≤ a) → μ.1 a = μ0.1 a) → μ.2 = μ0.2 →
    T (fnX11_alike_L55 f 0 (nI r) (nI wt) (nI way) (nI d)) μ (fun x μ' => x = nI (alkW r wt way g d w) ∧ (∀ a, (a < 28 ∨ 32 ≤ a) → (a < 36 ∨ 41 ≤ a) → μ'.1 a = μ0.1 a) ∧ μ'.2 = μ0.2) := by
  intro f
  induction f with
  | zero =>
    intro g d w μ h
    omega
  | succ f ih =>
    intro g d w μ hf hg hd hG hs hS ho h2
    have n := hG.1
    have hR1 : RH 14 w μ := same_rh hs hG0 (rh_fr (fun a q1 q2 => ho a (by omega) (by omega)) hR)
    have hL1 : LKS w μ := same_lks hs hG0 (lks_fr (fun a q1 q2 => ho a (by omega) (by omega)) hL)
    obtain ⟨g', rfl⟩ : ∃ g', g = g' + 1 := ⟨g - 1, by omega⟩
    have e1 := hs.1 1 (by omega)
    unfold fnX11_alike_L55 alkW
    rw [t_brF (show ¬ (999 : Int32) ≤ nI d from nI_ge (b := 999) (by omega) (by omega)), lk_0_9, lk_0_7, li_98, t_bnd]
    refine t_mono (seek_T sc_28 hG hr hr9 (by omega) hw (Or.inl rfl) hR1 hS hL1) ?_
    rintro x μ1 ⟨a1, a2, a3⟩
    have hS1 : SH 28 w μ1 := sh_fr (fun a q1 q2 => a2 a (by omega)) hS
    cases hf : findW w r wt way 98 with
    | none =>
      rw [hf] at a1
      have a1 : x = mI 1 := a1
      subst a1
      rw [t_brT (by decide), t_ret]
      exact ⟨rfl, fun a h1 h3 => (a2 a h3).trans (ho a h1 h3), a3.trans h2⟩
    | some l =>
      rw [hf] at a1
      obtain ⟨rfl, b2, b3, b4, b5, b6⟩ := a1
      obtain ⟨-, -, f3⟩ := find_facts hf
      have hne := f3 (by omega)
      have hpos : 0 < l.length := List.length_pos_iff.mpr hne
      obtain ⟨ws, wg⟩ := good_wear hG ht1 b5 b6
      have := lfS_wear hG ht1 b5 b6 hne
      rw [t_brF (show ¬ nI l.length ≤ 0 from nI_ge (a := 0) hpos (by omega)), t_bnd]
      refine t_mono (wear10_T (wt := wt) sc_28 hG (fun x hx => (b5 x hx).1) b2 hS1 b3 b4) ?_
      rintro - μ2 ⟨c1, c2, c3⟩
      rw [nI_1]
      exact ih g' (d + 1) _ μ2 (by omega) (by omega) (by omega) wg (same_tr hs ws) c1 (fun a h1 h3 => (c2 a (by omega)).trans ((a2 a h3).trans (ho a h1 h3))) (c3.trans (a3.trans h2))
theorem alike49 {k34 : Nat → Int32 → Int32 → Int32 → Int32 → sm_M Int32} {Q : Int32 → sm_Mem → Prop} {w : Nat → Nat} (hG : Good w) {wt : Nat} {r way d : Int32} {l : List Nat} (hl : ∀ x, x ∈ l → x < w 3) (hlen : l.length ≤ 24) {μ0 : sm_Mem} (h19 : μ0.1 146 19 = nI l.length) (h156 : ∀ i, i < l.length → μ0.1 156 i = nI (l.getD i 0))
    (ex : ∀ μ', WH 147 (wearW w l wt) μ' → (∀ a, a ≠ 147 → μ'.1 a = μ0.1 a) → μ'.2 = μ0.2 → T (fnX12_alike_J76 k34 146 r (nI wt) way d) μ' Q) :
    ∀ (f i : Nat) (w1 : Nat → Nat) (μ : sm_Mem), l.length - i < f → i ≤ l.length → Same w w1 → wearW w1 (l.drop i) wt = wearW w l wt → WH 147 w1 μ → (∀ a, a ≠ 147 → μ.1 a = μ0.1 a) → μ.2 = μ0.2 → T (fnX12_alike_L49 k34 f 146 r (nI wt) way d (nI i)) μ Q := by
  have n := hG.1
  have e_156 : ln 156 = 25 := rfl
  intro f
  induction f with
  | zero =>
    intro i w1 μ h
    omega
  | succ f ih =>
    intro i w1 μ hf hi hs he hW ho h2
    have x19 : μ.1 146 19 = nI l.length := by rw [ho 146 (by omega)]; exact h19
    unfold fnX12_alike_L49
    rw [t_gi, x19]
    by_cases c1 : l.length ≤ i
    · have : i = l.length := by omega
      subst this
      rw [t_brT (nI_le c1 (by omega))]
      rw [List.drop_length] at he
      have he : w1 = wearW w l wt := he
      rw [he] at hW
      exact ex μ hW ho h2
    · have hm : l.getD i 0 ∈ l := by
        rw [List.getD_eq_getElem?_getD, List.getElem?_eq_getElem (by omega)]
        exact List.getElem_mem _
      have hsn := hl _ hm
      have hd : l.drop i = l.getD i 0 :: l.drop (i + 1) := by
        rw [List.drop_eq_getElem_cons (by omega)]
        congr 1
        rw [List.getD_eq_getElem?_getD, List.getElem?_eq_getElem (by omega)]
        rfl
      have x156 : μ.1 156 i = nI (l.getD i 0) := by rw [ho 156 (by omega)]; exact h156 i (by omega)
      rw [t_brF (nI_ge (by omega) (by omega)), lk_146_18, t_ai (by omega), x156, t_bnd, bears_T hW (by omega), nI_1]
      refine ih (i + 1) (up w1 (16 + 7 * l.getD i 0) (w1 (16 + 7 * l.getD i 0) + wt)) _ (by omega) (by omega) (same_tr hs (same_up (Or.inr (Or.inr (Or.inl ⟨l.getD i 0, by omega, rfl⟩))))) ?_ (wh_up hW ?_) ?_ h2
      · rw [hd] at he
        exact he
      · unfold eI
        rw [if_neg (by omega)]
      · intro a ha
        rw [← ho a ha]
        simp (disch := omega) only [u2_ne, u2_a, u2_k, u2_at]
theorem alike12_L {w0 : Nat → Nat} {r wt way : Nat} (hr : 1 ≤ r) (hr9 : r ≤ 9) (hrw : r < w0 1) (ht1 : 1 ≤ wt) (ht6 : wt ≤ 6) (hw : way < 4) {μ0 : sm_Mem} {Q : Int32 → sm_Mem → Prop} {R : Nat} (ex : ∀ (μ : sm_Mem), ThP μ0 μ → T (fnX12_alike_J82 146 (nI R)) μ Q) : ∀ (f g d : Nat) (w : Nat → Nat) (μ : sm_Mem), lfS w < f → lfS w < g → d + lfS w ≤ 216 → Good w → Same w0 w → WH 147 w μ → ThP μ0 μ → alkW r wt way g d w = R →
    T (fnX12_alike_L34 f 146 (nI r) (nI wt) (nI way) (nI d)) μ Q := by
  intro f
  induction f with
  | zero =>
    intro g d w μ h
    omega
  | succ f ih =>
    intro g d w μ hf hg hd hG hs hW hT hR
    obtain ⟨t1, t2, t3⟩ := id hT
    have n := hG.1
    obtain ⟨g', rfl⟩ : ∃ g', g = g' + 1 := ⟨g - 1, by omega⟩
    have e1 := hs.1 1 (by omega)
    unfold alkW at hR
    unfold fnX12_alike_L34
    rw [li_98, t_bnd]
    refine t_mono (finds_T hG hr hr9 ht1 (by omega) hw (Or.inl rfl) hW) ?_
    rintro x μ1 ⟨a1, a2, a3, a4⟩
    have hW1 : WH 147 w μ1 := wh_fr (fun i _ => by rw [a3 147 (by omega) (by omega)]) hW
    have hT1 : ThP μ0 μ1 := ⟨fun k h1 h2 => (a2 k h1).trans (t1 k h1 h2), fun a h1 h2 h3 => (a3 a h1 h3).trans (t2 a h1 h2 h3), a4.trans t3⟩
    cases hf : findW w r wt way 98 with
    | none =>
      rw [hf] at a1 hR
      have a1 : x = false := a1
      have hR : d = R := hR
      subst a1 hR
      rw [t_brT (by decide)]
      exact ex μ1 hT1
    | some l =>
      rw [hf] at a1 hR
      obtain ⟨rfl, b2, b3, b4, b5, b6⟩ := a1
      have hR : alkW r wt way g' (d + 1) (wearW w l wt) = R := hR
      obtain ⟨-, -, f3⟩ := find_facts hf
      have hne := f3 (by omega)
      obtain ⟨ws, wg⟩ := good_wear hG ht1 b5 b6
      have := lfS_wear hG ht1 b5 b6 hne
      rw [t_brF (by decide)]
      refine alike49 hG (fun x hx => (b5 x hx).1) b2 (μ0 := μ1) b3 b4 ?_ 4096 0 w μ1 (by omega) (by omega) (same_rf w) rfl hW1 (fun _ _ => rfl) rfl
      intro μ2 c1 c2 c3
      unfold fnX12_alike_J76
      rw [nI_1]
      exact ih g' (d + 1) _ μ2 (by omega) (by omega) (by omega) wg (same_tr hs ws) c1 ⟨fun k h1 h2 => by rw [c2 146 (by omega)]; exact hT1.1 k h1 h2, fun a h1 h2 h3 => (c2 a h2).trans (hT1.2.1 a h1 h2 h3), c3.trans hT1.2.2⟩ hR
theorem ask3_nat {w : Nat → Nat} {v u z : Int32} (h : (decide (0 < w 0) && (rg v 1 9 && (rg u 1 6 && rg z 0 3))) = true) : 0 < w 0 ∧ (∃ r, 1 ≤ r ∧ r ≤ 9 ∧ v = nI r) ∧ (∃ t, 1 ≤ t ∧ t ≤ 6 ∧ u = nI t) ∧ ∃ way, way < 4 ∧ z = nI way := by
  simp only [Bool.and_eq_true, decide_eq_true_eq] at h
  obtain ⟨h0, h1, h2, h3⟩ := h
  obtain ⟨r, r1, r2, r3⟩ := rg_nat (a := 1) (b := 9) h1 (by omega)
  obtain ⟨t, t1, t2, t3⟩ := rg_nat (a := 1) (b := 6) h2 (by omega)
  obtain ⟨y, -, y2, y3⟩ := rg_nat (a := 0) (b := 3) h3 (by omega)
  exact ⟨h0, ⟨r, r1, r2, r3⟩, ⟨t, t1, t2, t3⟩, y, by omega, y3⟩
theorem op_alike (v u z : Int32) : op2 Inv (fnX11_alike 0 v u z) (fnX12_alike 146 v u z) := by
  apply op_two
  intro w μ hC hO
  obtain ⟨hG, hR, hS, hW, hL, hT, hSl, hI, hF⟩ := id hC
  have n := hG.1
  have gw := good_wide hG
  have l216 := lfS_le hG
  have e_147 : ln 147 = 241 := rfl
  unfold fnX11_alike fnX12_alike
  cases hq : (decide (0 < w 0) && (rg v 1 9 && (rg u 1 6 && rg z 0 3)))
  · refine ⟨-2, w, same_rf w, hG, ?_, ?_⟩
    · rw [t_bnd, t_eq (isStride11 hR hG _)]
      cases q1 : (decide (0 < w 0) && rg v 1 9)
      · rw [t_brT (by decide), t_ret]
        exact ⟨rfl, cp_rf hS⟩
      rw [t_brF (by decide), t_bnd, t_eq (isWeight11 _ _)]
      cases q2 : rg u 1 6
      · rw [t_brT (by decide), t_ret]
        exact ⟨rfl, cp_rf hS⟩
      rw [t_brF (by decide), t_bnd, t_eq (isWay11 hR hG _)]
      cases q3 : (decide (0 < w 0) && rg z 0 3)
      · rw [t_brT (by decide), t_ret]
        exact ⟨rfl, cp_rf hS⟩
      exfalso
      simp only [Bool.and_eq_true] at q1 q3
      rw [q1.1, q1.2, q2, q3.2] at hq
      cases hq
    · intro μ1 _ _ hW1
      rw [t_bnd, t_eq (isAsked12 hW1 hG _ _ _), hq, t_brT (by decide), t_ret]
      exact ⟨rfl, rp_rf hW1⟩
  obtain ⟨h0, ⟨r, r1, r2, rfl⟩, ⟨t, t1, t2, rfl⟩, way, hw, rfl⟩ := ask3_nat hq
  have hq2 := hq
  simp only [Bool.and_eq_true] at hq2
  have f1 : (decide (0 < w 0) && rg (nI r) 1 9) = true := by rw [hq2.1, hq2.2.1]; rfl
  have f3 : (decide (0 < w 0) && rg (nI way) 0 3) = true := by rw [hq2.1, hq2.2.2.2]; rfl
  have f2 := hq2.2.2.1
  have x1 := hR.1.2.1
  by_cases hrw : r < w 1
  · refine ⟨nI (alkW r t way 217 0 w), w, same_rf w, hG, ?_, ?_⟩
    · rw [t_bnd, t_eq (isStride11 hR hG _), f1, t_brF (by decide), t_bnd, t_eq (isWeight11 _ _), f2, t_brF (by decide), t_bnd, t_eq (isWay11 hR hG _), f3, t_brF (by decide), lk_0_5, t_gi, x1, t_brT (nI_lt hrw (by omega)), lk_0_7, lk_0_6, t_bnd]
      refine t_mono (takeFrom9 (scK_of sc_28) (scK_of sc_24) (by omega) hG hS) ?_
      rintro - μ1 ⟨a1, a2, a3⟩
      refine t_mono (alike11_L hG r1 r2 hrw t1 t2 hw hR hL 4096 217 0 w μ1 (by omega) (by omega) (by omega) hG (same_rf w) a1 (fun a h1 _ => a2 a h1) a3) ?_
      rintro x μ2 ⟨b1, b2, b3⟩
      exact ⟨b1, cp_th hS b2 b3⟩
    · intro μ1 h1 h2 hW1
      have d0 : μ1.1 146 21 = nI 0 := by rw [h1 146 (by omega)]; exact hF.1
      have y1 := wh_lo hW1 (i := 1) (by omega)
      rw [t_bnd, t_eq (isAsked12 hW1 hG _ _ _), hq, t_brF (by decide), li_1, lk_146_1, t_ai (by omega), y1, t_brT (nI_lt hrw (by omega)), t_bnd]
      refine t_mono (thinks_T d0) ?_
      rintro - μ2 ⟨b1, b2, b3, b4, b5⟩
      have hW2 : WH 147 w μ2 := wh_fr (fun i hi => by rw [b4 147 (by omega) (by omega)]) hW1
      refine alike12_L (w0 := w) r1 r2 hrw t1 t2 hw (μ0 := μ2) (R := alkW r t way 217 0 w) ?_ 4096 217 0 w μ2 (by omega) (by omega) (by omega) hG (same_rf w) hW2 ⟨fun _ _ _ => rfl, fun _ _ _ _ => rfl, rfl⟩ rfl
      rintro μ3 ⟨q8, q9, q10⟩
      unfold fnX12_alike_J82
      rw [t_bnd]
      refine t_mono (wake_RP d0 hW1 b1 b2 b3 b4 b5 q8 q9 q10) ?_
      rintro - μ4 ⟨e1, -⟩
      rw [t_ret]
      exact ⟨rfl, e1⟩
  · refine ⟨999, w, same_rf w, hG, ?_, ?_⟩
    · rw [t_bnd, t_eq (isStride11 hR hG _), f1, t_brF (by decide), t_bnd, t_eq (isWeight11 _ _), f2, t_brF (by decide), t_bnd, t_eq (isWay11 hR hG _), f3, t_brF (by decide), lk_0_5, t_gi, x1, t_brF (nI_nlt (by omega) (by omega)), t_ret]
      exact ⟨rfl, cp_rf hS⟩
    · intro μ1 h1 h2 hW1
      have y1 := wh_lo hW1 (i := 1) (by omega)
      rw [t_bnd, t_eq (isAsked12 hW1 hG _ _ _), hq, t_brF (by decide), li_1, lk_146_1, t_ai (by omega), y1, t_brF (nI_nlt (by omega) (by omega)), t_ret]
      exact ⟨rfl, rp_rf hW1⟩
