/-! ===== ONE STONE MORE, ONE MOVED ===== -/
def onB (w : Nat → Nat) (x y : Nat) : Bool := decide (0 < fb_ct (fun s => decide (sx w s = x ∧ sy w s = y)) (w 3))
theorem onB_f {w : Nat → Nat} {x y : Nat} : onB w x y = false ↔ ∀ s, s < w 3 → ¬ (sx w s = x ∧ sy w s = y) := by
  unfold onB
  rw [decide_eq_false_iff_not]
  constructor
  · intro h s hs q
    exact h (fb_ct_pos.mpr ⟨s, hs, decide_eq_true q⟩)
  · intro h z
    obtain ⟨k, hk, e⟩ := fb_ct_pos.mp z
    exact h k hk (of_decide_eq_true e)
theorem stoneAt_L {w : Nat → Nat} {μ : sm_Mem} (hR : RH 14 w μ) (hG : Good w) {x y : Nat} (hx : x < 2000) (hy : y < 2000) : ∀ f s, w 3 - s < f → s ≤ w 3 → ∃ k : Int32, fnX7_stoneAt_L2 f 14 (nI x) (nI y) (nI s) μ = some (k, μ) ∧ (k = (-1 : Int32) ↔ ∀ t, s ≤ t → t < w 3 → ¬ (sx w t = x ∧ sy w t = y)) := by
  have n := hG.1
  have gw := good_wide hG
  have r4 := hR.1.2.2.2.2.1
  have e_15 : ln 15 = 24 := rfl
  have e_16 : ln 16 = 24 := rfl
  intro f
  induction f with
  | zero =>
    intro s h
    omega
  | succ f ih =>
    intro s hf hs
    unfold fnX7_stoneAt_L2 fnX7_stoneAt_J32
    rw [e_gi, r4]
    by_cases c1 : w 3 ≤ s
    · rw [e_T (nI_le c1 (by omega))]
      exact ⟨-1, rfl, fun _ t h1 h2 => by omega, fun _ => rfl⟩
    · have g := hG.2.2.2.1 s (by omega)
      have x1 : μ.1 15 s = nI (sx w s) := (hR.2.2.2.1 s (by omega)).1
      have y1 : μ.1 16 s = nI (sy w s) := (hR.2.2.2.1 s (by omega)).2.1
      have gx : sx w s ≤ 20 := by unfold sx; omega
      have gy : sy w s ≤ 12 := by unfold sy; omega
      obtain ⟨k, i1, i2⟩ := ih (s + 1) (by omega) (by omega)
      rw [e_F (nI_ge (by omega) (by omega)), lk_14_8, lk_14_9, e_ai (by omega), x1, nI_1]
      have go : ¬ (sx w s = x ∧ sy w s = y) → ((∀ t, s + 1 ≤ t → t < w 3 → ¬ (sx w t = x ∧ sy w t = y)) ↔ ∀ t, s ≤ t → t < w 3 → ¬ (sx w t = x ∧ sy w t = y)) := by
        intro q
        constructor
        · intro h t h1 h2
          by_cases e : t = s
          · rw [e]
            exact q
          · exact h t (by omega) h2
        · intro h t h1 h2
          exact h t (by omega) h2
      by_cases c2 : sx w s = x
      · rw [e_T (by rw [c2]), e_ai (by omega), y1]
        by_cases c3 : sy w s = y
        · rw [e_T (by rw [c3])]
          refine ⟨nI s, rfl, fun z => absurd z (n_m1 (by omega)), fun h => absurd ⟨c2, c3⟩ (h s (Nat.le_refl _) (by omega))⟩
        · rw [e_F (fun z => c3 ((nI_eq (by omega) (by omega)).mp z))]
          exact ⟨k, i1, i2.trans (go (fun z => c3 z.2))⟩
      · rw [e_F (fun z => c2 ((nI_eq (by omega) (by omega)).mp z))]
        exact ⟨k, i1, i2.trans (go (fun z => c2 z.1))⟩
theorem stoneAt7 {w : Nat → Nat} {μ : sm_Mem} (hR : RH 14 w μ) (hG : Good w) {x y : Nat} (hx : x < 2000) (hy : y < 2000) : ∃ k : Int32, fnX7_stoneAt 14 (nI x) (nI y) μ = some (k, μ) ∧ (k = (-1 : Int32) ↔ onB w x y = false) := by
  have n := hG.1
  obtain ⟨k, h1, h2⟩ := stoneAt_L hR hG hx hy 4096 0 (by omega) (by omega)
  refine ⟨k, h1, h2.trans ?_⟩
  rw [onB_f]
  exact ⟨fun h s hs => h s (by omega) hs, fun h s _ hs => h s hs⟩
theorem stoneOn_L {w : Nat → Nat} {μ : sm_Mem} (hW : WH 147 w μ) (hG : Good w) {x y : Nat} (hx : x < 2000) (hy : y < 2000) : ∀ f s, w 3 - s < f → s ≤ w 3 → ∃ k : Int32, fnX12_stoneOn_L2 f 146 (nI x) (nI y) (nI s) μ = some (k, μ) ∧ (k = (-1 : Int32) ↔ ∀ t, s ≤ t → t < w 3 → ¬ (sx w t = x ∧ sy w t = y)) := by
  have n := hG.1
  have gw := good_wide hG
  have w3 := wh_lo hW (i := 3) (by omega)
  have e_147 : ln 147 = 241 := rfl
  intro f
  induction f with
  | zero =>
    intro s h
    omega
  | succ f ih =>
    intro s hf hs
    unfold fnX12_stoneOn_L2 fnX12_stoneOn_J34
    rw [lk_146_1, li_3, e_ai (by omega), w3]
    by_cases c1 : w 3 ≤ s
    · rw [e_T (nI_le c1 (by omega))]
      exact ⟨-1, rfl, fun _ t h1 h2 => by omega, fun _ => rfl⟩
    · have g := hG.2.2.2.1 s (by omega)
      have x1 := ofStone_eq hW (s := s) (k := 0) (by omega) (by omega)
      have y1 := ofStone_eq hW (s := s) (k := 1) (by omega) (by omega)
      rw [Nat.add_zero, show w (10 + 7 * s) = sx w s from rfl] at x1
      rw [show 10 + 7 * s + 1 = 11 + 7 * s by omega, show w (11 + 7 * s) = sy w s from rfl] at y1
      have gx : sx w s ≤ 20 := by unfold sx; omega
      have gy : sy w s ≤ 12 := by unfold sy; omega
      obtain ⟨k, i1, i2⟩ := ih (s + 1) (by omega) (by omega)
      rw [e_F (nI_ge (by omega) (by omega)), li_0, li_1, e_b x1, nI_add]
      have go : ¬ (sx w s = x ∧ sy w s = y) → ((∀ t, s + 1 ≤ t → t < w 3 → ¬ (sx w t = x ∧ sy w t = y)) ↔ ∀ t, s ≤ t → t < w 3 → ¬ (sx w t = x ∧ sy w t = y)) := by
        intro q
        constructor
        · intro h t h1 h2
          by_cases e : t = s
          · rw [e]
            exact q
          · exact h t (by omega) h2
        · intro h t h1 h2
          exact h t (by omega) h2
      by_cases c2 : sx w s = x
      · rw [e_T (by rw [c2]), e_b y1]
        by_cases c3 : sy w s = y
        · rw [e_T (by rw [c3])]
          refine ⟨nI s, rfl, fun z => absurd z (n_m1 (by omega)), fun h => absurd ⟨c2, c3⟩ (h s (Nat.le_refl _) (by omega))⟩
        · rw [e_F (fun z => c3 ((nI_eq (by omega) (by omega)).mp z))]
          exact ⟨k, i1, i2.trans (go (fun z => c3 z.2))⟩
      · rw [e_F (fun z => c2 ((nI_eq (by omega) (by omega)).mp z))]
        exact ⟨k, i1, i2.trans (go (fun z => c2 z.1))⟩
theorem stoneOn12 {w : Nat → Nat} {μ : sm_Mem} (hW : WH 147 w μ) (hG : Good w) {x y : Nat} (hx : x < 2000) (hy : y < 2000) : ∃ k : Int32, fnX12_stoneOn 146 (nI x) (nI y) μ = some (k, μ) ∧ (k = (-1 : Int32) ↔ onB w x y = false) := by
  have n := hG.1
  obtain ⟨k, h1, h2⟩ := stoneOn_L hW hG hx hy 4096 0 (by omega) (by omega)
  refine ⟨k, h1, h2.trans ?_⟩
  rw [onB_f]
  exact ⟨fun h s hs => h s (by omega) hs, fun h s _ hs => h s hs⟩
/-- in the water -/
def inB (w : Nat → Nat) (X Y : Int32) : Bool := rg X 0 ((w 2 : Int) - 1) && rg Y 1 ((w 1 : Int) - 1)
theorem inWater7 {w : Nat → Nat} {μ : sm_Mem} (hR : RH 14 w μ) (hG : Good w) (X Y : Int32) : fnX7_isInWater 14 X Y μ = some (inB w X Y, μ) := by
  have gw := good_wide hG
  have r1 := hR.1.2.1
  have r2 := hR.1.2.2.1
  have z0 : (0 : Int32).toInt = 0 := by decide
  have z1 : (1 : Int32).toInt = 1 := by decide
  unfold fnX7_isInWater inB rg
  simp only [m_gi, r1, r2, m_br, m_ret, fa_lt, fa_le, z0, z1]
  rw [nI_toInt (n := w 2) (by omega), nI_toInt (n := w 1) (by omega)]
  by_cases c1 : X.toInt < 0
  · rw [if_pos c1, decide_eq_false (p := 0 ≤ X.toInt ∧ _) (by omega)]
    rfl
  · rw [if_neg c1]
    by_cases c2 : (w 2 : Int) ≤ X.toInt
    · rw [if_pos c2, decide_eq_false (p := 0 ≤ X.toInt ∧ _) (by omega)]
      rfl
    · rw [if_neg c2, decide_eq_true (p := 0 ≤ X.toInt ∧ _) (by omega), Bool.true_and]
      by_cases c3 : Y.toInt < 1
      · rw [if_pos c3, decide_eq_false (by omega)]
      · rw [if_neg c3]
        by_cases c4 : (w 1 : Int) ≤ Y.toInt
        · rw [if_pos c4, decide_eq_false (by omega)]
        · rw [if_neg c4, decide_eq_true (by omega)]
theorem isSpot12 {w : Nat → Nat} {μ : sm_Mem} (hW : WH 147 w μ) (hG : Good w) (X Y : Int32) : fnX12_isSpot 146 X Y μ = some (inB w X Y, μ) := by
  have gw := good_wide hG
  have e_147 : ln 147 = 241 := rfl
  have w1 := wh_lo hW (i := 1) (by omega)
  have w2 := wh_lo hW (i := 2) (by omega)
  unfold fnX12_isSpot inB
  rw [lk_146_1, li_2, e_ai (by omega), w2, e_b (in_eq X _ _ _), pred_toInt (by omega), t64_0]
  cases h1 : rg X 0 ((w 2 : Int) - 1)
  · rw [e_T (by decide)]
    rfl
  · rw [e_F (by decide), li_1, e_ai (by omega), w1, e_b (in_eq Y _ _ _), ← li_1, pred_toInt (by omega), t64_1]
    cases h2 : rg Y 1 ((w 1 : Int) - 1)
    · rw [e_T (by decide)]
      rfl
    · rw [e_F (by decide)]
      rfl
theorem in_nat {w : Nat → Nat} (hG : Good w) {X Y : Int32} (h : inB w X Y = true) : ∃ x y, X = nI x ∧ Y = nI y ∧ x < w 2 ∧ 1 ≤ y ∧ y < w 1 := by
  have gw := good_wide hG
  unfold inB at h
  simp only [Bool.and_eq_true] at h
  obtain ⟨x, hx, rfl⟩ := rg_nI h.1 (by omega)
  have h2 := h.2
  unfold rg at h2
  have h2 := of_decide_eq_true h2
  obtain ⟨y, y1, y2⟩ := vp_in_of (x := Y) (n := w 1) (vp_in_iff.mpr ⟨by omega, by omega⟩) (by omega)
  subst y2
  rw [nI_toInt (by omega)] at h2
  exact ⟨x, y, rfl, rfl, hx, by omega, by omega⟩
