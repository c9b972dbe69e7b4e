/-! ===== CALLS THAT ONLY READ, as equations ===== -/
theorem e_ai {α : Type} {r k : Nat} {g : Int32 → sm_M α} {μ : sm_Mem} (h : k < ln r) : m_ai r (nI k) g μ = g (μ.1 r k) μ := by
  have hs := ln_small r
  unfold m_ai
  rw [if_pos (t_in h hs), nI_clamp (by omega)]
theorem e_al {α : Type} {r k : Nat} {g : Int64 → sm_M α} {μ : sm_Mem} (h : k < ln r) : m_al r (nI k) g μ = g (μ.2.1 r k) μ := by
  have hs := ln_small r
  unfold m_al
  rw [if_pos (t_in h hs), nI_clamp (by omega)]
theorem e_ap {α : Type} {r k : Nat} {g : Nat → sm_M α} {μ : sm_Mem} (h : k < ln r) : m_ap r (nI k) g μ = g (lk r k) μ := by
  have hs := ln_small r
  unfold m_ap
  rw [if_pos (t_in h hs), nI_clamp (by omega)]
/-- an int within bounds -/
def rg (v : Int32) (a b : Int) : Bool := decide (a ≤ v.toInt ∧ v.toInt ≤ b)
theorem rg_nI {v : Int32} {n : Nat} (h : rg v 0 ((n : Int) - 1) = true) (hn : n < 2 ^ 31) : ∃ j, j < n ∧ v = nI j := by
  unfold rg at h
  have h := of_decide_eq_true h
  exact vp_in_of (vp_in_iff.mpr ⟨h.1, by omega⟩) hn
theorem rg_of {a b : Int} {n : Nat} (h1 : a ≤ n) (h2 : (n : Int) ≤ b) (hn : n < 2 ^ 31) : rg (nI n) a b = true := by
  unfold rg
  rw [nI_toInt hn]
  exact decide_eq_true ⟨h1, h2⟩
theorem rg_nat {v : Int32} {a b : Nat} (h : rg v a b = true) (hb : b < 2 ^ 31) : ∃ j, a ≤ j ∧ j ≤ b ∧ v = nI j := by
  unfold rg at h
  have h := of_decide_eq_true h
  obtain ⟨j, h1, h2⟩ := vp_in_of (x := v) (n := b + 1) (vp_in_iff.mpr ⟨by omega, by omega⟩) (by omega)
  subst h2
  rw [nI_toInt (by omega)] at h
  exact ⟨j, by omega, by omega, rfl⟩
theorem in_eq (v : Int32) (lo hi : Int64) (μ : sm_Mem) : fnX12_in v.toInt64 lo hi μ = some (rg v lo.toInt hi.toInt, μ) := by
  unfold fnX12_in
  simp only [m_br, m_ret, lg_cmp_lt, lg_cmp_gt, fa_lt64, Int32.toInt_toInt64]
  unfold rg
  split
  · rw [decide_eq_false (by omega)]
  · split
    · rw [decide_eq_false (by omega)]
    · rw [decide_eq_true (by omega)]
theorem ofStone_eq {w : Nat → Nat} {μ : sm_Mem} (hW : WH 147 w μ) {s k : Nat} (hs : s < 25) (hk : k < 7) : fnX12_ofStone 146 (nI s) (nI k) μ = some (nI (w (10 + 7 * s + k)), μ) := by
  have h := hW (10 + 7 * s + k) (by omega)
  unfold eI at h
  rw [if_neg (by omega)] at h
  unfold fnX12_ofStone
  simp (disch := (first | assumption | (simp only [ln_147]; omega) | omega)) only [m_bnd, m_br, m_gi, m_gl, m_ret, m_nm, e_ai, e_al, e_ap, nI_add, pk_mul, pk_sub, nI_leI, nI_ltI, nI_eq, pk_div, li_10, li_7, lk_146_1, h]
theorem of_eq {w : Nat → Nat} {μ : sm_Mem} (hW : WH 147 w μ) {p k : Nat} (hp : p < 8) (hk : k < 7) (hk5 : k ≠ 5) : fnX12_of 146 (nI p) (nI k) μ = some (nI (w (185 + 7 * p + k)), μ) := by
  have h := hW (185 + 7 * p + k) (by omega)
  unfold eI at h
  rw [if_neg (by omega)] at h
  unfold fnX12_of
  simp (disch := (first | assumption | (simp only [ln_147]; omega) | omega)) only [m_bnd, m_br, m_gi, m_gl, m_ret, m_nm, e_ai, e_al, e_ap, nI_add, pk_mul, pk_sub, nI_leI, nI_ltI, nI_eq, pk_div, li_185, li_7, lk_146_1, h]
theorem ofH_eq {w : Nat → Nat} {μ : sm_Mem} (hW : WH 147 w μ) {p : Nat} (hp : p < 8) : fnX12_of 146 (nI p) (5 : Int32) μ = some (nI (w (190 + 7 * p)) - 1, μ) := by
  have h := hW (185 + 7 * p + 5) (by omega)
  unfold eI at h
  rw [if_pos (by omega), show 185 + 7 * p + 5 = 190 + 7 * p by omega] at h
  have e : 185 + 7 * p + 5 = 190 + 7 * p := by omega
  unfold fnX12_of
  simp (disch := (first | assumption | (simp only [ln_147]; omega) | omega)) only [m_bnd, m_br, m_gi, m_gl, m_ret, m_nm, e_ai, e_al, e_ap, nI_add, pk_mul, pk_sub, nI_leI, nI_ltI, nI_eq, pk_div, li_185, li_7, li_5, lk_146_1, e, h]
theorem wh_lo {w : Nat → Nat} {μ : sm_Mem} (hW : WH 147 w μ) {i : Nat} (hi : i < 185) : μ.1 147 i = nI (w i) := by
  rw [hW i (by omega)]
  unfold eI
  rw [if_neg (by omega)]
theorem pred_toInt {n : Nat} (h : n < 4096) : (nI n - (1 : Int32)).toInt64.toInt = (n : Int) - 1 := by
  rw [Int32.toInt_toInt64]
  exact pk_sub_toInt (a := n) (b := 1) (by omega) (by omega)
theorem t64_0 : (0 : Int64).toInt = 0 := by decide
theorem t64_1 : (1 : Int64).toInt = 1 := by decide
theorem isStone12 {w : Nat → Nat} {μ : sm_Mem} (hW : WH 147 w μ) (hG : Good w) (v : Int32) : fnX12_isStone 146 v μ = some (rg v 0 ((w 3 : Int) - 1), μ) := by
  have n24 := hG.1.1
  have w3 := wh_lo hW (i := 3) (by omega)
  have e_147 : ln 147 = 241 := rfl
  unfold fnX12_isStone
  simp (disch := (first | assumption | omega)) only [li_3, lk_146_1, e_ai, w3, m_bnd, in_eq, m_ret, pred_toInt, t64_0]
theorem isPerson12 {w : Nat → Nat} {μ : sm_Mem} (hW : WH 147 w μ) (hG : Good w) (v : Int32) : fnX12_isPerson 146 v μ = some (rg v 0 ((w 4 : Int) - 1), μ) := by
  have n24 := hG.1.2.1
  have w3 := wh_lo hW (i := 4) (by omega)
  have e_147 : ln 147 = 241 := rfl
  unfold fnX12_isPerson
  simp (disch := (first | assumption | omega)) only [li_4, lk_146_1, e_ai, w3, m_bnd, in_eq, m_ret, pred_toInt, t64_0]
theorem good_wide {w : Nat → Nat} (hG : Good w) : (0 < w 1 ↔ 0 < w 0) ∧ w 1 ≤ 12 ∧ w 2 ≤ 20 := by
  obtain ⟨-, h1, h2, -⟩ := hG
  rcases Nat.eq_zero_or_pos (w 0) with h | h
  · have := h1 h
    omega
  · have := h2 h
    omega
theorem isRiver12 {w : Nat → Nat} {μ : sm_Mem} (hW : WH 147 w μ) (hG : Good w) : fnX12_isRiver 146 μ = some (decide (0 < w 0), μ) := by
  have g := good_wide hG
  have w1 := wh_lo hW (i := 1) (by omega)
  have e_147 : ln 147 = 241 := rfl
  unfold fnX12_isRiver
  simp (disch := (first | assumption | omega)) only [li_1, li_0, lk_146_1, e_ai, w1, m_br, m_ret, nI_leI]
  split
  · rw [decide_eq_false (by omega)]
  · rw [decide_eq_true (by omega)]
theorem isTold11 {w : Nat → Nat} {μ : sm_Mem} (hR : RH 14 w μ) (hG : Good w) : fnX11_isTold 0 μ = some (decide (0 < w 0), μ) := by
  have g := hG.1.2.2.1
  have r0 := hR.1.1
  unfold fnX11_isTold
  simp (disch := (first | assumption | omega)) only [li_0, lk_0_5, r0, m_gi, m_br, m_ret, nI_leI]
  split
  · rw [decide_eq_false (by omega)]
  · rw [decide_eq_true (by omega)]
theorem isStone11 {w : Nat → Nat} {μ : sm_Mem} (hR : RH 14 w μ) (hG : Good w) (v : Int32) : fnX11_isStone 0 v μ = some (rg v 0 ((w 3 : Int) - 1), μ) := by
  have g := hG.1.1
  have r4 := hR.1.2.2.2.2.1
  unfold fnX11_isStone
  simp (disch := (first | assumption | omega)) only [li_0, lk_0_5, r4, m_gi, m_br, m_ret, fa_lt, fa_le, nI_toInt]
  unfold rg
  split
  · rw [decide_eq_false (by omega)]
  · split
    · rw [decide_eq_false (by omega)]
    · rw [decide_eq_true (by omega)]
theorem isPerson11 {w : Nat → Nat} {μ : sm_Mem} (hR : RH 14 w μ) (hG : Good w) (v : Int32) : fnX11_isPerson 0 v μ = some (rg v 0 ((w 4 : Int) - 1), μ) := by
  have g := hG.1.2.1
  have r4 := hR.1.2.2.2.2.2
  unfold fnX11_isPerson
  simp (disch := (first | assumption | omega)) only [li_0, lk_0_5, r4, m_gi, m_br, m_ret, fa_lt, fa_le, nI_toInt]
  unfold rg
  split
  · rw [decide_eq_false (by omega)]
  · split
    · rw [decide_eq_false (by omega)]
    · rw [decide_eq_true (by omega)]
theorem isStride11 {w : Nat → Nat} {μ : sm_Mem} (hR : RH 14 w μ) (hG : Good w) (v : Int32) : fnX11_isStride 0 v μ = some (decide (0 < w 0) && rg v 1 9, μ) := by
  unfold fnX11_isStride
  simp (disch := (first | assumption | omega)) only [m_bnd, isTold11 hR hG, m_br, m_ret, bI_0, li_1, li_9, fa_lt, nI_toInt]
  unfold rg
  cases decide (0 < w 0)
  · simp
  · rw [if_neg (by simp), Bool.true_and]
    split
    · rw [decide_eq_false (by omega)]
    · split
      · rw [decide_eq_false (by omega)]
      · rw [decide_eq_true (by omega)]
theorem isHour11 {w : Nat → Nat} {μ : sm_Mem} (hR : RH 14 w μ) (hG : Good w) (v : Int32) : fnX11_isHour 0 v μ = some (decide (0 < w 0) && rg v 0 23, μ) := by
  unfold fnX11_isHour
  simp (disch := (first | assumption | omega)) only [m_bnd, isTold11 hR hG, m_br, m_ret, bI_0, li_0, li_24, fa_lt, fa_le, nI_toInt]
  unfold rg
  cases decide (0 < w 0)
  · simp
  · rw [if_neg (by simp), Bool.true_and]
    split
    · rw [decide_eq_false (by omega)]
    · split
      · rw [decide_eq_false (by omega)]
      · rw [decide_eq_true (by omega)]
theorem isWay11 {w : Nat → Nat} {μ : sm_Mem} (hR : RH 14 w μ) (hG : Good w) (v : Int32) : fnX11_isWay 0 v μ = some (decide (0 < w 0) && rg v 0 3, μ) := by
  unfold fnX11_isWay
  simp (disch := (first | assumption | omega)) only [m_bnd, isTold11 hR hG, m_br, m_ret, bI_0, li_0, li_4, fa_lt, fa_le, nI_toInt]
  unfold rg
  cases decide (0 < w 0)
  · simp
  · rw [if_neg (by simp), Bool.true_and]
    split
    · rw [decide_eq_false (by omega)]
    · split
      · rw [decide_eq_false (by omega)]
      · rw [decide_eq_true (by omega)]
theorem t64_9 : (9 : Int64).toInt = 9 := by decide
theorem isStride12 (v : Int32) (μ : sm_Mem) : fnX12_isStride v μ = some (rg v 1 9, μ) := by
  unfold fnX12_isStride
  simp only [m_bnd, in_eq, m_ret, t64_1, t64_9]
