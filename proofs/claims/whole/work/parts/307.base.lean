/-! ===== CALLS THAT ONLY READ, as equations ===== -/
theorem e_ai {α : Type} {r k : Nat} {g : Int32 → sm_M α} {μ : sm_Mem} (h : k < ln r) : m_ai r (nI k) g μ = g (μ.1 r k) μ := by
  have hs := ln_small r
  unfold m_ai
  rw [if_pos (t_in h hs), nI_clamp (by omega)]
theorem e_al {α : Type} {r k : Nat} {g : Int64 → sm_M α} {μ : sm_Mem} (h : k < ln r) : m_al r (nI k) g μ = g (μ.2.1 r k) μ := by
  have hs := ln_small r
  unfold m_al
  rw [if_pos (t_in h hs), nI_clamp (by omega)]
theorem e_ap {α : Type} {r k : Nat} {g : Nat → sm_M α} {μ : sm_Mem} (h : k < ln r) : m_ap r (nI k) g μ = g (lk r k) μ := by
  have hs := ln_small r
  unfold m_ap
  rw [if_pos (t_in h hs), nI_clamp (by omega)]
theorem bI_n0 (b : Bool) : (bI b = nI 0) ↔ b = false := bI_0 b
theorem bI_n1 (b : Bool) : (bI b = nI 1) ↔ b = true := bI_1 b
/-- an int within bounds -/
def rg (v : Int32) (a b : Int) : Bool := decide (a ≤ v.toInt ∧ v.toInt ≤ b)
theorem rg_nI {v : Int32} {n : Nat} (h : rg v 0 ((n : Int) - 1) = true) (hn : n < 2 ^ 31) : ∃ j, j < n ∧ v = nI j := by
  unfold rg at h
  have h := of_decide_eq_true h
  exact vp_in_of (vp_in_iff.mpr ⟨h.1, by omega⟩) hn
theorem rg_of {a b : Int} {n : Nat} (h1 : a ≤ n) (h2 : (n : Int) ≤ b) (hn : n < 2 ^ 31) : rg (nI n) a b = true := by
  unfold rg
  rw [nI_toInt hn]
  exact decide_eq_true ⟨h1, h2⟩
theorem rg_nat {v : Int32} {a b : Nat} (h : rg v a b = true) (hb : b < 2 ^ 30) : ∃ j, a ≤ j ∧ j ≤ b ∧ v = nI j := by
  unfold rg at h
  have h := of_decide_eq_true h
  obtain ⟨j, h1, h2⟩ := vp_in_of (x := v) (n := b + 1) (vp_in_iff.mpr ⟨by omega, by omega⟩) (by omega)
  subst h2
  rw [nI_toInt (by omega)] at h
  exact ⟨j, by omega, by omega, rfl⟩
theorem in_eq (v : Int32) (lo hi : Int64) (μ : sm_Mem) : fnX12_in v.toInt64 lo hi μ = some (rg v lo.toInt hi.toInt, μ) := by
  unfold fnX12_in
  simp only [m_br, m_ret, lg_cmp_lt, lg_cmp_gt, fa_lt64, Int32.toInt_toInt64]
  unfold rg
  split
  · rw [decide_eq_false (by omega)]
  · split
    · rw [decide_eq_false (by omega)]
    · rw [decide_eq_true (by omega)]
theorem ofStone_eq {w : Nat → Nat} {μ : sm_Mem} (hW : WH 147 w μ) {s k : Nat} (hs : s < 25) (hk : k < 7) : fnX12_ofStone 146 (nI s) (nI k) μ = some (nI (w (10 + 7 * s + k)), μ) := by
  have h := hW (10 + 7 * s + k) (by omega)
  unfold eI at h
  rw [if_neg (by omega)] at h
  unfold fnX12_ofStone
  simp (disch := (first | assumption | (simp only [ln_147]; omega) | omega)) only [m_bnd, m_br, m_gi, m_gl, m_ret, m_nm, e_ai, e_al, e_ap, nI_add, pk_mul, pk_sub, nI_leI, nI_ltI, nI_eq, pk_div, li_10, li_7, lk_146_1, h]
theorem of_eq {w : Nat → Nat} {μ : sm_Mem} (hW : WH 147 w μ) {p k : Nat} (hp : p < 8) (hk : k < 7) (hk5 : k ≠ 5) : fnX12_of 146 (nI p) (nI k) μ = some (nI (w (185 + 7 * p + k)), μ) := by
  have h := hW (185 + 7 * p + k) (by omega)
  unfold eI at h
  rw [if_neg (by omega)] at h
  unfold fnX12_of
  simp (disch := (first | assumption | (simp only [ln_147]; omega) | omega)) only [m_bnd, m_br, m_gi, m_gl, m_ret, m_nm, e_ai, e_al, e_ap, nI_add, pk_mul, pk_sub, nI_leI, nI_ltI, nI_eq, pk_div, li_185, li_7, lk_146_1, h]
theorem ofH_eq {w : Nat → Nat} {μ : sm_Mem} (hW : WH 147 w μ) {p : Nat} (hp : p < 8) : fnX12_of 146 (nI p) (5 : Int32) μ = some (nI (w (190 + 7 * p)) - 1, μ) := by
  have h := hW (185 + 7 * p + 5) (by omega)
  unfold eI at h
  rw [if_pos (by omega), show 185 + 7 * p + 5 = 190 + 7 * p by omega] at h
  have e : 185 + 7 * p + 5 = 190 + 7 * p := by omega
  unfold fnX12_of
  simp (disch := (first | assumption | (simp only [ln_147]; omega) | omega)) only [m_bnd, m_br, m_gi, m_gl, m_ret, m_nm, e_ai, e_al, e_ap, nI_add, pk_mul, pk_sub, nI_leI, nI_ltI, nI_eq, pk_div, li_185, li_7, li_5, lk_146_1, e, h]
theorem wh_lo {w : Nat → Nat} {μ : sm_Mem} (hW : WH 147 w μ) {i : Nat} (hi : i < 185) : μ.1 147 i = nI (w i) := by
  rw [hW i (by omega)]
  unfold eI
  rw [if_neg (by omega)]
theorem pred_toInt {n : Nat} (h : n < 4096) : (nI n - (1 : Int32)).toInt64.toInt = (n : Int) - 1 := by
  rw [Int32.toInt_toInt64]
  exact pk_sub_toInt (a := n) (b := 1) (by omega) (by omega)
theorem t64_0 : (0 : Int64).toInt = 0 := by decide
theorem t64_1 : (1 : Int64).toInt = 1 := by decide
theorem isStone12 {w : Nat → Nat} {μ : sm_Mem} (hW : WH 147 w μ) (hG : Good w) (v : Int32) : fnX12_isStone 146 v μ = some (rg v 0 ((w 3 : Int) - 1), μ) := by
  have n24 := hG.1.1
  have w3 := wh_lo hW (i := 3) (by omega)
  have e_147 : ln 147 = 241 := rfl
  unfold fnX12_isStone
  simp (disch := (first | assumption | omega)) only [li_3, lk_146_1, e_ai, w3, m_bnd, in_eq, m_ret, pred_toInt, t64_0]
theorem isPerson12 {w : Nat → Nat} {μ : sm_Mem} (hW : WH 147 w μ) (hG : Good w) (v : Int32) : fnX12_isPerson 146 v μ = some (rg v 0 ((w 4 : Int) - 1), μ) := by
  have n24 := hG.1.2.1
  have w3 := wh_lo hW (i := 4) (by omega)
  have e_147 : ln 147 = 241 := rfl
  unfold fnX12_isPerson
  simp (disch := (first | assumption | omega)) only [li_4, lk_146_1, e_ai, w3, m_bnd, in_eq, m_ret, pred_toInt, t64_0]
theorem good_wide {w : Nat → Nat} (hG : Good w) : (0 < w 1 ↔ 0 < w 0) ∧ w 1 ≤ 12 ∧ w 2 ≤ 20 := by
  obtain ⟨-, h1, h2, -⟩ := hG
  rcases Nat.eq_zero_or_pos (w 0) with h | h
  · have := h1 h
    omega
  · have := h2 h
    omega
theorem isRiver12 {w : Nat → Nat} {μ : sm_Mem} (hW : WH 147 w μ) (hG : Good w) : fnX12_isRiver 146 μ = some (decide (0 < w 0), μ) := by
  have g := good_wide hG
  have w1 := wh_lo hW (i := 1) (by omega)
  have e_147 : ln 147 = 241 := rfl
  unfold fnX12_isRiver
  simp (disch := (first | assumption | omega)) only [li_1, li_0, lk_146_1, e_ai, w1, m_br, m_ret, nI_leI]
  split
  · rw [decide_eq_false (by omega)]
  · rw [decide_eq_true (by omega)]
theorem isTold11 {w : Nat → Nat} {μ : sm_Mem} (hR : RH 14 w μ) (hG : Good w) : fnX11_isTold 0 μ = some (decide (0 < w 0), μ) := by
  have g := hG.1.2.2.1
  have r0 := hR.1.1
  unfold fnX11_isTold
  simp (disch := (first | assumption | omega)) only [li_0, lk_0_5, r0, m_gi, m_br, m_ret, nI_leI]
  split
  · rw [decide_eq_false (by omega)]
  · rw [decide_eq_true (by omega)]
theorem isStone11 {w : Nat → Nat} {μ : sm_Mem} (hR : RH 14 w μ) (hG : Good w) (v : Int32) : fnX11_isStone 0 v μ = some (rg v 0 ((w 3 : Int) - 1), μ) := by
  have g := hG.1.1
  have r4 := hR.1.2.2.2.2.1
  unfold fnX11_isStone
  simp (disch := (first | assumption | omega)) only [li_0, lk_0_5, r4, m_gi, m_br, m_ret, fa_lt, fa_le, nI_toInt]
  unfold rg
  split
  · rw [decide_eq_false (by omega)]
  · split
    · rw [decide_eq_false (by omega)]
    · rw [decide_eq_true (by omega)]
theorem isPerson11 {w : Nat → Nat} {μ : sm_Mem} (hR : RH 14 w μ) (hG : Good w) (v : Int32) : fnX11_isPerson 0 v μ = some (rg v 0 ((w 4 : Int) - 1), μ) := by
  have g := hG.1.2.1
  have r4 := hR.1.2.2.2.2.2
  unfold fnX11_isPerson
  simp (disch := (first | assumption | omega)) only [li_0, lk_0_5, r4, m_gi, m_br, m_ret, fa_lt, fa_le, nI_toInt]
  unfold rg
  split
  · rw [decide_eq_false (by omega)]
  · split
    · rw [decide_eq_false (by omega)]
    · rw [decide_eq_true (by omega)]
theorem isStride11 {w : Nat → Nat} {μ : sm_Mem} (hR : RH 14 w μ) (hG : Good w) (v : Int32) : fnX11_isStride 0 v μ = some (decide (0 < w 0) && rg v 1 9, μ) := by
  unfold fnX11_isStride
  simp (disch := (first | assumption | omega)) only [m_bnd, isTold11 hR hG, m_br, m_ret, bI_n0, bI_0, li_1, li_9, fa_lt, nI_toInt]
  unfold rg
  cases decide (0 < w 0)
  · simp
  · rw [if_neg (by simp), Bool.true_and]
    split
    · rw [decide_eq_false (by omega)]
    · split
      · rw [decide_eq_false (by omega)]
      · rw [decide_eq_true (by omega)]
theorem isHour11 {w : Nat → Nat} {μ : sm_Mem} (hR : RH 14 w μ) (hG : Good w) (v : Int32) : fnX11_isHour 0 v μ = some (decide (0 < w 0) && rg v 0 23, μ) := by
  unfold fnX11_isHour
  simp (disch := (first | assumption | omega)) only [m_bnd, isTold11 hR hG, m_br, m_ret, bI_n0, bI_0, li_0, li_24, fa_lt, fa_le, nI_toInt]
  unfold rg
  cases decide (0 < w 0)
  · simp
  · rw [if_neg (by simp), Bool.true_and]
    split
    · rw [decide_eq_false (by omega)]
    · split
      · rw [decide_eq_false (by omega)]
      · rw [decide_eq_true (by omega)]
theorem isWay11 {w : Nat → Nat} {μ : sm_Mem} (hR : RH 14 w μ) (hG : Good w) (v : Int32) : fnX11_isWay 0 v μ = some (decide (0 < w 0) && rg v 0 3, μ) := by
  unfold fnX11_isWay
  simp (disch := (first | assumption | omega)) only [m_bnd, isTold11 hR hG, m_br, m_ret, bI_n0, bI_0, li_0, li_4, fa_lt, fa_le, nI_toInt]
  unfold rg
  cases decide (0 < w 0)
  · simp
  · rw [if_neg (by simp), Bool.true_and]
    split
    · rw [decide_eq_false (by omega)]
    · split
      · rw [decide_eq_false (by omega)]
      · rw [decide_eq_true (by omega)]
theorem t64_9 : (9 : Int64).toInt = 9 := by decide
theorem isStride12 (v : Int32) (μ : sm_Mem) : fnX12_isStride v μ = some (rg v 1 9, μ) := by
  unfold fnX12_isStride
  simp only [m_bnd, in_eq, m_ret, t64_1, t64_9]
theorem isWeight11 (v : Int32) (μ : sm_Mem) : fnX11_isWeight v μ = some (rg v 1 6, μ) := by
  unfold fnX11_isWeight
  simp (disch := (first | assumption | omega)) only [m_br, m_ret, li_1, li_6, fa_lt, fa_le, nI_toInt]
  unfold rg
  split
  · rw [decide_eq_false (by omega)]
  · split
    · rw [decide_eq_false (by omega)]
    · rw [decide_eq_true (by omega)]
theorem isLoad11 (v : Int32) (μ : sm_Mem) : fnX11_isLoad v μ = some (rg v 1 9, μ) := by
  unfold fnX11_isLoad
  simp (disch := (first | assumption | omega)) only [m_br, m_ret, li_1, li_9, fa_lt, fa_le, nI_toInt]
  unfold rg
  split
  · rw [decide_eq_false (by omega)]
  · split
    · rw [decide_eq_false (by omega)]
    · rw [decide_eq_true (by omega)]
theorem isSeed11 (v : Int32) (μ : sm_Mem) : fnX11_isSeed v μ = some (rg v 0 2000000000, μ) := by
  unfold fnX11_isSeed
  simp (disch := (first | assumption | omega)) only [m_br, m_ret, li_0, li_2000000000, fa_lt, fa_le, nI_toInt]
  unfold rg
  split
  · rw [decide_eq_false (by omega)]
  · split
    · rw [decide_eq_false (by omega)]
    · rw [decide_eq_true (by omega)]
theorem isSlot11 (v : Int32) (μ : sm_Mem) : fnX11_isSlot v μ = some (rg v 0 3, μ) := by
  unfold fnX11_isSlot
  simp (disch := (first | assumption | omega)) only [m_br, m_ret, li_0, li_4, fa_lt, fa_le, nI_toInt]
  unfold rg
  split
  · rw [decide_eq_false (by omega)]
  · split
    · rw [decide_eq_false (by omega)]
    · rw [decide_eq_true (by omega)]
theorem isImage11 (v : Int32) (μ : sm_Mem) : fnX11_isImage v μ = some (rg v 0 2, μ) := by
  unfold fnX11_isImage
  simp (disch := (first | assumption | omega)) only [m_br, m_ret, li_0, li_3, fa_lt, fa_le, nI_toInt]
  unfold rg
  split
  · rw [decide_eq_false (by omega)]
  · split
    · rw [decide_eq_false (by omega)]
    · rw [decide_eq_true (by omega)]
theorem t64_2 : (2 : Int64).toInt = 2 := by decide
theorem t64_3 : (3 : Int64).toInt = 3 := by decide
theorem t64_4 : (4 : Int64).toInt = 4 := by decide
theorem t64_6 : (6 : Int64).toInt = 6 := by decide
theorem t64_7 : (7 : Int64).toInt = 7 := by decide
theorem t64_23 : (23 : Int64).toInt = 23 := by decide
theorem t64_60 : (60 : Int64).toInt = 60 := by decide
theorem t64_999 : (999 : Int64).toInt = 999 := by decide
theorem t64_2000000000 : (2000000000 : Int64).toInt = 2000000000 := by decide
theorem isSlot12 (v : Int32) (μ : sm_Mem) : fnX12_isSlot v μ = some (rg v 0 3, μ) := by
  unfold fnX12_isSlot
  simp only [m_bnd, in_eq, m_ret, t64_0, t64_3]
theorem isSeed12 (v : Int32) (μ : sm_Mem) : fnX12_isSeed v μ = some (rg v 0 2000000000, μ) := by
  unfold fnX12_isSeed
  simp only [m_bnd, in_eq, m_ret, t64_0, t64_2000000000]
theorem isWay12 {w : Nat → Nat} {μ : sm_Mem} (hW : WH 147 w μ) (hG : Good w) (v : Int32) : fnX12_isWay 146 v μ = some (decide (0 < w 0) && rg v 0 3, μ) := by
  unfold fnX12_isWay
  simp only [m_bnd, isRiver12 hW hG, in_eq, m_br, m_ret, bI_0, t64_0, t64_3]
  cases decide (0 < w 0) <;> cases rg v 0 3 <;> rfl
theorem isLoad12 {w : Nat → Nat} {μ : sm_Mem} (hW : WH 147 w μ) (hG : Good w) (v u : Int32) : fnX12_isLoad 146 v u μ = some (decide (0 < w 0) && (rg v 1 9 && rg u 1 6), μ) := by
  unfold fnX12_isLoad
  simp only [m_bnd, isRiver12 hW hG, isStride12, in_eq, m_br, m_ret, bI_0, t64_1, t64_6]
  cases decide (0 < w 0) <;> cases rg v 1 9 <;> cases rg u 1 6 <;> rfl
theorem isAsked12 {w : Nat → Nat} {μ : sm_Mem} (hW : WH 147 w μ) (hG : Good w) (v u z : Int32) : fnX12_isAsked 146 v u z μ = some (decide (0 < w 0) && (rg v 1 9 && (rg u 1 6 && rg z 0 3)), μ) := by
  unfold fnX12_isAsked
  simp only [m_bnd, isRiver12 hW hG, isStride12, in_eq, m_br, m_ret, bI_0, t64_0, t64_1, t64_6, t64_3]
  cases decide (0 < w 0) <;> cases rg v 1 9 <;> cases rg u 1 6 <;> cases rg z 0 3 <;> rfl
/-! places, steps -/
theorem isPlace12 {w : Nat → Nat} {μ : sm_Mem} (hW : WH 147 w μ) (hG : Good w) (v : Int32) : fnX12_isPlace 146 v μ = some (decide (0 < w 0) && (rg v 0 ((w 3 : Int) - 1) || decide (v = 98 ∨ v = 99)), μ) := by
  unfold fnX12_isPlace
  simp only [m_bnd, isRiver12 hW hG, isStone12 hW hG, m_br, m_ret, bI_0]
  cases decide (0 < w 0)
  · rfl
  · cases rg v 0 ((w 3 : Int) - 1)
    · by_cases h1 : v = 98
      · simp [h1]
      · by_cases h2 : v = 99
        · simp [h2]
        · simp [h1, h2]
    · simp
theorem isPlace7 {w : Nat → Nat} {μ : sm_Mem} (hR : RH 14 w μ) (hG : Good w) (v : Int32) : fnX7_isPlace 14 v μ = some (decide (0 < w 0) && (rg v 0 ((w 3 : Int) - 1) || decide (v = 98 ∨ v = 99)), μ) := by
  have g := hG.1
  have r0 := hR.1.1
  have r4 := hR.1.2.2.2.2.1
  have e1 : (nI (w 0) ≤ 0) ↔ w 0 = 0 := by
    rw [li_0, nI_leI (by omega) (by omega)]
    omega
  have j : fnX7_isPlace_J19 v μ = some (decide (v = 98 ∨ v = 99), μ) := by
    unfold fnX7_isPlace_J19
    simp only [m_br, m_ret]
    by_cases h1 : v = 98
    · simp [h1]
    · by_cases h2 : v = 99
      · simp [h2]
      · simp [h1, h2]
  have r : rg v 0 ((w 3 : Int) - 1) = decide (¬ v < 0 ∧ v < nI (w 3)) := by
    unfold rg
    apply decide_eq_decide.mpr
    rw [fa_lt, fa_lt, nI_toInt (by omega)]
    have : (0 : Int32).toInt = 0 := by decide
    omega
  unfold fnX7_isPlace
  simp only [m_gi, r0, r4, m_br, e1, j, m_ret]
  rw [r]
  rcases Nat.eq_zero_or_pos (w 0) with h | h
  · simp [h]
  · rw [if_neg (by omega), decide_eq_true h, Bool.true_and]
    by_cases c1 : v < 0
    · simp [c1]
    · by_cases c2 : v < nI (w 3)
      · simp [c1, c2]
      · simp [c1, c2]
/-- an int that is a place -/
theorem pl_nI {w : Nat → Nat} (hG : Good w) {v : Int32} (h : (decide (0 < w 0) && (rg v 0 ((w 3 : Int) - 1) || decide (v = 98 ∨ v = 99))) = true) : ∃ a, v = nI a ∧ isPl w a := by
  have g := hG.1
  simp only [Bool.and_eq_true, Bool.or_eq_true, decide_eq_true_eq] at h
  obtain ⟨h0, h | h | h⟩ := h
  · obtain ⟨j, a, b⟩ := rg_nI h (by omega)
    exact ⟨j, b, h0, Or.inl a⟩
  · exact ⟨98, h, h0, Or.inr (Or.inl rfl)⟩
  · exact ⟨99, h, h0, Or.inr (Or.inr rfl)⟩
theorem across12 {w : Nat → Nat} {μ : sm_Mem} (hW : WH 147 w μ) (hG : Good w) {a : Nat} (ha : a < w 3 ∨ a = 98 ∨ a = 99) : fnX12_acrossOf 146 (nI a) μ = some (nI (yOf w a), μ) := by
  have w1 := wh_lo hW (i := 1) (by omega)
  have n24 := hG.1.1
  have e_147 : ln 147 = 241 := rfl
  unfold fnX12_acrossOf yOf
  simp (disch := (first | assumption | omega)) only [m_br, li_98, li_99, nI_eq, m_ret, m_bnd]
  by_cases h1 : a = 98
  · rw [if_pos h1, if_pos h1]
    rfl
  · rw [if_neg h1, if_neg h1]
    by_cases h2 : a = 99
    · rw [if_pos h2, if_pos h2]
      simp (disch := (first | assumption | omega)) only [lk_146_1, li_1, e_ai, w1, m_ret]
    · rw [if_neg h2, if_neg h2]
      have e : 10 + 7 * a + 1 = 11 + 7 * a := by omega
      simp (disch := (first | assumption | omega)) only [li_1, ofStone_eq hW, e]
theorem yOf_le {w : Nat → Nat} (hG : Good w) {a : Nat} (ha : a < w 3 ∨ a = 98 ∨ a = 99) : yOf w a ≤ 12 := by
  have g := good_wide hG
  unfold yOf
  split
  · omega
  · split
    · omega
    · have := hG.2.2.2.1 a (by omega)
      omega
theorem squares12 {w : Nat → Nat} {μ : sm_Mem} (hW : WH 147 w μ) (hG : Good w) {a b : Nat} (ha : a < w 3 ∨ a = 98 ∨ a = 99) (hb : b < w 3 ∨ b = 98 ∨ b = 99) : fnX12_squares 146 (nI a) (nI b) μ = some (nI (sq w a b), μ) := by
  have n24 := hG.1.1
  have y1 := yOf_le hG ha
  have y2 := yOf_le hG hb
  unfold fnX12_squares sq fnX12_squares_J24 fnX12_squares_J41
  simp (disch := (first | assumption | omega)) only [m_bnd, across12 hW hG ha, across12 hW hG hb, m_nm, m_br, li_98, nI_leI, nI_ltI, m_ret]
  rw [sub_sq (by omega) (by omega)]
  by_cases h1 : 98 ≤ a
  · rw [if_pos h1, if_pos (Or.inl h1)]
    simp only [li_0, pk_mul, nI_add]
  · rw [if_neg h1]
    by_cases h2 : b < 98
    · have x1 := hG.2.2.2.1 a (by omega)
      have x2 := hG.2.2.2.1 b (by omega)
      have g := good_wide hG
      rw [if_pos h2, if_neg (by omega)]
      simp (disch := (first | assumption | omega)) only [li_0, ofStone_eq hW, Nat.add_zero]
      rw [sub_sq (by omega) (by omega), nI_add]
    · rw [if_neg h2, if_pos (Or.inr (by omega))]
      simp only [li_0, pk_mul, nI_add]
theorem dd_le {a b m : Nat} (ha : a ≤ m) (hb : b ≤ m) : dd a b * dd a b ≤ m * m := by
  have : dd a b ≤ m := by
    unfold dd
    omega
  exact Nat.mul_le_mul this this
theorem sq_le {w : Nat → Nat} (hG : Good w) {a b : Nat} (ha : a < w 3 ∨ a = 98 ∨ a = 99) (hb : b < w 3 ∨ b = 98 ∨ b = 99) : sq w a b ≤ 544 := by
  have n24 := hG.1.1
  have g := good_wide hG
  have e1 := dd_le (yOf_le hG ha) (yOf_le hG hb)
  unfold sq
  split
  · omega
  · have x1 := hG.2.2.2.1 a (by omega)
    have x2 := hG.2.2.2.1 b (by omega)
    have e2 := dd_le (a := w (10 + 7 * a)) (b := w (10 + 7 * b)) (m := 20) (by omega) (by omega)
    omega
theorem isStep12 {w : Nat → Nat} {μ : sm_Mem} (hW : WH 147 w μ) (hG : Good w) {a b r : Nat} (ha : a < w 3 ∨ a = 98 ∨ a = 99) (hb : b < w 3 ∨ b = 98 ∨ b = 99) (hr : r < 100) : fnX12_isStep 146 (nI a) (nI b) (nI r) μ = some (stp w a b r, μ) := by
  have n24 := hG.1.1
  have s1 := sq_le hG ha hb
  have hrr : r * r ≤ 100 * 100 := Nat.mul_le_mul (by omega) (by omega)
  unfold fnX12_isStep stp
  simp (disch := (first | assumption | omega)) only [m_bnd, squares12 hW hG ha hb, m_br, nI_eq, pk_mul, nI_ltI, m_ret]
  by_cases h : a = b
  · rw [if_pos h, decide_eq_false (by simp [h])]
  · rw [if_neg h]
    by_cases h2 : r * r < sq w a b
    · rw [if_pos h2, decide_eq_false (by omega)]
    · rw [if_neg h2, decide_eq_true (by omega)]
theorem across7 {w : Nat → Nat} {μ : sm_Mem} (hR : RH 14 w μ) (hG : Good w) {a : Nat} (ha : a < w 3 ∨ a = 98 ∨ a = 99) : fnX7_across 14 (nI a) μ = some (nI (yOf w a), μ) := by
  have w1 := hR.1.2.1
  have n24 := hG.1.1
  have e_16 : ln 16 = 24 := rfl
  unfold fnX7_across yOf
  simp (disch := (first | assumption | omega)) only [m_br, li_98, li_99, nI_eq, m_ret, m_gi, w1, lk_14_9]
  by_cases h1 : a = 98
  · rw [if_pos h1, if_pos h1]
    rfl
  · rw [if_neg h1, if_neg h1]
    by_cases h2 : a = 99
    · rw [if_pos h2, if_pos h2]
    · have hx : μ.1 16 a = nI (w (11 + 7 * a)) := (hR.2.2.2.1 a (by omega)).2.1
      rw [if_neg h2, if_neg h2]
      simp (disch := (first | assumption | omega)) only [e_ai, hx, m_ret]
theorem square7 {w : Nat → Nat} {μ : sm_Mem} (hR : RH 14 w μ) (hG : Good w) {a b : Nat} (ha : a < w 3 ∨ a = 98 ∨ a = 99) (hb : b < w 3 ∨ b = 98 ∨ b = 99) : fnX7_square 14 (nI a) (nI b) μ = some (nI (sq w a b), μ) := by
  have n24 := hG.1.1
  have y1 := yOf_le hG ha
  have y2 := yOf_le hG hb
  have e_15 : ln 15 = 24 := rfl
  unfold fnX7_square sq fnX7_square_J28 fnX7_square_J29
  simp (disch := (first | assumption | omega)) only [m_bnd, across7 hR hG ha, across7 hR hG hb, m_nm, m_br, li_24, nI_leI, nI_ltI, m_ret, lk_14_8]
  rw [sub_sq (by omega) (by omega)]
  by_cases h1 : 24 ≤ a
  · rw [if_pos h1, if_pos (Or.inl (by omega))]
    simp only [li_0, pk_mul, nI_add]
  · rw [if_neg h1]
    by_cases h2 : 24 ≤ b
    · rw [if_pos h2, if_pos (Or.inr (by omega))]
      simp only [li_0, pk_mul, nI_add]
    · have x1 := hG.2.2.2.1 a (by omega)
      have x2 := hG.2.2.2.1 b (by omega)
      have g := good_wide hG
      have k1 : μ.1 15 a = nI (w (10 + 7 * a)) := (hR.2.2.2.1 a (by omega)).1
      have k2 : μ.1 15 b = nI (w (10 + 7 * b)) := (hR.2.2.2.1 b (by omega)).1
      rw [if_neg h2, if_neg (by omega)]
      simp (disch := (first | assumption | omega)) only [e_ai, k1, k2, m_bnd, across7 hR hG ha, across7 hR hG hb, m_nm, m_ret]
      rw [sub_sq (by omega) (by omega), sub_sq (by omega) (by omega), nI_add]
theorem joins7 {w : Nat → Nat} {μ : sm_Mem} (hR : RH 14 w μ) (hG : Good w) {a b r : Nat} (ha : a < w 3 ∨ a = 98 ∨ a = 99) (hb : b < w 3 ∨ b = 98 ∨ b = 99) (hr : r < 100) : fnX7_joins 14 (nI a) (nI b) (nI r) μ = some (stp w a b r, μ) := by
  have n24 := hG.1.1
  have s1 := sq_le hG ha hb
  have hrr : r * r ≤ 100 * 100 := Nat.mul_le_mul (by omega) (by omega)
  unfold fnX7_joins stp
  simp (disch := (first | assumption | omega)) only [m_bnd, square7 hR hG ha hb, m_br, nI_eq, pk_mul, nI_ltI, m_ret]
  by_cases h : a = b
  · rw [if_pos h, decide_eq_false (by simp [h])]
  · rw [if_neg h]
    by_cases h2 : r * r < sq w a b
    · rw [if_pos h2, decide_eq_false (by omega)]
    · rw [if_neg h2, decide_eq_true (by omega)]
