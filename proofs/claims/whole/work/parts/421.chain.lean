/-! ===== the same chain over worlds where one has fallen (written by qgen.py) ===== -/
def GoodQ (w : Nat → Nat) : Prop :=
  (w 3 ≤ 24 ∧ w 4 ≤ 8 ∧ w 0 < 4096 ∧ w 6 ≤ 9 ∧ w 7 ≤ 23) ∧
  (w 0 = 0 → w 1 = 0 ∧ w 2 = 0 ∧ w 3 = 0 ∧ w 4 = 0) ∧
  (0 < w 0 → 2 ≤ w 1 ∧ w 1 ≤ 12 ∧ 1 ≤ w 2 ∧ w 2 ≤ 20) ∧
  (∀ s, s < w 3 → w (10 + 7 * s) < w 2 ∧ 1 ≤ w (11 + 7 * s) ∧ w (11 + 7 * s) < w 1 ∧ 1 ≤ w (12 + 7 * s) ∧ w (12 + 7 * s) ≤ 9 ∧ w (13 + 7 * s) ≤ 23 ∧ w (14 + 7 * s) ≤ 99 ∧ w (15 + 7 * s) ≤ 2 ∧ w (16 + 7 * s) ≤ 1000) ∧
  (∀ s, w 3 ≤ s → s < 25 → w (16 + 7 * s) = 0) ∧
  (fb_ct (fun s => decide (0 < w (14 + 7 * s))) (w 3) ≤ 4) ∧
  (∀ s t, s < w 3 → t < w 3 → w (10 + 7 * s) = w (10 + 7 * t) → w (11 + 7 * s) = w (11 + 7 * t) → s = t) ∧
  (∀ p, p < w 4 → 1 ≤ w (185 + 7 * p) ∧ w (185 + 7 * p) ≤ 9 ∧ 1 ≤ w (186 + 7 * p) ∧ w (186 + 7 * p) ≤ 3 ∧ w (187 + 7 * p) ≤ 99 ∧ w (188 + 7 * p) ≤ 1 ∧ w (189 + 7 * p) ≤ 1) ∧
  (∀ p, p < w 4 → w (190 + 7 * p) = 0 ∨ (∃ q, w (190 + 7 * p) = q + 1 ∧ q < w 4 ∧ q ≠ p ∧ w (190 + 7 * q) = p + 1)) ∧
  (∀ p, p < w 4 → w (191 + 7 * p) ≤ 99)
theorem good_q {w : Nat → Nat} (hG : Good w) : GoodQ w := by
  have n := hG.1
  refine ⟨hG.1, hG.2.1, hG.2.2.1, ?_, hG.2.2.2.2.1, hG.2.2.2.2.2.1, hG.2.2.2.2.2.2.1, hG.2.2.2.2.2.2.2.1, hG.2.2.2.2.2.2.2.2.1, ?_⟩
  · intro s hs
    have g := hG.2.2.2.1 s hs
    omega
  · intro p hp
    have g := hG.2.2.2.2.2.2.2.2.2 p hp
    omega
theorem lf_leQ {w : Nat → Nat} (hG : GoodQ w) {s : Nat} (hs : s < w 3) : lf w s ≤ 9 := by
  have h := hG.2.2.2.1 s hs
  unfold lf
  split
  · omega
  · split <;> omega
theorem good_wideQ {w : Nat → Nat} (hG : GoodQ w) : (0 < w 1 ↔ 0 < w 0) ∧ w 1 ≤ 12 ∧ w 2 ≤ 20 := by
  obtain ⟨-, h1, h2, -⟩ := hG
  rcases Nat.eq_zero_or_pos (w 0) with h | h
  · have := h1 h
    omega
  · have := h2 h
    omega
theorem across12Q {w : Nat → Nat} {μ : sm_Mem} (hW : WH 147 w μ) (hG : GoodQ w) {a : Nat} (ha : a < w 3 ∨ a = 98 ∨ a = 99) : fnX12_acrossOf 146 (nI a) μ = some (nI (yOf w a), μ) := by
  have w1 := wh_lo hW (i := 1) (by omega)
  have n24 := hG.1.1
  have e_147 : ln 147 = 241 := rfl
  unfold fnX12_acrossOf yOf
  simp (disch := (first | assumption | omega)) only [m_br, li_98, li_99, nI_eq, m_ret, m_bnd]
  by_cases h1 : a = 98
  · rw [if_pos h1, if_pos h1]
    rfl
  · rw [if_neg h1, if_neg h1]
    by_cases h2 : a = 99
    · rw [if_pos h2, if_pos h2]
      simp (disch := (first | assumption | omega)) only [lk_146_1, li_1, e_ai, w1, m_ret]
    · rw [if_neg h2, if_neg h2]
      have e : 10 + 7 * a + 1 = 11 + 7 * a := by omega
      simp (disch := (first | assumption | omega)) only [li_1, ofStone_eq hW, e]
theorem yOf_leQ {w : Nat → Nat} (hG : GoodQ w) {a : Nat} (ha : a < w 3 ∨ a = 98 ∨ a = 99) : yOf w a ≤ 12 := by
  have g := good_wideQ hG
  unfold yOf
  split
  · omega
  · split
    · omega
    · have := hG.2.2.2.1 a (by omega)
      omega
theorem squares12Q {w : Nat → Nat} {μ : sm_Mem} (hW : WH 147 w μ) (hG : GoodQ w) {a b : Nat} (ha : a < w 3 ∨ a = 98 ∨ a = 99) (hb : b < w 3 ∨ b = 98 ∨ b = 99) : fnX12_squares 146 (nI a) (nI b) μ = some (nI (sq w a b), μ) := by
  have n24 := hG.1.1
  have y1 := yOf_leQ hG ha
  have y2 := yOf_leQ hG hb
  unfold fnX12_squares sq fnX12_squares_J24 fnX12_squares_J41
  simp (disch := (first | assumption | omega)) only [m_bnd, across12Q hW hG ha, across12Q hW hG hb, m_nm, m_br, li_98, nI_leI, nI_ltI, m_ret]
  rw [sub_sq (by omega) (by omega)]
  by_cases h1 : 98 ≤ a
  · rw [if_pos h1, if_pos (Or.inl h1)]
    simp only [li_0, pk_mul, nI_add]
  · rw [if_neg h1]
    by_cases h2 : b < 98
    · have x1 := hG.2.2.2.1 a (by omega)
      have x2 := hG.2.2.2.1 b (by omega)
      have g := good_wideQ hG
      rw [if_pos h2, if_neg (by omega)]
      simp (disch := (first | assumption | omega)) only [li_0, ofStone_eq hW, Nat.add_zero]
      rw [sub_sq (by omega) (by omega), nI_add]
    · rw [if_neg h2, if_pos (Or.inr (by omega))]
      simp only [li_0, pk_mul, nI_add]
theorem sq_leQ {w : Nat → Nat} (hG : GoodQ w) {a b : Nat} (ha : a < w 3 ∨ a = 98 ∨ a = 99) (hb : b < w 3 ∨ b = 98 ∨ b = 99) : sq w a b ≤ 544 := by
  have n24 := hG.1.1
  have g := good_wideQ hG
  have e1 := dd_le (yOf_leQ hG ha) (yOf_leQ hG hb)
  unfold sq
  split
  · omega
  · have x1 := hG.2.2.2.1 a (by omega)
    have x2 := hG.2.2.2.1 b (by omega)
    have e2 := dd_le (a := w (10 + 7 * a)) (b := w (10 + 7 * b)) (m := 20) (by omega) (by omega)
    omega
theorem isStep12Q {w : Nat → Nat} {μ : sm_Mem} (hW : WH 147 w μ) (hG : GoodQ w) {a b r : Nat} (ha : a < w 3 ∨ a = 98 ∨ a = 99) (hb : b < w 3 ∨ b = 98 ∨ b = 99) (hr : r < 100) : fnX12_isStep 146 (nI a) (nI b) (nI r) μ = some (stp w a b r, μ) := by
  have n24 := hG.1.1
  have s1 := sq_leQ hG ha hb
  have hrr : r * r ≤ 100 * 100 := Nat.mul_le_mul (by omega) (by omega)
  unfold fnX12_isStep stp
  simp (disch := (first | assumption | omega)) only [m_bnd, squares12Q hW hG ha hb, m_br, nI_eq, pk_mul, nI_ltI, m_ret]
  by_cases h : a = b
  · rw [if_pos h, decide_eq_false (by simp [h])]
  · rw [if_neg h]
    by_cases h2 : r * r < sq w a b
    · rw [if_pos h2, decide_eq_false (by omega)]
    · rw [if_neg h2, decide_eq_true (by omega)]
theorem leftOf_eqQ {w : Nat → Nat} {μ : sm_Mem} {c s : Nat} (hR : RH 14 w μ) (hS : SH c w μ) (hc : isSc c) (hG : GoodQ w) (hs : s < w 3) : fnX9_leftOf c (nI s) μ = some (nI (lf w s), μ) := by
  obtain ⟨k0, k2, k3, k4, l1, l2, l3⟩ := sc_lk hc
  have n24 := hG.1
  have g := hG.2.2.2.1 s hs
  have r := hR.2.2.2.1 s hs
  have a1 : μ.1 17 s = nI (w (12 + 7 * s)) := r.2.2.1
  have a2 : μ.1 18 s = nI (w (13 + 7 * s)) := r.2.2.2.1
  have b0 := hS.1
  have b1 := hS.2.1 s (by omega)
  have b2 := hS.2.2.1 s hs
  have kl : kc (w (15 + 7 * s)) ≤ 2 := by
    unfold kc
    split <;> omega
  have ke : kc (w (15 + 7 * s)) = 1 ↔ w (15 + 7 * s) = 2 := by
    unfold kc
    split <;> omega
  have e_17 : ln 17 = 24 := rfl
  have e_18 : ln 18 = 24 := rfl
  unfold fnX9_leftOf fnX9_leftOf_J30 fnX9_leftOf_J53 lf
  simp (disch := (first | assumption | omega)) only [m_bnd, m_br, m_gi, m_gl, m_ret, m_nm, e_ai, e_al, e_ap, k0, k2, k3, lk_14_10, lk_14_11, a1, a2, b0, b1, b2, li_0, li_1, nI_leI, nI_ltI, nI_eq, ke, sub_le]
  have fin : ∀ v, v ≤ 9 → (if v ≤ w (16 + 7 * s) then some (nI 0, μ) else some (nI v - nI (w (16 + 7 * s)), μ)) = some (nI (v - w (16 + 7 * s)), μ) := by
    intro v _
    by_cases h : v ≤ w (16 + 7 * s)
    · rw [if_pos h, show v - w (16 + 7 * s) = 0 by omega]
    · rw [if_neg h, pk_sub (by omega)]
  rw [fin 1 (by omega), fin (w (12 + 7 * s)) (by omega)]
  (repeat' split) <;> first | rfl | (exfalso; omega)
theorem inDoubt_eqQ {w : Nat → Nat} {μ : sm_Mem} {c s : Nat} (hR : RH 14 w μ) (hS : SH c w μ) (hc : isSc c) (hG : GoodQ w) (hs : s < w 3) : fnX9_inDoubt c (nI s) μ = some (dbt w s, μ) := by
  obtain ⟨k0, k2, k3, k4, l1, l2, l3⟩ := sc_lk hc
  have n24 := hG.1
  have g := hG.2.2.2.1 s hs
  have a1 : μ.1 19 s = nI (w (14 + 7 * s)) := (hR.2.2.2.1 s hs).2.2.2.2
  have b2 := hS.2.2.1 s hs
  have kl : kc (w (15 + 7 * s)) ≤ 2 := by
    unfold kc
    split <;> omega
  have ke : kc (w (15 + 7 * s)) = 0 ↔ w (15 + 7 * s) = 0 := by
    unfold kc
    split <;> omega
  have e_19 : ln 19 = 24 := rfl
  unfold fnX9_inDoubt dbt
  simp (disch := (first | assumption | omega)) only [m_bnd, m_br, m_gi, m_gl, m_ret, m_nm, e_ai, e_al, e_ap, k0, k2, k3, lk_14_12, a1, b2, li_0, nI_leI, nI_eq, ke]
  by_cases h1 : w (14 + 7 * s) ≤ 0
  · rw [if_pos h1, decide_eq_false (by omega)]
  · rw [if_neg h1]
    by_cases h2 : w (15 + 7 * s) = 0
    · rw [if_pos h2, decide_eq_true (by omega)]
    · rw [if_neg h2, decide_eq_false (by omega)]
theorem bearsNow12Q {w : Nat → Nat} {μ : sm_Mem} {s : Nat} (hW : WH 147 w μ) (hG : GoodQ w) (hs : s < w 3) : fnX12_bearsNow 146 (nI s) μ = some (nI (if w (15 + 7 * s) = 2 then 1 else w (12 + 7 * s)), μ) := by
  have n24 := hG.1
  have g := hG.2.2.2.1 s hs
  have e5 : 10 + 7 * s + 5 = 15 + 7 * s := by omega
  have e2 : 10 + 7 * s + 2 = 12 + 7 * s := by omega
  unfold fnX12_bearsNow
  simp (disch := (first | assumption | omega)) only [m_bnd, m_br, m_gi, m_gl, m_ret, m_nm, e_ai, e_al, e_ap, ofStone_eq hW, li_1, li_2, li_5, e5, e2, nI_eq]
  split <;> rfl
theorem left12Q {w : Nat → Nat} {μ : sm_Mem} {s : Nat} (hW : WH 147 w μ) (hG : GoodQ w) (hs : s < w 3) : fnX12_left 146 (nI s) μ = some (nI (lf w s), μ) := by
  have n24 := hG.1
  have g := hG.2.2.2.1 s hs
  have w7 := wh_lo hW (i := 7) (by omega)
  have e3 : 10 + 7 * s + 3 = 13 + 7 * s := by omega
  have e6 : 10 + 7 * s + 6 = 16 + 7 * s := by omega
  have e_147 : ln 147 = 241 := rfl
  have hb : (if w (15 + 7 * s) = 2 then 1 else w (12 + 7 * s)) ≤ 9 := by split <;> omega
  have n01 : ¬ (1 : Nat) = 0 := by omega
  unfold fnX12_left fnX12_left_J29 fnX12_left_J30 lf
  simp (disch := (first | assumption | omega)) only [m_bnd, m_br, m_gi, m_gl, m_ret, m_nm, e_ai, e_al, e_ap, ofStone_eq hW, bearsNow12Q hW hG hs, li_0, li_1, li_3, li_6, li_7, e3, e6, nI_eq, nI_leI, nI_ltI, lk_146_1, w7, jmax_sub, n01, if_true, if_false]
  (repeat' split) <;> first | rfl | (exfalso; omega)
theorem isInDoubt12Q {w : Nat → Nat} {μ : sm_Mem} {s : Nat} (hW : WH 147 w μ) (hG : GoodQ w) (hs : s < w 3) : fnX12_isInDoubt 146 (nI s) μ = some (dbt w s, μ) := by
  have n24 := hG.1
  have g := hG.2.2.2.1 s hs
  have e4 : 10 + 7 * s + 4 = 14 + 7 * s := by omega
  have e5 : 10 + 7 * s + 5 = 15 + 7 * s := by omega
  unfold fnX12_isInDoubt dbt
  simp (disch := (first | assumption | omega)) only [m_bnd, m_br, m_gi, m_gl, m_ret, m_nm, e_ai, e_al, e_ap, ofStone_eq hW, li_0, li_4, li_5, e4, e5, nI_eq, nI_leI]
  by_cases h1 : w (14 + 7 * s) ≤ 0
  · rw [if_pos h1, decide_eq_false (by omega)]
  · rw [if_neg h1]
    by_cases h2 : w (15 + 7 * s) = 0
    · rw [if_pos h2, decide_eq_true (by omega)]
    · rw [if_neg h2, decide_eq_false (by omega)]
theorem same_stpQ {w w' : Nat → Nat} (h : Same w w') (hG : GoodQ w) {a b : Nat} (ha : a < w 3 ∨ a = 98 ∨ a = 99) (hb : b < w 3 ∨ b = 98 ∨ b = 99) (r : Nat) : stp w' a b r = stp w a b r := by
  have n24 := hG.1.1
  have e1 := h.1 1 (by omega)
  have y : ∀ a, (a < w 3 ∨ a = 98 ∨ a = 99) → yOf w' a = yOf w a := by
    intro a ha
    unfold yOf
    by_cases h1 : a = 98
    · rw [if_pos h1, if_pos h1]
    · rw [if_neg h1, if_neg h1]
      by_cases h2 : a = 99
      · rw [if_pos h2, if_pos h2, e1]
      · rw [if_neg h2, if_neg h2]
        have := h.2.1 a 1 (by omega) (by omega)
        rw [show 11 + 7 * a = 10 + 7 * a + 1 by omega]
        exact this
  unfold stp sq
  rw [y a ha, y b hb]
  by_cases c : 98 ≤ a ∨ 98 ≤ b
  · rw [if_pos c, if_pos c]
  · have x1 := h.2.1 a 0 (by omega) (by omega)
    have x2 := h.2.1 b 0 (by omega) (by omega)
    rw [Nat.add_zero] at x1 x2
    rw [if_neg c, if_neg c, x1, x2]
theorem same_rhQ {w w' : Nat → Nat} (h : Same w w') (hG : GoodQ w) {r : Nat} {μ : sm_Mem} (H : RH r w μ) : RH r w' μ := by
  have n := hG.1
  obtain ⟨⟨a0, a1, a2, a3, a4, a5⟩, b, c, d, e⟩ := H
  have h3 := h.1 3 (by omega)
  have h4 := h.1 4 (by omega)
  unfold RH
  rw [h.1 0 (by omega), h.1 1 (by omega), h.1 2 (by omega), h.1 6 (by omega), h3, h4]
  have st : ∀ s, s < w 3 → ∀ k, k < 5 → w' (10 + k + 7 * s) = w (10 + k + 7 * s) := by
    intro s hs k hk
    have := h.2.1 s k (by omega) hk
    rw [show 10 + k + 7 * s = 10 + 7 * s + k by omega]
    exact this
  have pt : ∀ p, p < w 4 → ∀ k, k < 6 → w' (185 + k + 7 * p) = w (185 + k + 7 * p) := by
    intro s hs k hk
    have := h.2.2 s k (by omega) hk
    rw [show 185 + k + 7 * s = 185 + 7 * s + k by omega]
    exact this
  refine ⟨⟨a0, a1, a2, a3, a4, a5⟩, ?_, ?_, ?_, ?_⟩
  · intro p hp
    rw [b p hp]
    apply decide_eq_decide.mpr
    constructor
    · rintro ⟨q1, q2⟩
      exact ⟨q1, by rw [pt p q1 3 (by omega)]; exact q2⟩
    · rintro ⟨q1, q2⟩
      exact ⟨q1, by rw [pt p q1 3 (by omega)] at q2; exact q2⟩
  · intro p hp
    rw [c p hp]
    apply decide_eq_decide.mpr
    constructor
    · rintro ⟨q1, q2⟩
      exact ⟨q1, by rw [pt p q1 4 (by omega)]; exact q2⟩
    · rintro ⟨q1, q2⟩
      exact ⟨q1, by rw [pt p q1 4 (by omega)] at q2; exact q2⟩
  · intro s hs
    rw [st s hs 0 (by omega), st s hs 1 (by omega), st s hs 2 (by omega), st s hs 3 (by omega), st s hs 4 (by omega)]
    exact d s hs
  · intro p hp
    rw [pt p hp 0 (by omega), pt p hp 1 (by omega), pt p hp 2 (by omega), pt p hp 5 (by omega)]
    exact e p hp
theorem same_lksQ {w w' : Nat → Nat} (h : Same w w') (hG : GoodQ w) {μ : sm_Mem} (H : LKS w μ) : LKS w' μ := by
  have h3 := h.1 3 (by omega)
  intro r r1 r2 s hs
  obtain ⟨a, b, c⟩ := H r r1 r2 s hs
  unfold adw
  rw [h3]
  refine ⟨?_, ?_, ?_⟩
  · rw [a]
    by_cases q : s < w 3
    · rw [same_stpQ h hG (Or.inr (Or.inl rfl)) (Or.inl q)]
    · rw [decide_eq_false q, Bool.false_and, Bool.false_and]
  · rw [b]
    by_cases q : s < w 3
    · rw [same_stpQ h hG (Or.inl q) (Or.inr (Or.inr rfl))]
    · rw [decide_eq_false q, Bool.false_and, Bool.false_and]
  · intro t ht
    rw [c t ht]
    unfold adw
    by_cases q : t < w 3 ∧ s < w 3
    · rw [same_stpQ h hG (Or.inl q.1) (Or.inl q.2)]
    · rw [decide_eq_false q, Bool.false_and, Bool.false_and]
theorem openFor_LQ {c wt : Nat} {w : Nat → Nat} {μ : sm_Mem} (hR : RH 14 w μ) (hS : SH c w μ) (hc : isSc c) (hG : GoodQ w) (hw : wt < 100) : ∀ f s, w 3 - s < f → s ≤ w 3 → fnX9_openFor_L4 f c (nI wt) (mk (opn w wt) s) (nI s) μ = some (mk (opn w wt) (w 3), μ) := by
  obtain ⟨k0, k2, k3, k4, l1, l2, l3⟩ := sc_lk hc
  have n := hG.1
  have r4 := hR.1.2.2.2.2.1
  intro f
  induction f with
  | zero =>
    intro p h
    omega
  | succ f ih =>
    intro s hf hs
    unfold fnX9_openFor_L4 fnX9_openFor_J30
    simp (disch := (first | assumption | omega)) only [m_gi, k0, r4, m_br, nI_leI, m_ret, m_bnd]
    by_cases q : w 3 ≤ s
    · have : s = w 3 := by omega
      rw [if_pos q, this]
    · have lfl := lf_leQ hG (s := s) (by omega)
      rw [if_neg q, leftOf_eqQ hR hS hc hG (by omega)]
      have hh := ih (s + 1) (by omega) (by omega)
      rw [mk_succ] at hh
      simp (disch := (first | assumption | omega)) only [m_br, nI_ltI, e_nm, nI_1]
      by_cases c1 : lf w s < wt
      · have : opn w wt s = false := by
          unfold opn
          exact decide_eq_false (by omega)
        rw [this, if_neg (by decide)] at hh
        rw [if_pos c1]
        exact hh
      · have : opn w wt s = true := by
          unfold opn
          exact decide_eq_true (by omega)
        rw [this, if_pos rfl] at hh
        rw [if_neg c1]
        exact hh
theorem openFor_eqQ {c wt : Nat} {w : Nat → Nat} {μ : sm_Mem} (hR : RH 14 w μ) (hS : SH c w μ) (hc : isSc c) (hG : GoodQ w) (hw : wt < 100) : fnX9_openFor c (nI wt) μ = some (mk (opn w wt) (w 3), μ) := by
  have n := hG.1
  unfold fnX9_openFor
  exact openFor_LQ hR hS hc hG hw 4096 0 (by omega) (by omega)
theorem flood_LQ {w : Nat → Nat} {op : Nat → Bool} {r : Nat} {om : Int32} {μ : sm_Mem} (hL : LKS w μ) (hG : GoodQ w) (hr : 1 ≤ r) (hr9 : r ≤ 9) (hom : ∀ i, i < 32 → bt om i = (decide (i < w 3) && op i)) :
    ∀ (f k : Nat) (R D : Int32), 24 - k < f → k ≤ 24 → (∀ i, i < 32 → bt R i = true → rch w op r i = true ∧ op i = true) → (∀ i, i < w 3 → op i = true → stp w 98 i r = true → bt R i = true) → (∀ i, i < 32 → bt D i = true → bt R i = true) → (∀ s t, s < 24 → bt R s = true → bt D s = false → t < w 3 → op t = true → stp w s t r = true → bt R t = true) → fb_ct (fun i => bt R i && !bt D i) 24 = k →
    fnX3_flood_L15 f 32 om (nI r) R D (nI k) μ = some (mk (rch w op r) (w 3), μ) := by
  have n := hG.1
  have e_35 : ln 35 = 240 := rfl
  have fin : ∀ R : Int32, (∀ i, i < 32 → bt R i = true → rch w op r i = true ∧ op i = true) → (∀ i, i < w 3 → op i = true → stp w 98 i r = true → bt R i = true) → (∀ s t, s < 24 → bt R s = true → t < w 3 → op t = true → stp w s t r = true → bt R t = true) → R = mk (rch w op r) (w 3) := by
    intro R h1 h2 h3
    apply b_ext
    intro i hi
    rw [bt_mk _ _ (by omega) i hi]
    have := rch_set (w := w) (op := op) (r := r) (R := fun s => decide (s < 32) && bt R s) (fun s hs => by
      simp only [Bool.and_eq_true, decide_eq_true_eq] at hs
      exact (h1 s hs.1 hs.2).1) (fun s a b c => by
      simp only [Bool.and_eq_true, decide_eq_true_eq]
      exact ⟨by omega, h2 s a b c⟩) (fun s t a b c d e => by
      simp only [Bool.and_eq_true, decide_eq_true_eq] at b ⊢
      exact ⟨by omega, h3 s t (by omega) b.2 c d e⟩) i
    simp only [hi, decide_true, Bool.true_and] at this
    rw [this]
    by_cases q : i < w 3
    · simp [q]
    · have : rch w op r i = false := by
        cases hq : rch w op r i
        · rfl
        · exact absurd (rch_t.mp hq).1 q
      rw [this]
      simp
  intro f
  induction f with
  | zero =>
    intro k R D h
    omega
  | succ f ih =>
    intro k R D hf hk h1 h2 h3 h4 h5
    unfold fnX3_flood_L15
    simp (disch := (first | assumption | omega)) only [m_br, li_24, nI_leI, m_ret]
    by_cases c : 24 ≤ k
    · rw [if_pos c]
      have hall : ∀ i, i < 24 → (bt R i && !bt D i) = true := fb_ct_all.mp (by omega)
      rw [← fin R h1 h2 (fun s t hs hR ht ho hst => h4 s t hs hR (by
        have := hall s hs
        simp only [Bool.and_eq_true, Bool.not_eq_true'] at this
        exact this.2) ht ho hst)]
    · rw [if_neg c]
      by_cases cD : D = 0
      · rw [if_pos cD]
        rw [← fin R h1 h2 (fun s t hs hR ht ho hst => h4 s t hs hR (by rw [cD]; exact b_0 s) ht ho hst)]
      · rw [if_neg cD]
        obtain ⟨s, hs, d1, d2⟩ := k_low cD
        have hRs := h3 s hs d1
        have hsw := (rch_t.mp (h1 s hs hRs).1).1
        simp (disch := (first | assumption | omega)) only [m_bnd, ntz_eq hs d1 d2, lk_32_2, pk_mul, nI_add]
        rw [e_ai (by omega)]
        simp only [e_nm, nI_1]
        have hcome : ∀ i, i < 32 → bt ((μ.1 35 (r * 24 + s) &&& om) &&& (R ^^^ (-1 : Int32))) i = (adw w r s i && op i && !bt R i) := by
          intro i hi
          rw [b_and, b_and, k_not _ hi, hom i hi, show r * 24 + s = 24 * r + s by omega, (hL r hr hr9 i hi).2.2 s (by omega)]
          unfold adw
          by_cases q : i < w 3
          · simp [q, hsw]
          · simp [q]
        generalize ((μ.1 35 (r * 24 + s) &&& om) &&& (R ^^^ (-1 : Int32))) = C at hcome
        have hD' : ∀ i, i < 32 → bt ((D &&& (D - (1 : Int32))) ||| C) i = ((bt D i && decide (i ≠ s)) || bt C i) := by
          intro i hi
          rw [b_or, k_clear hs d1 d2 hi]
        have hC1 : ∀ i, i < 32 → bt C i = true → (i < w 3 ∧ stp w s i r = true) ∧ op i = true ∧ bt R i = false := by
          intro i hi hc
          rw [hcome i hi] at hc
          unfold adw at hc
          simp only [Bool.and_eq_true, decide_eq_true_eq, Bool.not_eq_true'] at hc
          exact ⟨⟨hc.1.1.1.2, hc.1.1.2⟩, hc.1.2, hc.2⟩
        refine ih (k + 1) (R ||| C) _ (by omega) (by omega) ?_ ?_ ?_ ?_ ?_
        · intro i hi hb
          rw [b_or, Bool.or_eq_true] at hb
          rcases hb with hb | hb
          · exact h1 i hi hb
          · obtain ⟨⟨q1, q2⟩, q3, q4⟩ := hC1 i hi hb
            exact ⟨rch_s (h1 s hs hRs).1 q1 q3 q2, q3⟩
        · intro i hi ho hst
          rw [b_or, h2 i hi ho hst]
          rfl
        · intro i hi hb
          rw [hD' i hi, Bool.or_eq_true] at hb
          rw [b_or, Bool.or_eq_true]
          rcases hb with hb | hb
          · simp only [Bool.and_eq_true] at hb
            exact Or.inl (h3 i hi hb.1)
          · exact Or.inr hb
        · intro x t hx hb hd ht ho hst
          rw [hD' x (by omega)] at hd
          simp only [Bool.or_eq_false_iff] at hd
          rw [b_or, hd.2, Bool.or_false] at hb
          rw [b_or, Bool.or_eq_true]
          by_cases e : x = s
          · subst e
            cases hRt : bt R t
            · refine Or.inr ?_
              rw [hcome t (by omega), hRt]
              unfold adw
              simp [hsw, ht, ho, hst]
            · exact Or.inl rfl
          · refine Or.inl (h4 x t hx hb ?_ ht ho hst)
            have := hd.1
            simpa [e] using this
        · have e : fb_ct (fun i => bt (R ||| C) i && !bt ((D &&& (D - (1 : Int32))) ||| C) i) 24 = fb_ct (fun i => if i = s then true else (bt R i && !bt D i)) 24 := by
            apply fb_ct_cong
            intro i hi
            rw [b_or, hD' i (by omega)]
            by_cases e : i = s
            · subst e
              rw [if_pos rfl, hRs]
              have : bt C i = false := by
                cases hq : bt C i
                · rfl
                · have := (hC1 i (by omega) hq).2.2
                  rw [hRs] at this
                  cases this
              simp [this]
            · rw [if_neg e]
              cases hq : bt C i
              · simp [e]
              · have := (hC1 i (by omega) hq).2.2
                simp [this]
          rw [e]
          have u := fb_ct_upd (fun i => bt R i && !bt D i) true (i := s) (n := 24) (by omega)
          rw [h5] at u
          simp only [hRs, d1, Bool.not_true, Bool.and_false, if_true] at u
          simpa using u
theorem flood_eqQ {w : Nat → Nat} {op : Nat → Bool} {r : Nat} {om : Int32} {μ : sm_Mem} (hL : LKS w μ) (hG : GoodQ w) (hr : 1 ≤ r) (hr9 : r ≤ 9) (hom : ∀ i, i < 32 → bt om i = (decide (i < w 3) && op i)) : fnX3_flood 32 om (nI r) μ = some (mk (rch w op r) (w 3), μ) := by
  have n := hG.1
  have e_33 : ln 33 = 10 := rfl
  have hb : ∀ i, i < 32 → bt (μ.1 33 r &&& om) i = (decide (i < w 3) && (stp w 98 i r && op i)) := by
    intro i hi
    rw [b_and, (hL r hr hr9 i hi).1, hom i hi]
    cases decide (i < w 3) <;> simp
  unfold fnX3_flood
  rw [lk_32_0, e_ai (by omega), e_nm]
  refine flood_LQ hL hG hr hr9 hom 4096 0 _ _ (by omega) (by omega) ?_ ?_ (fun _ _ h => h) ?_ ?_
  · intro i hi h
    rw [hb i hi] at h
    simp only [Bool.and_eq_true, decide_eq_true_eq] at h
    exact ⟨rch_0 h.1 h.2.2 h.2.1, h.2.2⟩
  · intro i hi ho hst
    rw [hb i (by omega), decide_eq_true hi, hst, ho]
    rfl
  · intro s t hs h1 h2
    rw [h1] at h2
    cases h2
  · apply fb_ct_zero.mpr
    intro k _
    cases bt (μ.1 33 r &&& om) k <;> rfl
theorem opn_homQ {w : Nat → Nat} (hG : GoodQ w) (wt : Nat) : ∀ i, i < 32 → bt (mk (opn w wt) (w 3)) i = (decide (i < w 3) && opn w wt i) := fun i hi => bt_mk _ _ (by have := hG.1; omega) i hi
theorem reach60Q {w : Nat → Nat} {μ : sm_Mem} (hW : WH 147 w μ) (hG : GoodQ w) {k4 : Nat → Int32 → Int32 → Int32 → sm_M Int32} {k13 : Nat → Int32 → Int32 → Int32 → Int32 → sm_M Int32} {r s : Nat} (hr : r ≤ 9) (hs : s < w 3) {R v3 : Int32} : ∀ (f q : Nat) (b : Bool), w 3 - q < f → q ≤ w 3 → ∃ b', fnX12_reachOf_L60 k4 k13 f 146 (nI r) R v3 (nI s) (bI b) (nI q) μ = fnX12_reachOf_J111 k4 k13 146 (nI r) R v3 (nI s) (bI b') μ ∧ (b' = true ↔ b = true ∨ ∃ q', q ≤ q' ∧ q' < w 3 ∧ bt R q' = true ∧ stp w q' s r = true) := by
  have n := hG.1
  have e_147 : ln 147 = 241 := rfl
  have w3 := wh_lo hW (i := 3) (by omega)
  intro f
  induction f with
  | zero =>
    intro q b h
    omega
  | succ f ih =>
    intro q b hf hq
    unfold fnX12_reachOf_L60
    simp (disch := (first | assumption | omega)) only [lk_146_1, li_3, e_ai, w3, m_br, nI_leI]
    by_cases c : w 3 ≤ q
    · rw [if_pos c]
      exact ⟨b, rfl, fun h => Or.inl h, fun h => by
        rcases h with h | ⟨q', h1, h2, -⟩
        · exact h
        · omega⟩
    · rw [if_neg c]
      cases b
      · rw [if_pos (by decide)]
        simp only [m_br, k_t1 R (show q < 32 by omega)]
        by_cases c1 : bt R q = true
        · rw [if_pos c1]
          simp (disch := (first | assumption | omega)) only [m_bnd, isStep12Q hW hG (a := q) (b := s) (r := r) (Or.inl (by omega)) (Or.inl hs) (by omega), m_br, bI_0]
          cases hst : stp w q s r
          · rw [if_pos rfl]
            obtain ⟨b', e, hb⟩ := ih (q + 1) false (by omega) (by omega)
            refine ⟨b', ?_, hb.trans ⟨fun h => ?_, fun h => ?_⟩⟩
            · unfold fnX12_reachOf_J102 fnX12_reachOf_J103
              rw [nI_1]
              exact e
            · rcases h with h | ⟨q', h1, h2, h3⟩
              · exact Or.inl h
              · exact Or.inr ⟨q', by omega, h2, h3⟩
            · rcases h with h | ⟨q', h1, h2, h3, h4⟩
              · exact Or.inl h
              · refine Or.inr ⟨q', ?_, h2, h3, h4⟩
                by_cases e : q' = q
                · subst e
                  rw [hst] at h4
                  cases h4
                · omega
          · rw [if_neg (by decide)]
            obtain ⟨b', e, hb⟩ := ih (q + 1) true (by omega) (by omega)
            refine ⟨b', ?_, hb.trans ⟨fun _ => Or.inr ⟨q, by omega, by omega, c1, hst⟩, fun _ => Or.inl rfl⟩⟩
            unfold fnX12_reachOf_J103
            rw [nI_1]
            exact e
        · rw [if_neg c1]
          obtain ⟨b', e, hb⟩ := ih (q + 1) false (by omega) (by omega)
          refine ⟨b', ?_, hb.trans ⟨fun h => ?_, fun h => ?_⟩⟩
          · unfold fnX12_reachOf_J102 fnX12_reachOf_J103
            rw [nI_1]
            exact e
          · rcases h with h | ⟨q', h1, h2, h3⟩
            · exact Or.inl h
            · exact Or.inr ⟨q', by omega, h2, h3⟩
          · rcases h with h | ⟨q', h1, h2, h3, h4⟩
            · exact Or.inl h
            · refine Or.inr ⟨q', ?_, h2, h3, h4⟩
              by_cases e : q' = q
              · subst e
                exact absurd h3 c1
              · omega
      · rw [if_neg (by decide)]
        exact ⟨true, rfl, fun _ => Or.inl rfl, fun _ => rfl⟩
theorem reach13Q {w : Nat → Nat} {μ : sm_Mem} (hW : WH 147 w μ) (hG : GoodQ w) {k4 : Nat → Int32 → Int32 → Int32 → sm_M Int32} {r : Nat} (hr : r ≤ 9) : ∀ (f s : Nat) (R : Int32) (m : Bool), w 3 - s < f → s ≤ w 3 → (∀ i, i < 32 → bt R i = true → rch w (opn w 1) r i = true) →
    ∃ R' m', fnX12_reachOf_L13 k4 f 146 (nI r) R (bI m) (nI s) μ = k4 146 (nI r) R' (bI m') μ ∧ (∀ i, i < 32 → bt R' i = true → rch w (opn w 1) r i = true) ∧ fb_ct (bt R) 24 ≤ fb_ct (bt R') 24 ∧ (m' = false → R' = R ∧ m = false ∧ ∀ t, s ≤ t → t < w 3 → bt R t = false → opn w 1 t = true → stp w 98 t r = false ∧ ∀ q, q < w 3 → bt R q = true → stp w q t r = false) ∧ (m' = true → m = true ∨ fb_ct (bt R) 24 < fb_ct (bt R') 24) := by
  have n := hG.1
  have e_147 : ln 147 = 241 := rfl
  have w3 := wh_lo hW (i := 3) (by omega)
  intro f
  induction f with
  | zero =>
    intro s R m h
    omega
  | succ f ih =>
    intro s R m hf hs hR
    unfold fnX12_reachOf_L13
    simp (disch := (first | assumption | omega)) only [lk_146_1, li_3, e_ai, w3, m_br, nI_leI]
    by_cases c : w 3 ≤ s
    · rw [if_pos c]
      exact ⟨R, m, rfl, hR, Nat.le_refl _, fun h => ⟨rfl, h, fun t h1 h2 => by omega⟩, fun h => Or.inl h⟩
    · rw [if_neg c]
      simp only [k_t1 R (show s < 32 by omega)]
      have i1 : w 3 - (s + 1) < f := by omega
      have i2 : s + 1 ≤ w 3 := by omega
      have skip : (bt R s = true ∨ opn w 1 s = false ∨ (stp w 98 s r = false ∧ ∀ q, q < w 3 → bt R q = true → stp w q s r = false)) → ∃ R' m', fnX12_reachOf_J128 k4 (fnX12_reachOf_L13 k4 f) 146 (nI r) R (bI m) (nI s) μ = k4 146 (nI r) R' (bI m') μ ∧ (∀ i, i < 32 → bt R' i = true → rch w (opn w 1) r i = true) ∧ fb_ct (bt R) 24 ≤ fb_ct (bt R') 24 ∧ (m' = false → R' = R ∧ m = false ∧ ∀ t, s ≤ t → t < w 3 → bt R t = false → opn w 1 t = true → stp w 98 t r = false ∧ ∀ q, q < w 3 → bt R q = true → stp w q t r = false) ∧ (m' = true → m = true ∨ fb_ct (bt R) 24 < fb_ct (bt R') 24) := by
        intro hsk
        obtain ⟨R', m', e, a1, a2, a3, a4⟩ := ih (s + 1) R m (by omega) (by omega) hR
        refine ⟨R', m', ?_, a1, a2, fun h => ?_, a4⟩
        · unfold fnX12_reachOf_J128
          rw [nI_1]
          exact e
        · obtain ⟨b1, b2, b3⟩ := a3 h
          refine ⟨b1, b2, fun t h1 h2 h3 h4 => ?_⟩
          by_cases e : t = s
          · subst e
            rcases hsk with q | q | q
            · rw [h3] at q
              cases q
            · rw [h4] at q
              cases q
            · exact q
          · exact b3 t (by omega) h2 h3 h4
      by_cases c1 : bt R s = true
      · rw [if_pos c1]
        exact skip (Or.inl c1)
      · rw [if_neg c1]
        have lfl := lf_leQ hG (s := s) (by omega)
        simp (disch := (first | assumption | omega)) only [m_bnd, left12Q hW hG (show s < w 3 by omega), m_br, li_0, nI_eq]
        by_cases c2 : lf w s = 0
        · rw [if_pos c2]
          refine skip (Or.inr (Or.inl ?_))
          unfold opn
          exact decide_eq_false (by omega)
        · rw [if_neg c2]
          have hop : opn w 1 s = true := by
            unfold opn
            exact decide_eq_true (by omega)
          simp (disch := (first | assumption | omega)) only [li_98, isStep12Q hW hG (a := 98) (b := s) (r := r) (Or.inr (Or.inl rfl)) (Or.inl (show s < w 3 by omega)) (by omega)]
          obtain ⟨b', e', hb'⟩ := reach60Q hW hG (k4 := k4) (k13 := fnX12_reachOf_L13 k4 f) hr (show s < w 3 by omega) (R := R) (v3 := bI m) 4096 0 (stp w 98 s r) (by omega) (by omega)
          rw [e']
          unfold fnX12_reachOf_J111
          simp only [m_br, bI_0]
          cases b'
          · rw [if_pos rfl]
            refine skip (Or.inr (Or.inr ⟨?_, ?_⟩))
            · cases hq : stp w 98 s r
              · rfl
              · exact absurd (hb'.mpr (Or.inl hq)) (by decide)
            · intro q hq hRq
              cases hst : stp w q s r
              · rfl
              · exact absurd (hb'.mpr (Or.inr ⟨q, by omega, hq, hRq, hst⟩)) (by decide)
          · rw [if_neg (by decide), e_nm]
            unfold fnX12_reachOf_J128
            rw [nI_1]
            have hnew : ∀ i, i < 32 → bt (R ||| ((1 : Int32) <<< (nI s &&& 31))) i = (bt R i || decide (i = s)) := by
              intro i hi
              rw [b_or, k_1 s (by omega) i hi]
            have hrs : rch w (opn w 1) r s = true := by
              rcases hb'.mp rfl with h | ⟨q, -, hq, hRq, hst⟩
              · exact rch_0 (by omega) hop h
              · exact rch_s (hR q (by omega) hRq) (by omega) hop hst
            obtain ⟨R', m', e, a1, a2, a3, a4⟩ := ih (s + 1) (R ||| ((1 : Int32) <<< (nI s &&& 31))) true i1 i2 (by
              intro i hi hb
              rw [hnew i hi, Bool.or_eq_true, decide_eq_true_eq] at hb
              rcases hb with hb | rfl
              · exact hR i hi hb
              · exact hrs)
            have hct : fb_ct (bt R) 24 < fb_ct (bt (R ||| ((1 : Int32) <<< (nI s &&& 31)))) 24 := by
              have e1 : fb_ct (bt (R ||| ((1 : Int32) <<< (nI s &&& 31)))) 24 = fb_ct (fun i => if i = s then true else bt R i) 24 := by
                apply fb_ct_cong
                intro i hi
                rw [hnew i (by omega)]
                by_cases e : i = s
                · simp [e]
                · simp [e]
              have u := fb_ct_upd (bt R) true (i := s) (n := 24) (by omega)
              have c1' : bt R s = false := by simpa using c1
              rw [c1'] at u
              simp only [Bool.false_eq_true, if_false, if_true, Nat.add_zero] at u
              rw [e1, u]
              exact Nat.lt_succ_self _
            refine ⟨R', m', e, a1, by omega, fun h => ?_, fun h => Or.inr (by omega)⟩
            have := (a3 h).2.1
            cases this
theorem reach4Q {w : Nat → Nat} {μ : sm_Mem} (hW : WH 147 w μ) (hG : GoodQ w) {r : Nat} (hr : r ≤ 9) : ∀ (f : Nat) (R : Int32), 25 - fb_ct (bt R) 24 < f → (∀ i, i < 32 → bt R i = true → rch w (opn w 1) r i = true) → fnX12_reachOf_L4 f 146 (nI r) R (bI true) μ = some (mk (rch w (opn w 1) r) (w 3), μ) := by
  have n := hG.1
  intro f
  induction f with
  | zero =>
    intro R h
    omega
  | succ f ih =>
    intro R hf hR
    have hle := fb_ct_le (bt R) 24
    unfold fnX12_reachOf_L4
    simp only [m_br]
    rw [if_neg (by decide)]
    obtain ⟨R', m', e, a1, a2, a3, a4⟩ := reach13Q hW hG (k4 := fnX12_reachOf_L4 f) hr 4096 0 R false (by omega) (by omega) hR
    rw [show fnX12_reachOf_L13 (fnX12_reachOf_L4 f) 4096 146 (nI r) R (0 : Int32) (0 : Int32) μ = _ from e]
    cases m'
    · obtain ⟨rfl, -, b3⟩ := a3 rfl
      cases f with
      | zero => omega
      | succ f =>
        unfold fnX12_reachOf_L4
        simp only [m_br]
        rw [if_pos (by decide)]
        have : R' = mk (rch w (opn w 1) r) (w 3) := by
          apply b_ext
          intro i hi
          rw [bt_mk _ _ (by omega) i hi]
          have := rch_set (w := w) (op := opn w 1) (r := r) (R := fun s => decide (s < 32) && bt R' s) (fun s hs => by
            simp only [Bool.and_eq_true, decide_eq_true_eq] at hs
            exact hR s hs.1 hs.2) (fun s a b c => by
            simp only [Bool.and_eq_true, decide_eq_true_eq]
            refine ⟨by omega, ?_⟩
            cases hq : bt R' s
            · have := (b3 s (by omega) a hq b).1
              rw [c] at this
              cases this
            · rfl) (fun s t a b c d e => by
            simp only [Bool.and_eq_true, decide_eq_true_eq] at b ⊢
            refine ⟨by omega, ?_⟩
            cases hq : bt R' t
            · have := (b3 t (by omega) c hq d).2 s a b.2
              rw [e] at this
              cases this
            · rfl) i
          simp only [hi, decide_true, Bool.true_and] at this
          rw [this]
          by_cases q : i < w 3
          · simp [q]
          · have : rch w (opn w 1) r i = false := by
              cases hq : rch w (opn w 1) r i
              · rfl
              · exact absurd (rch_t.mp hq).1 q
            rw [this]
            simp
        rw [this]
        rfl
    · have : fb_ct (bt R) 24 < fb_ct (bt R') 24 := by
        rcases a4 rfl with h | h
        · cases h
        · exact h
      exact ih R' (by omega) a1
theorem reachOf_eqQ {w : Nat → Nat} {μ : sm_Mem} (hW : WH 147 w μ) (hG : GoodQ w) {r : Nat} (hr : r ≤ 9) : fnX12_reachOf 146 (nI r) μ = some (mk (rch w (opn w 1) r) (w 3), μ) := by
  unfold fnX12_reachOf
  exact reach4Q hW hG hr 4096 0 (by omega) (fun i _ h => by rw [b_0] at h; cases h)
theorem cost_rngQ {w : Nat → Nat} (hG : GoodQ w) {way wt s : Nat} (hs : s < w 3) (hw : 1 ≤ wt) : costW w way s ≤ 10 ∧ (opn w wt s = true → 1 ≤ costW w way s) := by
  have n := hG.1
  have l := lf_leQ hG hs
  have cr : crowd w s ≤ w 4 := fb_ct_le _ _
  unfold costW opn
  constructor
  · repeat' split
    all_goals omega
  · intro h
    have h := of_decide_eq_true h
    repeat' split
    all_goals omega
theorem spread69Q {w : Nat → Nat} (hG : GoodQ w) {op goal bg : Nat → Bool} {c : Nat → Nat} {r : Nat} (hr : 1 ≤ r) (hr9 : r ≤ 9) {bm : Int32} (hop : ∀ x, op x = true → x < w 3) (hbg : ∀ x, x < w 3 → bg x = (op x && bt bm x)) (hcb : ∀ x, x < w 3 → c x ≤ 321) {μ0 : sm_Mem} (hL : LKS w μ0) (hc : ∀ x, x < w 3 → μ0.1 38 x = nI (c x)) :
    ∀ (f k : Nat) (sn td v7 : Int32) (t : Nat → Nat) (μ : sm_Mem), 24 - k < f → k ≤ 24 → (∀ a, a ≠ 39 → μ.1 a = μ0.1 a) → μ.2 = μ0.2 → (∀ x, x < 24 → μ.1 39 x = nI (t x)) →
    (∀ i, i < 32 → bt td i = true → op i = true) → Dj (w 3) op goal (adw w r) c 1048576 (fun x => op x && !bt td x) t → (∀ x, x < 24 → t x ≤ 1048576 ∧ (t x < 1048576 → t x ≤ 321 * (k + 1))) → (∀ x, x < w 3 → op x = true → bt td x = false → t x < 1048576) →
    (∀ i, i < 32 → bt sn i = true → op i = true) → (∀ x, x < w 3 → op x = true → bt td x = true → t x < 1048576 → bt sn x = true) → fb_ct (fun i => op i && !bt td i) 24 = k → (∀ x, x < w 3 → op x = true → bt td x = false → bg x = false) → Lst 1048576 (fun s => decide (s < 32) && bt (sn &&& td) s) t v7 →
    T (fnX10_spread_L69 f 36 (nI r) bm sn td v7 (nI k)) μ (fun _ μ' => (∀ a, a ≠ 39 → μ'.1 a = μ0.1 a) ∧ μ'.2 = μ0.2 ∧ ∃ t', (∀ x, x < 24 → μ'.1 39 x = nI (t' x) ∧ t' x ≤ 1048576) ∧ Spr (w 3) op goal (adw w r) c 1048576 bg t') := by
  have n := hG.1
  have e_35 : ln 35 = 240 := rfl
  intro f
  induction f with
  | zero =>
    intro k sn td v7 t μ h
    omega
  | succ f ih =>
    intro k sn td v7 t μ hf hk ho h2 ht i1 i2 i3 i4 i5 i6 i7 i8 i9
    have spr : ((∀ x, x < w 3 → op x = true → (op x && !bt td x) = false → 1048576 ≤ t x) ∨ ∃ s0, s0 < w 3 ∧ op s0 = true ∧ (op s0 && !bt td s0) = false ∧ bg s0 = true ∧ t s0 < 1048576 ∧ (∀ u, u < w 3 → op u = true → (op u && !bt td u) = false → t s0 ≤ t u) ∧ ∀ u, u < s0 → op u = true → (op u && !bt td u) = false → t s0 < t u) → (∀ a, a ≠ 39 → μ.1 a = μ0.1 a) ∧ μ.2 = μ0.2 ∧ ∃ t', (∀ x, x < 24 → μ.1 39 x = nI (t' x) ∧ t' x ≤ 1048576) ∧ Spr (w 3) op goal (adw w r) c 1048576 bg t' := by
      intro hx
      refine ⟨ho, h2, t, fun x hx => ⟨ht x hx, (i3 x hx).1⟩, (fun x => op x && !bt td x), i2, fun u hu => by have := hcb u hu; omega, ?_, ?_, hx⟩
      · intro u q hu hq hS
        simp only [Bool.and_eq_true, Bool.not_eq_true'] at hS
        have a := i4 q hq hS.1 hS.2
        have b := (i3 q (by omega)).2 a
        have d := hcb u hu
        omega
      · intro x hx' hS
        simp only [Bool.and_eq_true, Bool.not_eq_true'] at hS
        exact i8 x hx' hS.1 hS.2
    unfold fnX10_spread_L69
    by_cases c1 : 24 ≤ k
    · rw [t_brT (show (24 : Int32) ≤ nI k from nI_le (a := 24) c1 (by omega)), t_ret]
      refine spr (Or.inl ?_)
      intro x hx ho' hS
      have := fb_ct_all.mp (show fb_ct (fun i => op i && !bt td i) 24 = 24 by omega) x (by omega)
      rw [this] at hS
      cases hS
    rw [t_brF (show ¬ (24 : Int32) ≤ nI k from nI_ge (b := 24) (by omega) (by omega))]
    rcases i9 with ⟨e9, n9⟩ | ⟨s, e9, s32, sm, sB, smin, sfst⟩
    · rw [t_brT (show v7 = (-1 : Int32) from e9), t_ret]
      refine spr (Or.inl ?_)
      intro x hx ho' hS
      rcases Nat.lt_or_ge (t x) 1048576 with q | q
      · have htd : bt td x = true := by
          rw [ho'] at hS
          simpa using hS
        have := n9 x (by
          simp only [Bool.and_eq_true, decide_eq_true_eq]
          exact ⟨by omega, by rw [b_and, i6 x hx ho' htd q, htd]; rfl⟩)
        omega
      · exact q
    · subst e9
      rw [t_brF (show ¬ nI s = (-1 : Int32) from n_m1 (by omega))]
      simp only [Bool.and_eq_true, decide_eq_true_eq] at sm
      have sm2 := sm.2
      rw [b_and, Bool.and_eq_true] at sm2
      have sop := i1 s s32 sm2.2
      have sw := hop s sop
      have unmin : ∀ u, u < w 3 → op u = true → (op u && !bt td u) = false → t s ≤ t u ∧ (u < s → t s < t u) := by
        intro u hu ho' hS
        have htd : bt td u = true := by
          rw [ho'] at hS
          simpa using hS
        rcases Nat.lt_or_ge (t u) 1048576 with q | q
        · have hm : (decide (u < 32) && bt (sn &&& td) u) = true := by
            simp only [Bool.and_eq_true, decide_eq_true_eq]
            exact ⟨by omega, by rw [b_and, i6 u hu ho' htd q, htd]; rfl⟩
          exact ⟨smin u hm, fun h => sfst u h hm⟩
        · omega
      have hSs : (op s && !bt td s) = false := by rw [sm2.2]; simp
      by_cases c2 : bt bm s = true
      · rw [t_brF (by rw [k_t0 bm s32]; simp [c2]), t_ret]
        refine spr (Or.inr ⟨s, sw, sop, hSs, by rw [hbg s sw, sop, c2]; rfl, sB, fun u a b d => (unmin u a b d).1, fun u a b d => (unmin u (by omega) b d).2 a⟩)
      · rw [t_brT (by rw [k_t0 bm s32]; simpa using c2), t_nm, lk_36_2, lk_32_2, li_24, pk_mul, nI_add, t_ai (by omega), t_nm, t_nm]
        have hD := dj_pick i2 sw hSs sB (fun u a b d => (unmin u a b d).1)
        have htd' : ∀ i, i < 32 → bt (td &&& (((1 : Int32) <<< (nI s &&& 31)) ^^^ (-1 : Int32))) i = (bt td i && decide (i ≠ s)) := by
          intro i hi
          rw [b_and, k_not _ hi, k_1 s s32 i hi]
          by_cases e : i = s <;> simp [e]
        generalize td &&& (((1 : Int32) <<< (nI s &&& 31)) ^^^ (-1 : Int32)) = td' at htd'
        have h35 : μ.1 35 = μ0.1 35 := ho 35 (by omega)
        have hC : ∀ i, i < 32 → bt (μ.1 35 (r * 24 + s) &&& td') i = (adw w r s i && (bt td i && decide (i ≠ s))) := by
          intro i hi
          rw [b_and, htd' i hi, h35, show r * 24 + s = 24 * r + s by omega, (hL r hr hr9 i hi).2.2 s (by omega)]
        generalize μ.1 35 (r * 24 + s) &&& td' = C at hC
        have hC2 : ∀ i, i < 32 → bt C i = true → (i < w 3 ∧ i ≠ s) ∧ bt td i = true ∧ adw w r s i = true := by
          intro i hi hb
          rw [hC i hi] at hb
          simp only [Bool.and_eq_true, decide_eq_true_eq] at hb
          exact ⟨⟨hop i (i1 i hi hb.2.1), hb.2.2⟩, hb.2.1, hb.1⟩
        refine spread133 (N := w 3) (t := t) (c := c) (μ0 := μ) n.1 (by omega) (fun i hi hb => (hC2 i hi hb).1) (fun x hx => by rw [ho 38 (by omega)]; exact hc x hx) hcb (fun x hx => (i3 x hx).1) ?_ 4096 0 C μ (by omega) (by omega) (rest_0 C) (fun _ _ => rfl) rfl ?_
        · intro μ1 a1 a2 a3
          generalize ht' : (fun x => if bt C x = true then min (t x) (t s + c x) else t x) = t'
          have a3' : ∀ x, x < 24 → μ1.1 39 x = nI (t' x) := by
            intro x hx
            rw [a3 x hx, ← ht']
          have tle : ∀ x, x < 24 → t' x ≤ 1048576 := by
            intro x hx
            have b1 := (i3 x hx).1
            rw [← ht']
            simp only
            split
            · have := Nat.min_le_left (t x) (t s + c x)
              omega
            · exact b1
          have ts24 := (i3 s (by omega)).2 sB
          obtain ⟨v, e, hv⟩ := least_eq (m := (sn ||| C) &&& td') a3' tle (fun i h1 h2 => by
            rw [b_and, htd' i h2]
            have : bt td i = false := by
              cases q : bt td i
              · rfl
              · have := hop i (i1 i h2 q)
                omega
            rw [this]
            simp)
          unfold fnX10_spread_J189
          rw [t_bnd, t_eq e, nI_1]
          refine ih (k + 1) (sn ||| C) td' v t' μ1 (by omega) (by omega) (fun a ha => (a1 a ha).trans (ho a ha)) (a2.trans h2) a3' ?_ ?_ ?_ ?_ ?_ ?_ ?_ ?_ hv
          · intro i hi hb
            rw [htd' i hi] at hb
            simp only [Bool.and_eq_true] at hb
            exact i1 i hi hb.1
          · refine dj_relax (fun a b => by unfold adw; rw [stp_comm w a b r]; congr 1; apply decide_eq_decide.mpr; omega) i2 sw hD ?_ ?_
            · intro x hx
              rw [htd' x (by omega)]
              by_cases e : x = s
              · simp [e, sop]
              · simp [e]
            · intro x hx
              rw [← ht']
              simp only
              by_cases q : bt C x = true
              · obtain ⟨⟨q1, q2⟩, q3, q4⟩ := hC2 x (by omega) q
                have qo := i1 x (by omega) q3
                rw [if_pos q, if_pos ⟨qo, by rw [htd' x (by omega), q3]; simp [q2], q4⟩]
              · rw [if_neg q, if_neg]
                rintro ⟨z1, z2, z3⟩
                apply q
                rw [hC x (by omega), z3]
                rw [htd' x (by omega), z1] at z2
                simpa using z2
          · intro x hx
            refine ⟨tle x hx, ?_⟩
            intro hlt
            rw [← ht'] at hlt ⊢
            simp only at hlt ⊢
            by_cases q : bt C x = true
            · obtain ⟨⟨q1, q2⟩, q3, q4⟩ := hC2 x (by omega) q
              rw [if_pos q]
              have := Nat.min_le_right (t x) (t s + c x)
              have := hcb x q1
              omega
            · rw [if_neg q] at hlt ⊢
              have := (i3 x hx).2 hlt
              omega
          · intro x hx ho' hb
            rw [htd' x (by omega)] at hb
            rw [← ht']
            simp only
            by_cases e : x = s
            · subst e
              rw [if_neg (fun z => (hC2 x (by omega) z).1.2 rfl)]
              exact sB
            · have hb' : bt td x = false := by simpa [e] using hb
              have := i4 x hx ho' hb'
              split
              · have := Nat.min_le_left (t x) (t s + c x)
                omega
              · exact this
          · intro i hi hb
            rw [b_or, Bool.or_eq_true] at hb
            rcases hb with hb | hb
            · exact i5 i hi hb
            · exact i1 i hi (hC2 i hi hb).2.1
          · intro x hx ho' hb hlt
            rw [b_or, Bool.or_eq_true]
            rw [htd' x (by omega)] at hb
            simp only [Bool.and_eq_true] at hb
            rw [← ht'] at hlt
            simp only at hlt
            by_cases q : bt C x = true
            · exact Or.inr q
            · rw [if_neg q] at hlt
              exact Or.inl (i6 x hx ho' hb.1 hlt)
          · have e : fb_ct (fun i => op i && !bt td' i) 24 = fb_ct (fun i => if i = s then true else (op i && !bt td i)) 24 := by
              apply fb_ct_cong
              intro i hi
              rw [htd' i (by omega)]
              by_cases e : i = s
              · simp [e, sop]
              · simp [e]
            rw [e]
            have u := fb_ct_upd (fun i => op i && !bt td i) true (i := s) (n := 24) (by omega)
            rw [i7] at u
            simp only [hSs, Bool.false_eq_true, if_false, if_true, Nat.add_zero] at u
            exact u
          · intro x hx ho' hb
            rw [htd' x (by omega)] at hb
            by_cases e : x = s
            · subst e
              rw [hbg x hx, ho']
              simpa using c2
            · exact i8 x hx ho' (by simpa [e] using hb)
        · intro x hx
          rw [ht x hx, if_neg (by omega)]
theorem spread_TQ {w : Nat → Nat} (hG : GoodQ w) {op goal bg : Nat → Bool} {c : Nat → Nat} {r : Nat} (hr : 1 ≤ r) (hr9 : r ≤ 9) {bm om gm : Int32} (hop : ∀ x, op x = true → x < w 3) (hbg : ∀ x, x < w 3 → bg x = (op x && bt bm x)) (hom : ∀ i, i < 32 → bt om i = op i) (hgo : ∀ x, goal x = true → op x = true) (hgm : ∀ i, i < 32 → bt gm i = goal i) (hcb : ∀ x, x < w 3 → c x ≤ 321) {μ : sm_Mem} (hL : LKS w μ) (hc : ∀ x, x < w 3 → μ.1 38 x = nI (c x)) :
    T (fnX10_spread 36 (nI r) om bm gm) μ (fun _ μ' => (∀ a, a ≠ 39 → μ'.1 a = μ.1 a) ∧ μ'.2 = μ.2 ∧ ∃ t', (∀ x, x < 24 → μ'.1 39 x = nI (t' x) ∧ t' x ≤ 1048576) ∧ Spr (w 3) op goal (adw w r) c 1048576 bg t') := by
  have n := hG.1
  have e_39 : ln 39 = 24 := rfl
  unfold fnX10_spread
  rw [t_bnd, lk_36_4, t_eq (fill_eq _ _ _)]
  refine spread13 (N := w 3) (c := c) (μ0 := μ) n.1 (fun i hi hb => hop i (hgo i (by rw [← hgm i hi]; exact hb))) hc ?_ 4096 0 gm _ (by omega) (by omega) (rest_0 gm) ?_ rfl ?_
  · intro μ1 a1 a2 a3
    generalize ht : (fun x => if bt gm x = true then c x else 1048576) = t
    have a3' : ∀ x, x < 24 → μ1.1 39 x = nI (t x) := by
      intro x hx
      rw [a3 x hx, ← ht]
    have tv : ∀ x, x < 24 → t x = if goal x = true then c x else 1048576 := by
      intro x hx
      rw [← ht]
      simp only
      rw [hgm x (by omega)]
    have tle : ∀ x, x < 24 → t x ≤ 1048576 := by
      intro x hx
      rw [tv x hx]
      split
      · rename_i q
        have := hcb x (hop x (hgo x q))
        omega
      · omega
    obtain ⟨v, e, hv⟩ := least_eq (m := gm) a3' tle (fun i h1 h2 => by
      cases q : bt gm i
      · rfl
      · rw [hgm i h2] at q
        have := hop i (hgo i q)
        omega)
    unfold fnX10_spread_J51
    rw [t_bnd, t_eq e]
    have hgom : ∀ i, i < 32 → bt (gm &&& om) i = bt gm i := by
      intro i hi
      rw [b_and, hom i hi]
      cases q : bt gm i
      · rfl
      · rw [hgm i hi] at q
        rw [hgo i q]
        rfl
    have hS0 : ∀ x, x < 32 → (op x && !bt om x) = false := by
      intro x hx
      rw [hom x hx]
      cases op x <;> rfl
    refine t_mono (spread69Q hG hr hr9 hop hbg hcb (μ0 := μ1) (goal := goal) (lks_fr (fun a q1 q2 => a1 a (by omega)) hL) (fun x hx => by rw [a1 38 (by omega)]; exact hc x hx) 4096 0 gm om v t μ1 (by omega) (by omega) (fun _ _ => rfl) rfl a3' (fun i hi hb => by rw [← hom i hi]; exact hb) ?_ ?_ ?_ (fun i hi hb => hgo i (by rw [← hgm i hi]; exact hb)) ?_ ?_ ?_ ?_) ?_
    · refine ⟨fun s hs hS => ?_, fun s hs hS hlt => ?_, fun s hs ho' hS hg => ?_, fun s q hs ho' hS hq hSq => ?_⟩
      · have hS : (op s && !bt om s) = true := hS
        rw [hS0 s (by omega)] at hS
        cases hS
      · rw [tv s (by omega)] at hlt ⊢
        by_cases q : goal s = true
        · rw [if_pos q]
          exact ⟨0, hs, hgo s q, q, rfl⟩
        · rw [if_neg q] at hlt
          omega
      · rw [tv s (by omega), if_pos hg]
        exact Nat.le_refl _
      · have hSq : (op q && !bt om q) = true := hSq
        rw [hS0 q (by omega)] at hSq
        cases hSq
    · intro x hx
      refine ⟨tle x hx, fun hlt => ?_⟩
      rw [tv x hx] at hlt ⊢
      by_cases q : goal x = true
      · rw [if_pos q]
        have := hcb x (hop x (hgo x q))
        omega
      · rw [if_neg q] at hlt
        omega
    · intro x hx ho' hb
      rw [hom x (by omega), ho'] at hb
      cases hb
    · intro x hx ho' hb hlt
      rw [tv x (by omega)] at hlt
      by_cases q : goal x = true
      · rw [hgm x (by omega)]
        exact q
      · rw [if_neg q] at hlt
        omega
    · exact fb_ct_zero.mpr (fun k hk => hS0 k (by omega))
    · intro x hx ho' hb
      rw [hom x (by omega), ho'] at hb
      cases hb
    · refine lst_cong (fun s => ?_) hv
      by_cases q : s < 32
      · rw [hgom s q]
      · simp [q]
    · rintro - μ2 ⟨b1, b2, b3⟩
      exact ⟨fun a ha => (b1 a ha).trans (a1 a ha), b2.trans a2, b3⟩
  · intro a ha
    simp (disch := omega) only [u1_ne]
  · intro x hx
    rw [if_neg (by omega)]
    simp only [u1_at]
    rw [if_pos (by omega)]
    rfl
theorem walk_LQ {w : Nat → Nat} (hG : GoodQ w) {op goal bg : Nat → Bool} {c : Nat → Nat} (hc1 : ∀ s, s < w 3 → 1 ≤ c s) {r : Nat} (hr : 1 ≤ r) (hr9 : r ≤ 9) {om : Int32} (hop : ∀ x, op x = true → x < w 3) (hom : ∀ i, i < 32 → bt om i = op i) {t : Nat → Nat} (hsp : Spr (w 3) op goal (adw w r) c 1048576 bg t) (hcb : ∀ x, x < w 3 → c x ≤ 321) (htb : ∀ x, x < 24 → t x ≤ 1048576) :
    ∀ (f z s : Nat) (μ : sm_Mem), fb_ct (fun x => decide (t x < t s)) 24 + 1 < f → LKS w μ → (∀ x, x < w 3 → μ.1 38 x = nI (c x)) → (∀ x, x < 24 → μ.1 39 x = nI (t x)) → μ.1 36 1 = nI z → z + fb_ct (fun x => decide (t x < t s)) 24 + 1 ≤ 24 → s < w 3 → Dm (w 3) op goal (adw w r) c s (t s) → t s < 1048576 → (∀ b v, Dm (w 3) op goal (adw w r) c b v → v ≤ t s → t b = v) →
    T (fnX10_walk_L7 f 36 (nI r) om (nI s)) μ (fun _ μ' => ∃ l, RowF (w 3) op goal (adw w r) c s l ∧ z + 1 + l.length ≤ 24 ∧ μ'.1 36 1 = nI (z + 1 + l.length) ∧ (∀ i, i < z → μ'.1 37 i = μ.1 37 i) ∧ μ'.1 37 z = nI s ∧ (∀ i, i < l.length → μ'.1 37 (z + 1 + i) = nI (l.getD i 0)) ∧ (∀ a, a ≠ 36 → a ≠ 37 → μ'.1 a = μ.1 a) ∧ μ'.2 = μ.2) := by
  have n := hG.1
  have e_37 : ln 37 = 24 := rfl
  have e_38 : ln 38 = 24 := rfl
  have e_39 : ln 39 = 24 := rfl
  have e_35 : ln 35 = 240 := rfl
  intro f
  induction f with
  | zero =>
    intro z s μ h
    omega
  | succ f ih =>
    intro z s μ hf hL hc ht hz hzs hs hD hB hsm
    obtain ⟨nx1, nx2⟩ := spr_next hc1 hsp hD hB hsm
    have ts := htb s (by omega)
    have cs := hcb s hs
    unfold fnX10_walk_L7
    rw [t_brF (show ¬ nI s = (-1 : Int32) from n_m1 (by omega)), t_gi, hz, t_brF (show ¬ (24 : Int32) ≤ nI z from nI_ge (b := 24) (by omega) (by omega)), t_gi, hz, lk_36_0, t_sai (by omega), t_gi, t_si]
    have y1 : (u2 μ.1 37 z (nI s), μ.2).1 36 1 = nI z := by
      rw [← hz]
      simp (disch := omega) only [u2_ne, u2_a, u2_k, u2_at]
    rw [y1, nI_1, lk_36_4, t_ai (by omega), lk_36_3, t_ai (by omega)]
    have y2 : (u2 (u2 μ.1 37 z (nI s)) 36 1 (nI (z + 1)), μ.2).1 39 s = nI (t s) := by
      rw [← ht s (by omega)]
      simp (disch := omega) only [u2_ne, u2_a, u2_k, u2_at]
    have y3 : (u2 (u2 μ.1 37 z (nI s)) 36 1 (nI (z + 1)), μ.2).1 38 s = nI (c s) := by
      rw [← hc s hs]
      simp (disch := omega) only [u2_ne, u2_a, u2_k, u2_at]
    rw [y2, y3]
    by_cases cc : t s ≤ c s
    · rw [t_brT (nI_le cc (by omega))]
      unfold fnX10_walk_J85
      cases f with
      | zero => omega
      | succ f =>
        unfold fnX10_walk_L7
        rw [t_brT rfl, t_ret]
        refine ⟨[], nx1 cc, by simp only [List.length_nil]; omega, (by simp (disch := omega) only [u2_ne, u2_a, u2_k, u2_at, List.length_nil, Nat.add_zero]), fun i hi => (by simp (disch := omega) only [u2_ne, u2_a, u2_k, u2_at]), (by simp (disch := omega) only [u2_ne, u2_a, u2_k, u2_at]), fun i hi => absurd hi (by simp), fun a a1 a2 => (by simp (disch := omega) only [u2_ne, u2_a, u2_k, u2_at]), rfl⟩
    · rw [t_brF (nI_ge (by omega) (by omega))]
      obtain ⟨g0, nx3⟩ := nx2 (by omega)
      rw [lk_36_2, lk_32_2, li_24, pk_mul, nI_add, t_ai (by omega)]
      have h35 : (u2 (u2 μ.1 37 z (nI s)) 36 1 (nI (z + 1)), μ.2).1 35 (r * 24 + s) = μ.1 35 (24 * r + s) := by
        rw [show r * 24 + s = 24 * r + s by omega]
        simp (disch := omega) only [u2_ne, u2_a, u2_k, u2_at]
      rw [h35]
      have hC : ∀ i, i < 32 → bt (μ.1 35 (24 * r + s) &&& om) i = (adw w r s i && op i) := by
        intro i hi
        rw [b_and, hom i hi, (hL r hr hr9 i hi).2.2 s (by omega)]
      obtain ⟨v, e, hv⟩ := least_eq (μ := (u2 (u2 μ.1 37 z (nI s)) 36 1 (nI (z + 1)), μ.2)) (m := μ.1 35 (24 * r + s) &&& om) (t := t) (fun x hx => by rw [← ht x hx]; simp (disch := omega) only [u2_ne, u2_a, u2_k, u2_at]) htb (fun i h1 h2 => by
        rw [hC i h2]
        cases q : op i
        · simp
        · have := hop i q
          omega)
      rw [t_bnd, t_eq e]
      unfold fnX10_walk_J85
      obtain ⟨b, rfl, bw, bn, bD, bt'⟩ := nx3 v (lst_cong (fun x => by
        by_cases q : x < 32
        · rw [hC x q]
          by_cases q2 : x < w 3
          · simp [q, q2]
          · have : op x = false := by
              cases q3 : op x
              · rfl
              · exact absurd (hop x q3) q2
            simp [this]
        · have : op x = false := by
            cases q3 : op x
            · rfl
            · have := hop x q3
              omega
          simp [q, this]) hv)
      have cnt : fb_ct (fun x => decide (t x < t b)) 24 + 1 ≤ fb_ct (fun x => decide (t x < t s)) 24 := by
        have u := fb_ct_upd (fun x => decide (t x < t b)) true (i := b) (n := 24) (by omega)
        simp only [Nat.lt_irrefl, decide_false, Bool.false_eq_true, if_false, if_true, Nat.add_zero] at u
        rw [← u]
        apply fb_ct_sub
        intro k hk h
        by_cases e : k = b
        · subst e
          exact decide_eq_true bt'
        · rw [if_neg e] at h
          have h := of_decide_eq_true h
          exact decide_eq_true (by omega)
      refine t_mono (ih (z + 1) b (u2 (u2 μ.1 37 z (nI s)) 36 1 (nI (z + 1)), μ.2) (by omega) (lks_fr (μ := μ) (fun a q1 q2 => (by simp (disch := omega) only [u2_ne, u2_a, u2_k, u2_at])) hL) (fun x hx => by rw [← hc x hx]; simp (disch := omega) only [u2_ne, u2_a, u2_k, u2_at]) (fun x hx => by rw [← ht x hx]; simp (disch := omega) only [u2_ne, u2_a, u2_k, u2_at]) (by simp (disch := omega) only [u2_ne, u2_a, u2_k, u2_at]) (by omega) bw bD (by omega) (fun b' v' h1 h2 => hsm b' v' h1 (by omega))) ?_
      rintro - μ' ⟨l, l1, l2, l3, l4, l5, l6, l7, l8⟩
      refine ⟨b :: l, ⟨g0, bn, l1⟩, by simp only [List.length_cons]; omega, by rw [l3]; congr 1; simp only [List.length_cons]; omega, ?_, ?_, ?_, ?_, l8⟩
      · intro i hi
        rw [l4 i (by omega)]
        simp (disch := omega) only [u2_ne, u2_a, u2_k, u2_at]
      · rw [l4 z (by omega)]
        simp (disch := omega) only [u2_ne, u2_a, u2_k, u2_at]
      · intro i hi
        cases i with
        | zero =>
          rw [Nat.add_zero, l5]
          rfl
        | succ i =>
          simp only [List.length_cons] at hi
          rw [show z + 1 + (i + 1) = z + 1 + 1 + i by omega, l6 i (by omega)]
          rfl
      · intro a a1 a2
        rw [l7 a a1 a2]
        simp (disch := omega) only [u2_ne, u2_a, u2_k, u2_at]
theorem walk_TQ {w : Nat → Nat} (hG : GoodQ w) {op goal bg : Nat → Bool} {c : Nat → Nat} (hc1 : ∀ s, s < w 3 → 1 ≤ c s) {r : Nat} (hr : 1 ≤ r) (hr9 : r ≤ 9) {om bo : Int32} (hop : ∀ x, op x = true → x < w 3) (hom : ∀ i, i < 32 → bt om i = op i) (hbg : ∀ x, bg x = true → op x = true) (hbo : ∀ i, i < 32 → bt bo i = bg i) {t : Nat → Nat} (hsp : Spr (w 3) op goal (adw w r) c 1048576 bg t) (hcb : ∀ x, x < w 3 → c x ≤ 321) (htb : ∀ x, x < 24 → t x ≤ 1048576) {μ : sm_Mem} (hL : LKS w μ) (hc : ∀ x, x < w 3 → μ.1 38 x = nI (c x)) (ht : ∀ x, x < 24 → μ.1 39 x = nI (t x)) (hz : μ.1 36 1 = nI 0) :
    T (fnX10_walk 36 (nI r) om bo) μ (fun _ μ' => ∃ l, IsRow (w 3) op goal bg (adw w r) c l ∧ l.length ≤ 24 ∧ μ'.1 36 1 = nI l.length ∧ (∀ i, i < l.length → μ'.1 37 i = nI (l.getD i 0)) ∧ (∀ a, a ≠ 36 → a ≠ 37 → μ'.1 a = μ.1 a) ∧ μ'.2 = μ.2) := by
  have n := hG.1
  unfold fnX10_walk
  obtain ⟨v, e, hv⟩ := least_eq (m := bo) ht htb (fun i h1 h2 => by
    rw [hbo i h2]
    cases q : bg i
    · rfl
    · have := hop i (hbg i q)
      omega)
  rw [t_bnd, t_eq e]
  have hv' : Lst 1048576 bg t v := lst_cong (fun s => by
    by_cases q : s < 32
    · rw [hbo s q]
      simp [q]
    · cases q2 : bg s
      · simp [q]
      · have := hop s (hbg s q2)
        omega) hv
  rcases spr_begin hc1 (fun s hs => ⟨hop s (hbg s hs), hbg s hs⟩) hsp hv' with ⟨e1, e2⟩ | ⟨s0, rfl, s1, s2, s3, s4, s5⟩
  · subst e1
    unfold fnX10_walk_L7
    rw [t_brT (show mI 1 = (-1 : Int32) from rfl), t_ret]
    exact ⟨[], e2, by simp, hz, fun i hi => absurd hi (by simp), fun _ _ _ => rfl, rfl⟩
  · have c23 : fb_ct (fun x => decide (t x < t s0)) 24 + 1 ≤ 24 := by
      have u := fb_ct_upd (fun x => decide (t x < t s0)) true (i := s0) (n := 24) (by omega)
      simp only [Nat.lt_irrefl, decide_false, Bool.false_eq_true, if_false, if_true, Nat.add_zero] at u
      have := fb_ct_le (fun k => if k = s0 then true else decide (t k < t s0)) 24
      omega
    refine t_mono (walk_LQ hG hc1 hr hr9 hop hom hsp hcb htb 4096 0 s0 μ (by omega) hL hc ht hz (by omega) s1 s3 s4 s5) ?_
    rintro - μ' ⟨l, l1, l2, l3, l4, l5, l6, l7, l8⟩
    refine ⟨s0 :: l, ⟨s2, l1⟩, by simp only [List.length_cons]; omega, by rw [l3]; congr 1; simp only [List.length_cons]; omega, ?_, l7, l8⟩
    intro i hi
    cases i with
    | zero =>
      rw [l5]
      rfl
    | succ i =>
      simp only [List.length_cons] at hi
      rw [show i + 1 = 0 + 1 + i by omega, l6 i (by omega)]
      rw [show 0 + 1 + i = i + 1 by omega]
      rfl
theorem putReached_LQ {w : Nat → Nat} (hG : GoodQ w) {μ0 : sm_Mem} (hR : RH 14 w μ0) (hL : LKS w μ0) : ∀ (f p : Nat) (μ : sm_Mem), w 4 - p < f → p ≤ w 4 → (∀ a, a ≠ 40 → μ.1 a = μ0.1 a) → μ.2 = μ0.2 → (∀ r, r < 10 → μ.1 40 r = (-1 : Int32) ∨ μ.1 40 r = mk (rch w (opn w 1) r) (w 3)) → (∀ q, q < p → μ.1 40 (w (185 + 7 * q)) = mk (rch w (opn w 1) (w (185 + 7 * q))) (w 3)) →
    T (fnX10_putReached_L10 f 36 14 (mk (opn w 1) (w 3)) (nI p)) μ (fun _ μ' => (∀ a, a ≠ 40 → μ'.1 a = μ0.1 a) ∧ μ'.2 = μ0.2 ∧ ∀ q, q < w 4 → μ'.1 40 (w (185 + 7 * q)) = mk (rch w (opn w 1) (w (185 + 7 * q))) (w 3)) := by
  have n := hG.1
  have e_20 : ln 20 = 8 := rfl
  have e_40 : ln 40 = 10 := rfl
  intro f
  induction f with
  | zero =>
    intro p μ h
    omega
  | succ f ih =>
    intro p μ hf hp ho h2 hr hq
    have hR1 : RH 14 w μ := rh_fr (fun a q1 q2 => ho a (by omega)) hR
    have hL1 : LKS w μ := lks_fr (fun a q1 q2 => ho a (by omega)) hL
    have r5 := hR1.1.2.2.2.2.2
    unfold fnX10_putReached_L10
    rw [t_gi, r5]
    by_cases c : w 4 ≤ p
    · have : p = w 4 := by omega
      subst this
      rw [t_brT (nI_le c (by omega)), t_ret]
      exact ⟨ho, h2, hq⟩
    · have g := hG.2.2.2.2.2.2.2.1 p (by omega)
      have x : μ.1 20 p = nI (w (185 + 7 * p)) := (hR1.2.2.2.2 p (by omega)).1
      rw [t_brF (nI_ge (by omega) (by omega)), lk_14_13, t_ai (by omega), x, lk_36_5, t_ai (by omega)]
      by_cases c1 : μ.1 40 (w (185 + 7 * p)) = (-1 : Int32)
      · rw [t_brT c1, lk_36_2, t_bnd, t_eq (flood_eqQ hL1 hG g.1 g.2.1 (opn_homQ hG 1)), t_sai (by omega)]
        unfold fnX10_putReached_J54
        rw [nI_1]
        refine ih (p + 1) _ (by omega) (by omega) ?_ h2 ?_ ?_
        · intro a ha
          rw [← ho a ha]
          simp (disch := omega) only [u2_ne, u2_a, u2_k, u2_at]
        · intro r hr'
          by_cases e : r = w (185 + 7 * p)
          · subst e
            exact Or.inr (by simp (disch := omega) only [u2_ne, u2_a, u2_k, u2_at])
          · simp (disch := omega) only [u2_k]
            exact hr r hr'
        · intro q hq'
          by_cases e : w (185 + 7 * q) = w (185 + 7 * p)
          · rw [e]
            simp (disch := omega) only [u2_ne, u2_a, u2_k, u2_at]
          · simp (disch := omega) only [u2_k]
            refine hq q ?_
            rcases Nat.lt_or_ge q p with z | z
            · exact z
            · have : q = p := by omega
              subst this
              exact absurd rfl e
      · rw [t_brF c1]
        unfold fnX10_putReached_J54
        rw [nI_1]
        refine ih (p + 1) μ (by omega) (by omega) ho h2 hr ?_
        intro q hq'
        by_cases e : q = p
        · subst e
          exact (hr (w (185 + 7 * q)) (by omega)).resolve_left c1
        · exact hq q (by omega)
theorem putReached_TQ {w : Nat → Nat} (hG : GoodQ w) {μ : sm_Mem} (hR : RH 14 w μ) (hL : LKS w μ) : T (fnX10_putReached 36 14 (mk (opn w 1) (w 3))) μ (fun _ μ' => (∀ a, a ≠ 40 → μ'.1 a = μ.1 a) ∧ μ'.2 = μ.2 ∧ ∀ q, q < w 4 → μ'.1 40 (w (185 + 7 * q)) = mk (rch w (opn w 1) (w (185 + 7 * q))) (w 3)) := by
  have n := hG.1
  have e_40 : ln 40 = 10 := rfl
  unfold fnX10_putReached
  rw [t_bnd, lk_36_5, t_eq (fill_eq _ _ _)]
  refine t_mono (putReached_LQ hG (μ0 := (u1 μ.1 40 (fun k => if k < ln 40 then (-1 : Int32) else μ.1 40 k), μ.2)) (rh_fr (μ := μ) (fun a q1 q2 => by simp (disch := omega) only [u1_ne]) hR) (lks_fr (μ := μ) (fun a q1 q2 => by simp (disch := omega) only [u1_ne]) hL) 4096 0 _ (by omega) (by omega) (fun _ _ => rfl) rfl ?_ (fun q hq => absurd hq (by omega))) ?_
  · intro r hr
    left
    simp only [u1_at]
    rw [if_pos (by omega)]
  · rintro - μ' ⟨a1, a2, a3⟩
    refine ⟨fun a ha => ?_, a2, a3⟩
    rw [a1 a ha]
    simp (disch := omega) only [u1_ne]
theorem crowd_LQ {w : Nat → Nat} (hG : GoodQ w) {μ : sm_Mem} (hR : RH 14 w μ) (h40 : ∀ q, q < w 4 → μ.1 40 (w (185 + 7 * q)) = mk (rch w (opn w 1) (w (185 + 7 * q))) (w 3)) {s : Nat} (hs : s < w 3) : ∀ f p, w 4 - p < f → p ≤ w 4 → fnX10_crowd_L5 f 36 14 (nI s) (nI (fb_ct (fun p => rch w (opn w 1) (w (185 + 7 * p)) s) p)) (nI p) μ = some (nI (crowd w s), μ) := by
  have n := hG.1
  have e_20 : ln 20 = 8 := rfl
  have e_40 : ln 40 = 10 := rfl
  have r5 := hR.1.2.2.2.2.2
  intro f
  induction f with
  | zero =>
    intro p h
    omega
  | succ f ih =>
    intro p hf hp
    unfold fnX10_crowd_L5
    simp (disch := (first | assumption | omega)) only [m_gi, r5, m_br, nI_leI, m_ret]
    by_cases c : w 4 ≤ p
    · have : p = w 4 := by omega
      rw [if_pos c, this]
      rfl
    · have g := hG.2.2.2.2.2.2.2.1 p (by omega)
      have x : μ.1 20 p = nI (w (185 + 7 * p)) := (hR.2.2.2.2 p (by omega)).1
      rw [if_neg c, lk_14_13, e_ai (by omega), x, lk_36_5, e_ai (by omega), h40 p (by omega), e_nm, k_test _ (by omega), bt_mk _ _ (by omega) s (by omega), nI_1]
      have hh := ih (p + 1) (by omega) (by omega)
      rw [fb_ct_succ, ← nI_add] at hh
      rw [decide_eq_true hs, Bool.true_and]
      cases q : rch w (opn w 1) (w (185 + 7 * p)) s
      · rw [q] at hh
        exact hh
      · rw [q] at hh
        exact hh
theorem putCosts_LQ {c way : Nat} {w : Nat → Nat} (hc : isSc c) (hG : GoodQ w) (hw : way < 4) {μ0 : sm_Mem} (hR : RH 14 w μ0) (hS : SH c w μ0) (hcc : c + 4 ≤ 38 ∨ 39 ≤ c) (h40 : way = 1 → ∀ q, q < w 4 → μ0.1 40 (w (185 + 7 * q)) = mk (rch w (opn w 1) (w (185 + 7 * q))) (w 3)) :
    ∀ (f s : Nat) (μ : sm_Mem), w 3 - s < f → s ≤ w 3 → (∀ a, a ≠ 38 → μ.1 a = μ0.1 a) → μ.2 = μ0.2 → (∀ x, x < s → μ.1 38 x = nI (32 * costW w way x + 1)) →
    T (fnX10_putCosts_L2 f 36 c (nI way) (nI s)) μ (fun _ μ' => (∀ a, a ≠ 38 → μ'.1 a = μ0.1 a) ∧ μ'.2 = μ0.2 ∧ ∀ x, x < w 3 → μ'.1 38 x = nI (32 * costW w way x + 1)) := by
  obtain ⟨k0, -, -, -, -, -, -⟩ := sc_lk hc
  have n := hG.1
  have e_38 : ln 38 = 24 := rfl
  intro f
  induction f with
  | zero =>
    intro s μ h
    omega
  | succ f ih =>
    intro s μ hf hs ho h2 hx
    have hR1 : RH 14 w μ := rh_fr (fun a q1 q2 => ho a (by omega)) hR
    have hS1 : SH c w μ := sh_fr (fun a q1 q2 => ho a (by omega)) hS
    have r4 := hR1.1.2.2.2.2.1
    unfold fnX10_putCosts_L2
    rw [k0, t_gi, r4]
    by_cases q : w 3 ≤ s
    · have : s = w 3 := by omega
      subst this
      rw [t_brT (nI_le q (by omega)), t_ret]
      exact ⟨ho, h2, hx⟩
    · rw [t_brF (nI_ge (by omega) (by omega))]
      have lfl := lf_leQ hG (s := s) (by omega)
      have lo := leftOf_eqQ hR1 hS1 hc hG (show s < w 3 by omega)
      have J : ∀ v : Nat, v = costW w way s → T (fnX10_putCosts_J67 (fnX10_putCosts_L2 f) 36 c (nI way) (nI s) (nI v)) μ (fun _ μ' => (∀ a, a ≠ 38 → μ'.1 a = μ0.1 a) ∧ μ'.2 = μ0.2 ∧ ∀ x, x < w 3 → μ'.1 38 x = nI (32 * costW w way x + 1)) := by
        intro v hv
        unfold fnX10_putCosts_J67
        rw [lk_36_3, t_sai (by omega), li_32, pk_mul, nI_1, nI_1]
        refine ih (s + 1) _ (by omega) (by omega) ?_ h2 ?_
        · intro a ha
          rw [← ho a ha]
          simp (disch := omega) only [u2_ne, u2_a, u2_k, u2_at]
        · intro x hx'
          by_cases e : x = s
          · subst e
            rw [← hv]
            simp (disch := omega) only [u2_ne, u2_a, u2_k, u2_at]
          · rw [← hx x (by omega)]
            simp (disch := omega) only [u2_ne, u2_a, u2_k, u2_at]
      unfold costW at J
      by_cases w1 : way = 1
      · have cr : fnX10_crowd 36 14 (nI s) μ = some (nI (crowd w s), μ) := crowd_LQ hG hR1 (fun q hq => by rw [ho 40 (by omega)]; exact h40 w1 q hq) (show s < w 3 by omega) 4096 0 (by omega) (by omega)
        rw [t_brT (by rw [w1]; rfl), t_bnd, t_eq cr, t_nm, li_1, nI_add]
        exact J _ (by rw [if_pos w1])
      · rw [t_brF (show ¬ nI way = (1 : Int32) by rw [li_1, nI_eq (by omega) (by omega)]; exact w1)]
        by_cases w2 : way = 2
        · rw [t_brT (by rw [w2]; rfl), t_bnd, t_eq lo]
          exact J _ (by rw [if_neg w1, if_pos w2])
        · rw [t_brF (show ¬ nI way = (2 : Int32) by rw [li_2, nI_eq (by omega) (by omega)]; exact w2)]
          by_cases w3 : way = 3
          · rw [t_brT (by rw [w3]; rfl), t_bnd, t_eq lo, t_nm, li_10, pk_sub (by omega)]
            exact J _ (by rw [if_neg w1, if_neg w2, if_pos w3])
          · rw [t_brF (show ¬ nI way = (3 : Int32) by rw [li_3, nI_eq (by omega) (by omega)]; exact w3), li_1]
            exact J 1 (by rw [if_neg w1, if_neg w2, if_neg w3])
theorem putCosts_TQ {c way : Nat} {w : Nat → Nat} (hc : isSc c) (hG : GoodQ w) (hw : way < 4) {μ : sm_Mem} (hR : RH 14 w μ) (hS : SH c w μ) (hcc : c + 4 ≤ 38 ∨ 39 ≤ c) (h40 : way = 1 → ∀ q, q < w 4 → μ.1 40 (w (185 + 7 * q)) = mk (rch w (opn w 1) (w (185 + 7 * q))) (w 3)) :
    T (fnX10_putCosts 36 c (nI way)) μ (fun _ μ' => (∀ a, a ≠ 38 → μ'.1 a = μ.1 a) ∧ μ'.2 = μ.2 ∧ ∀ x, x < w 3 → μ'.1 38 x = nI (32 * costW w way x + 1)) := by
  have n := hG.1
  unfold fnX10_putCosts
  exact putCosts_LQ hc hG hw hR hS hcc h40 4096 0 μ (by omega) (by omega) (fun _ _ => rfl) rfl (fun x hx => absurd hx (by omega))
theorem opn_mkQ {w : Nat → Nat} (hG : GoodQ w) (wt : Nat) : ∀ i, i < 32 → bt (mk (opn w wt) (w 3)) i = opn w wt i := by
  intro i hi
  rw [opn_homQ hG wt i hi]
  cases q : opn w wt i
  · simp
  · simp [opn_lt q]
theorem seek_J122Q {c r wt way bank : Nat} {w : Nat → Nat} (hc : isSc c) (hG : GoodQ w) (hr : 1 ≤ r) (hr9 : r ≤ 9) (hrw : r < w 1) (hw : way < 4) {bm gm0 : Int32} (hbm : ∀ i, i < 32 → bt bm i = (decide (i < w 3) && stp w bank i r)) (hgm : ∀ i, i < 32 → bt gm0 i = (decide (i < w 3) && stp w i (197 - bank) r)) {μ0 μ : sm_Mem} (hR : RH 14 w μ) (hS : SH c w μ) (hL : LKS w μ) (hz : μ.1 36 1 = nI 0) (h40 : way = 1 → ∀ q, q < w 4 → μ.1 40 (w (185 + 7 * q)) = mk (rch w (opn w 1) (w (185 + 7 * q))) (w 3)) (ho : ∀ a, (a < 36 ∨ 41 ≤ a) → μ.1 a = μ0.1 a) (h2 : μ.2 = μ0.2) :
    T (fnX10_seek_J122 36 c (nI r) (nI way) (mk (opn w wt) (w 3)) bm gm0) μ (fun x μ' => SeekP w r wt way bank x μ0 μ') := by
  have n := hG.1
  have hcc : c + 4 ≤ 36 ∨ 41 ≤ c := by
    unfold isSc at hc
    simp only [List.mem_cons, List.not_mem_nil, or_false] at hc
    omega
  have hgo : ∀ i, i < 32 → bt (gm0 &&& mk (opn w wt) (w 3)) i = (opn w wt i && stp w i (197 - bank) r) := by
    intro i hi
    rw [b_and, hgm i hi, opn_mkQ hG wt i hi]
    cases q : opn w wt i
    · simp
    · simp [opn_lt q]
  have hbo : ∀ i, i < 32 → bt (bm &&& mk (opn w wt) (w 3)) i = (opn w wt i && stp w bank i r) := by
    intro i hi
    rw [b_and, hbm i hi, opn_mkQ hG wt i hi]
    cases q : opn w wt i
    · simp
    · simp [opn_lt q]
  have hcb : ∀ x, x < w 3 → (32 * costW w way x + 1) ≤ 321 := by
    intro x hx
    have := (cost_rngQ hG (way := way) (wt := 1) hx (by omega)).1
    omega
  unfold fnX10_seek_J122
  rw [t_bnd]
  refine t_mono (putCosts_TQ hc hG hw hR hS (by omega) h40) ?_
  rintro - μ1 ⟨a1, a2, a3⟩
  rw [t_bnd]
  refine t_mono (spread_TQ hG (op := opn w wt) (goal := fun s => opn w wt s && stp w s (197 - bank) r) (bg := fun s => opn w wt s && stp w bank s r) (c := fun s => 32 * costW w way s + 1) hr hr9 (bm := bm) (fun x h => opn_lt h) (fun x hx => by
    show (opn w wt x && stp w bank x r) = _
    rw [hbm x (by omega), decide_eq_true hx, Bool.true_and]) (opn_mkQ hG wt) (fun x h => by
    simp only [Bool.and_eq_true] at h
    exact h.1) hgo hcb (lks_fr (fun a q1 q2 => a1 a (by omega)) hL) a3) ?_
  rintro - μ2 ⟨b1, b2, t', b3, b4⟩
  rw [t_bnd]
  refine t_mono (walk_TQ hG (op := opn w wt) (goal := fun s => opn w wt s && stp w s (197 - bank) r) (bg := fun s => opn w wt s && stp w bank s r) (c := fun s => 32 * costW w way s + 1) (fun s _ => by show 1 ≤ 32 * costW w way s + 1; omega) hr hr9 (fun x h => opn_lt h) (opn_mkQ hG wt) (fun x h => by
    simp only [Bool.and_eq_true] at h
    exact h.1) hbo b4 hcb (fun x hx => (b3 x hx).2) (lks_fr (fun a q1 q2 => (b1 a (by omega)).trans (a1 a (by omega))) hL) (fun x hx => by rw [b1 38 (by omega)]; exact a3 x hx) (fun x hx => (b3 x hx).1) (by rw [b1 36 (by omega), a1 36 (by omega)]; exact hz)) ?_
  rintro - μ3 ⟨l, l1, l2, l3, l4, l5, l6⟩
  have fw := findW_row (by omega) l1
  have fr : ∀ a, (a < 36 ∨ 41 ≤ a) → μ3.1 a = μ0.1 a := by
    intro a ha
    rw [l5 a (by omega) (by omega), b1 a (by omega), a1 a (by omega), ho a ha]
  have fl : μ3.2 = μ0.2 := l6.trans (b2.trans (a2.trans h2))
  rw [t_gi, l3]
  by_cases c0 : l = []
  · subst c0
    rw [t_brT (show nI ([] : List Nat).length = (0 : Int32) from rfl), t_ret]
    refine ⟨?_, fr, fl⟩
    rw [fw, if_pos rfl]
    rfl
  · have : l.length ≠ 0 := fun e => c0 (List.length_eq_zero_iff.mp e)
    rw [t_brF (nI_ne0 (by omega) (by omega)), t_gi, l3, t_ret]
    refine ⟨?_, fr, fl⟩
    rw [fw, if_neg c0]
    exact ⟨rfl, l2, l3, l4, isRow_facts (fun s _ => by show 1 ≤ 32 * costW w way s + 1; omega) l1⟩
theorem seek_J83Q {c r wt way bank : Nat} {w : Nat → Nat} (hc : isSc c) (hG : GoodQ w) (hr : 1 ≤ r) (hr9 : r ≤ 9) (hrw : r < w 1) (hw : way < 4) {bm gm0 : Int32} (hbm : ∀ i, i < 32 → bt bm i = (decide (i < w 3) && stp w bank i r)) (hgm : ∀ i, i < 32 → bt gm0 i = (decide (i < w 3) && stp w i (197 - bank) r)) {μ0 μ : sm_Mem} (hR : RH 14 w μ) (hS : SH c w μ) (hL : LKS w μ) (hz : μ.1 36 1 = nI 0) (ho : ∀ a, (a < 36 ∨ 41 ≤ a) → μ.1 a = μ0.1 a) (h2 : μ.2 = μ0.2) :
    T (fnX10_seek_J83 36 c (nI r) (nI way) (mk (opn w wt) (w 3)) bm gm0) μ (fun x μ' => SeekP w r wt way bank x μ0 μ') := by
  obtain ⟨k0, -, -, -, -, -, -⟩ := sc_lk hc
  have n := hG.1
  have hcc : c + 4 ≤ 36 ∨ 41 ≤ c := by
    unfold isSc at hc
    simp only [List.mem_cons, List.not_mem_nil, or_false] at hc
    omega
  unfold fnX10_seek_J83
  by_cases c1 : bm &&& mk (opn w wt) (w 3) = 0
  · rw [t_brT c1, t_ret]
    refine ⟨?_, ho, h2⟩
    rw [find_none hrw (Or.inl (fun s hs => ?_))]
    · rfl
    · have := (k_z _).mp c1 s (by omega)
      rw [b_and, hbm s (by omega), opn_mkQ hG wt s (by omega), decide_eq_true hs, Bool.true_and, Bool.and_comm] at this
      exact this
  rw [t_brF c1]
  by_cases c2 : gm0 &&& mk (opn w wt) (w 3) = 0
  · rw [t_brT c2, t_ret]
    refine ⟨?_, ho, h2⟩
    rw [find_none hrw (Or.inr (fun s hs => ?_))]
    · rfl
    · have := (k_z _).mp c2 s (by omega)
      rw [b_and, hgm s (by omega), opn_mkQ hG wt s (by omega), decide_eq_true hs, Bool.true_and, Bool.and_comm] at this
      exact this
  rw [t_brF c2]
  by_cases c3 : way = 1
  · rw [t_brT (show nI way = (1 : Int32) by rw [c3]; rfl), li_1, t_bnd, t_eq (openFor_eqQ hR hS hc hG (show 1 < 100 by omega)), k0, t_bnd]
    refine t_mono (putReached_TQ hG hR hL) ?_
    rintro - μ1 ⟨a1, a2, a3⟩
    exact seek_J122Q hc hG hr hr9 hrw hw hbm hgm (rh_fr (fun a q1 q2 => a1 a (by omega)) hR) (sh_fr (fun a q1 q2 => a1 a (by omega)) hS) (lks_fr (fun a q1 q2 => a1 a (by omega)) hL) (by rw [a1 36 (by omega)]; exact hz) (fun _ => a3) (fun a ha => (a1 a (by omega)).trans (ho a ha)) (a2.trans h2)
  · rw [t_brF (show ¬ nI way = (1 : Int32) by rw [li_1, nI_eq (by omega) (by omega)]; exact c3)]
    exact seek_J122Q hc hG hr hr9 hrw hw hbm hgm hR hS hL hz (fun h => absurd h c3) ho h2
theorem seek_TQ {c r wt way bank : Nat} {w : Nat → Nat} (hc : isSc c) (hG : GoodQ w) (hr : 1 ≤ r) (hr9 : r ≤ 9) (hwt : wt < 100) (hw : way < 4) (hb : bank = 98 ∨ bank = 99) {μ : sm_Mem} (hR : RH 14 w μ) (hS : SH c w μ) (hL : LKS w μ) :
    T (fnX10_seek 36 c (nI r) (nI wt) (nI way) (nI bank)) μ (fun x μ' => SeekP w r wt way bank x μ μ') := by
  obtain ⟨k0, -, -, -, -, -, -⟩ := sc_lk hc
  have n := hG.1
  have gw := good_wideQ hG
  have e_33 : ln 33 = 10 := rfl
  have e_34 : ln 34 = 10 := rfl
  have hcc : c + 4 ≤ 36 ∨ 41 ≤ c := by
    unfold isSc at hc
    simp only [List.mem_cons, List.not_mem_nil, or_false] at hc
    omega
  have r1 : (u2 μ.1 36 1 (nI 0), μ.2).1 14 1 = nI (w 1) := by
    rw [← hR.1.2.1]
    simp (disch := omega) only [u2_ne, u2_a, u2_k, u2_at]
  unfold fnX10_seek
  rw [t_si, k0, t_gi, li_0, r1]
  by_cases c1 : r < w 1
  · have hR1 : RH 14 w (u2 μ.1 36 1 (nI 0), μ.2) := rh_fr (μ := μ) (fun a h1 h2 => (by simp (disch := omega) only [u2_ne, u2_a, u2_k, u2_at])) hR
    have hS1 : SH c w (u2 μ.1 36 1 (nI 0), μ.2) := sh_fr (μ := μ) (fun a h1 h2 => (by simp (disch := omega) only [u2_ne, u2_a, u2_k, u2_at])) hS
    have hL1 : LKS w (u2 μ.1 36 1 (nI 0), μ.2) := lks_fr (μ := μ) (fun a h1 h2 => (by simp (disch := omega) only [u2_ne, u2_a, u2_k, u2_at])) hL
    have ho : ∀ a, (a < 36 ∨ 41 ≤ a) → (u2 μ.1 36 1 (nI 0), μ.2).1 a = μ.1 a := fun a ha => (by simp (disch := omega) only [u2_ne, u2_a, u2_k, u2_at])
    have hz : (u2 μ.1 36 1 (nI 0), μ.2).1 36 1 = nI 0 := (by simp (disch := omega) only [u2_ne, u2_a, u2_k, u2_at])
    rw [t_brT (nI_lt c1 (by omega)), t_bnd, t_eq (openFor_eqQ hR1 hS1 hc hG hwt), lk_36_2, lk_32_0, lk_32_1]
    rcases hb with rfl | rfl
    · rw [t_brT (show nI 98 = (98 : Int32) from rfl), t_ai (by omega)]
      unfold fnX10_seek_J53
      rw [t_brT (show nI 98 = (98 : Int32) from rfl), lk_36_2, lk_32_1, t_ai (by omega)]
      exact seek_J83Q hc hG hr hr9 c1 hw (fun i hi => (hL1 r hr hr9 i hi).1) (fun i hi => (hL1 r hr hr9 i hi).2.1) hR1 hS1 hL1 hz ho rfl
    · rw [t_brF (by decide), t_ai (by omega)]
      unfold fnX10_seek_J53
      rw [t_brF (by decide), lk_36_2, lk_32_0, t_ai (by omega)]
      exact seek_J83Q hc hG hr hr9 c1 hw (fun i hi => by rw [(hL1 r hr hr9 i hi).2.1, stp_comm w i 99 r]) (fun i hi => by rw [(hL1 r hr hr9 i hi).1, stp_comm w 98 i r]) hR1 hS1 hL1 hz ho rfl
  · rw [t_brF (nI_nlt (by omega) (by omega)), t_ret]
    refine ⟨?_, fun a ha => (by simp (disch := omega) only [u2_ne, u2_a, u2_k, u2_at]), rfl⟩
    unfold findW
    rw [if_pos (by omega)]
    exact ⟨rfl, by simp, (by simp (disch := omega) only [u2_ne, u2_a, u2_k, u2_at, List.length_nil]), fun i hi => absurd hi (by simp), fun x hx => absurd hx (by simp), List.nodup_nil⟩
theorem fill85Q {k56 : Nat → Int32 → Int32 → sm_M Unit} {Q : Unit → sm_Mem → Prop} {w : Nat → Nat} (hG : GoodQ w) {p : Nat} {m : Nat → Bool} {b : Nat → Nat} {μ0 : sm_Mem} (hW : WH 147 w μ0) (hb : ∀ x, x < w 3 → b x < 1000)
    (ex : ∀ μ' : sm_Mem, (∀ a, a ≠ 153 → μ'.1 a = μ0.1 a) → μ'.2 = μ0.2 → (∀ x, x < w 3 → μ'.1 153 x = nI (b x + (if m x = true then 1 else 0))) → T (k56 146 (nI 1) (nI (p + 1))) μ' Q) :
    ∀ (f s : Nat) (μ : sm_Mem), w 3 - s < f → s ≤ w 3 → (∀ a, a ≠ 153 → μ.1 a = μ0.1 a) → μ.2 = μ0.2 → (∀ x, x < w 3 → μ.1 153 x = nI (b x + (if m x = true ∧ x < s then 1 else 0))) → T (fnX12_fillCosts_L85 k56 f 146 (nI 1) (nI p) (mk m (w 3)) (nI s)) μ Q := by
  have n := hG.1
  have e_147 : ln 147 = 241 := rfl
  have e_153 : ln 153 = 25 := rfl
  intro f
  induction f with
  | zero =>
    intro s μ h
    omega
  | succ f ih =>
    intro s μ hf hs ho h2 hx
    have w3 : μ.1 147 3 = nI (w 3) := by rw [ho 147 (by omega)]; exact wh_lo hW (by omega)
    unfold fnX12_fillCosts_L85
    rw [lk_146_1, li_3, t_ai (by omega), w3]
    by_cases c : w 3 ≤ s
    · have : s = w 3 := by omega
      subst this
      rw [t_brT (nI_le c (by omega))]
      unfold fnX12_fillCosts_J118
      rw [nI_1]
      refine ex μ ho h2 ?_
      intro x hx'
      rw [hx x hx']
      by_cases q : m x = true
      · rw [if_pos ⟨q, hx'⟩, if_pos q]
      · rw [if_neg (fun z => q z.1), if_neg q]
    · rw [t_brF (nI_ge (by omega) (by omega)), lk_146_15, t_ai (by omega), t_sai (by omega), hx s (by omega), k_test _ (by omega), bt_mk _ _ (by omega) s (by omega), nI_1]
      refine ih (s + 1) _ (by omega) (by omega) ?_ h2 ?_
      · intro a ha
        rw [← ho a ha]
        simp (disch := omega) only [u2_ne, u2_a, u2_k, u2_at]
      · intro x hx'
        by_cases e : x = s
        · subst e
          simp only [u2_at]
          rw [if_neg (by omega), Nat.add_zero, decide_eq_true hx', Bool.true_and]
          cases q : m x
          · rw [if_neg (by simp)]
            exact nI_add _ 0
          · rw [if_pos ⟨rfl, by omega⟩]
            exact nI_add _ 1
        · simp (disch := omega) only [u2_k]
          rw [hx x hx']
          by_cases q : m x = true ∧ x < s
          · rw [if_pos q, if_pos ⟨q.1, by omega⟩]
          · rw [if_neg q, if_neg (fun z => q ⟨z.1, by omega⟩)]
theorem fill56Q {w : Nat → Nat} (hG : GoodQ w) {way : Nat} (hw : way < 4) {b : Nat → Nat} (hb : ∀ x, x < w 3 → b x < 100) {μ0 : sm_Mem} (hW : WH 147 w μ0) :
    ∀ (f p : Nat) (μ : sm_Mem), w 4 - p < f → p ≤ w 4 → (∀ a, a ≠ 153 → μ.1 a = μ0.1 a) → μ.2 = μ0.2 → (∀ x, x < w 3 → μ.1 153 x = nI (b x + (if way = 1 then fb_ct (fun p => rch w (opn w 1) (w (185 + 7 * p)) x) p else 0))) →
    T (fnX12_fillCosts_L56 f 146 (nI way) (nI p)) μ (fun _ μ' => (∀ a, a ≠ 153 → μ'.1 a = μ0.1 a) ∧ μ'.2 = μ0.2 ∧ ∀ x, x < w 3 → μ'.1 153 x = nI (b x + (if way = 1 then crowd w x else 0))) := by
  have n := hG.1
  have e_147 : ln 147 = 241 := rfl
  intro f
  induction f with
  | zero =>
    intro p μ h
    omega
  | succ f ih =>
    intro p μ hf hp ho h2 hx
    have hW1 : WH 147 w μ := wh_fr (fun i _ => by rw [ho 147 (by omega)]) hW
    have w4 := wh_lo hW1 (i := 4) (by omega)
    unfold fnX12_fillCosts_L56
    rw [lk_146_1, li_4, t_ai (by omega), w4]
    by_cases c : w 4 ≤ p
    · have : p = w 4 := by omega
      subst this
      rw [t_brT (nI_le c (by omega)), t_ret]
      exact ⟨ho, h2, hx⟩
    · rw [t_brF (nI_ge (by omega) (by omega))]
      by_cases c1 : way = 1
      · subst c1
        have g := hG.2.2.2.2.2.2.2.1 p (by omega)
        have q0 := of_eq hW1 (p := p) (k := 0) (by omega) (by omega) (by omega)
        rw [Nat.add_zero] at q0
        rw [t_brT (show nI 1 = (1 : Int32) from rfl), li_0, t_bnd, t_eq q0, t_bnd, t_eq (reachOf_eqQ hW1 hG g.2.1)]
        refine fill85Q hG (p := p) (m := rch w (opn w 1) (w (185 + 7 * p))) (b := fun x => b x + fb_ct (fun p => rch w (opn w 1) (w (185 + 7 * p)) x) p) (μ0 := μ) hW1 (fun x hx' => by
          have := hb x hx'
          have := fb_ct_le (fun p => rch w (opn w 1) (w (185 + 7 * p)) x) p
          show b x + _ < 1000
          omega) ?_ 4096 0 μ (by omega) (by omega) (fun _ _ => rfl) rfl ?_
        · intro μ1 a1 a2 a3
          refine ih (p + 1) μ1 (by omega) (by omega) (fun a ha => (a1 a ha).trans (ho a ha)) (a2.trans h2) ?_
          intro x hx'
          rw [a3 x hx', if_pos rfl, fb_ct_succ, Nat.add_assoc]
        · intro x hx'
          rw [hx x hx', if_pos rfl, if_neg (by omega), Nat.add_zero]
      · rw [t_brF (show ¬ nI way = (1 : Int32) by rw [li_1, nI_eq (by omega) (by omega)]; exact c1), t_ret]
        refine ⟨ho, h2, ?_⟩
        intro x hx'
        rw [hx x hx', if_neg c1, if_neg c1]
theorem fillCosts_LQ {w : Nat → Nat} (hG : GoodQ w) {way : Nat} (hw : way < 4) {μ0 : sm_Mem} (hW : WH 147 w μ0) :
    ∀ (f s : Nat) (μ : sm_Mem), w 3 - s < f → s ≤ w 3 → (∀ a, a ≠ 153 → μ.1 a = μ0.1 a) → μ.2 = μ0.2 → (∀ x, x < s → μ.1 153 x = nI (if way = 2 then lf w x else if way = 3 then 10 - lf w x else 1)) →
    T (fnX12_fillCosts_L2 f 146 (nI way) (nI s)) μ (fun _ μ' => (∀ a, a ≠ 153 → μ'.1 a = μ0.1 a) ∧ μ'.2 = μ0.2 ∧ ∀ x, x < w 3 → μ'.1 153 x = nI (costW w way x)) := by
  have n := hG.1
  have e_147 : ln 147 = 241 := rfl
  have e_153 : ln 153 = 25 := rfl
  intro f
  induction f with
  | zero =>
    intro s μ h
    omega
  | succ f ih =>
    intro s μ hf hs ho h2 hx
    have hW1 : WH 147 w μ := wh_fr (fun i _ => by rw [ho 147 (by omega)]) hW
    have w3 := wh_lo hW1 (i := 3) (by omega)
    unfold fnX12_fillCosts_L2
    rw [lk_146_1, li_3, t_ai (by omega), w3]
    by_cases c : w 3 ≤ s
    · have : s = w 3 := by omega
      subst this
      rw [t_brT (nI_le c (by omega))]
      unfold fnX12_fillCosts_J54
      refine t_mono (fill56Q hG hw (b := fun x => if way = 2 then lf w x else if way = 3 then 10 - lf w x else 1) (fun x hx' => by
        have := lf_leQ hG hx'
        repeat' split
        all_goals omega) hW 4096 0 μ (by omega) (by omega) ho h2 ?_) ?_
      · intro x hx'
        rw [hx x hx']
        by_cases c1 : way = 1
        · rw [if_pos c1]
          rfl
        · rw [if_neg c1, Nat.add_zero]
      · rintro - μ' ⟨a1, a2, a3⟩
        refine ⟨a1, a2, ?_⟩
        intro x hx'
        rw [a3 x hx']
        congr 1
        unfold costW
        repeat' split
        all_goals omega
    · have lfl := lf_leQ hG (s := s) (by omega)
      have lo := left12Q hW1 hG (show s < w 3 by omega)
      have J : ∀ v : Nat, v = (if way = 2 then lf w s else if way = 3 then 10 - lf w s else 1) → T (fnX12_fillCosts_J47 (fnX12_fillCosts_L2 f) 146 (nI way) (nI s) (nI v) (nI s) 153) μ (fun _ μ' => (∀ a, a ≠ 153 → μ'.1 a = μ0.1 a) ∧ μ'.2 = μ0.2 ∧ ∀ x, x < w 3 → μ'.1 153 x = nI (costW w way x)) := by
        intro v hv
        unfold fnX12_fillCosts_J47
        rw [t_sai (by omega), nI_1]
        refine ih (s + 1) _ (by omega) (by omega) ?_ h2 ?_
        · intro a ha
          rw [← ho a ha]
          simp (disch := omega) only [u2_ne, u2_a, u2_k, u2_at]
        · intro x hx'
          by_cases e : x = s
          · subst e
            rw [← hv]
            simp (disch := omega) only [u2_ne, u2_a, u2_k, u2_at]
          · rw [← hx x (by omega)]
            simp (disch := omega) only [u2_ne, u2_a, u2_k, u2_at]
      rw [t_brF (nI_ge (by omega) (by omega)), lk_146_15]
      by_cases w2 : way = 2
      · rw [t_brT (by rw [w2]; rfl), t_bnd, t_eq lo]
        exact J _ (by rw [if_pos w2])
      · rw [t_brF (show ¬ nI way = (2 : Int32) by rw [li_2, nI_eq (by omega) (by omega)]; exact w2)]
        by_cases w3 : way = 3
        · rw [t_brT (by rw [w3]), t_bnd, t_eq lo, li_10, pk_sub (by omega)]
          exact J _ (by rw [if_neg w2, if_pos w3])
        · rw [t_brF (show ¬ nI way = nI 3 by rw [nI_eq (by omega) (by omega)]; exact w3), li_1]
          exact J 1 (by rw [if_neg w2, if_neg w3])
theorem fillCosts_TQ {w : Nat → Nat} (hG : GoodQ w) {way : Nat} (hw : way < 4) {μ : sm_Mem} (hW : WH 147 w μ) : T (fnX12_fillCosts 146 (nI way)) μ (fun _ μ' => (∀ a, a ≠ 153 → μ'.1 a = μ.1 a) ∧ μ'.2 = μ.2 ∧ ∀ x, x < w 3 → μ'.1 153 x = nI (costW w way x)) := by
  have n := hG.1
  unfold fnX12_fillCosts
  exact fillCosts_LQ hG hw hW 4096 0 μ (by omega) (by omega) (fun _ _ => rfl) rfl (fun x hx => absurd hx (by omega))
theorem fill120Q {k95 : Nat → Int32 → Int32 → Int32 → sm_M Unit} {k106 : Nat → Int32 → Int32 → Int32 → Int32 → sm_M Unit} {Q : Unit → sm_Mem → Prop} {w : Nat → Nat} (hG : GoodQ w) {r wt s : Nat} (hr : r ≤ 9) (hwt : wt < 100) (hs : s < w 3) {goal : Nat → Bool} {g : Nat → Nat} (hg : ∀ x, x < w 3 → opn w wt x = true → 1 ≤ g x ∧ g x ≤ 10) (hg10 : ∀ x, x < w 3 → g x ≤ 10) {μ0 : sm_Mem} (hW : WH 147 w μ0) {C0 M0 : Nat → Nat} {b0 : Bool}
    (ex : ∀ (C M : Nat → Nat) (b : Bool) (μ' : sm_Mem), FrL μ0 μ' → CM (w 3) g C M μ' → BI (w 3) (opn w wt) goal (adw w r) g C M → (∀ x, x < w 3 → x ≠ s → C x = C0 x ∧ M x = M0 x) → (C0 s < 1000000 → C s < 1000000 ∧ 1024 * C s + M s ≤ 1024 * C0 s + M0 s) → (∀ q, q < w 3 → opn w wt s = true → adw w r s q = true → C0 q < 1000000 → C s < 1000000 ∧ 1024 * C s + M s ≤ 1024 * g s + 1 + (1024 * C0 q + M0 q)) → ((b = b0 ∧ C = C0 ∧ M = M0) ∨ (b = true ∧ C s < 1000000 ∧ (C0 s < 1000000 → 1024 * C s + M s < 1024 * C0 s + M0 s))) → T (k106 146 (nI r) (nI wt) (bI b) (nI (s + 1))) μ' Q) :
    ∀ (f q : Nat) (C M : Nat → Nat) (b : Bool) (μ : sm_Mem), w 3 - q < f → q ≤ w 3 → FrL μ0 μ → CM (w 3) g C M μ → BI (w 3) (opn w wt) goal (adw w r) g C M → (∀ x, x < w 3 → x ≠ s → C x = C0 x ∧ M x = M0 x) → (C0 s < 1000000 → C s < 1000000 ∧ 1024 * C s + M s ≤ 1024 * C0 s + M0 s) → (∀ q', q' < q → opn w wt s = true → adw w r s q' = true → C0 q' < 1000000 → C s < 1000000 ∧ 1024 * C s + M s ≤ 1024 * g s + 1 + (1024 * C0 q' + M0 q')) → ((b = b0 ∧ C = C0 ∧ M = M0) ∨ (b = true ∧ C s < 1000000 ∧ (C0 s < 1000000 → 1024 * C s + M s < 1024 * C0 s + M0 s))) →
    T (fnX12_fillLeft_L120 k95 k106 f 146 (nI r) (nI wt) (bI b) (nI s) (nI q)) μ Q := by
  have n := hG.1
  have e_147 : ln 147 = 241 := rfl
  have e_153 : ln 153 = 25 := rfl
  have e_154 : ln 154 = 25 := rfl
  have e_155 : ln 155 = 25 := rfl
  intro f
  induction f with
  | zero =>
    intro q C M b μ h
    omega
  | succ f ih =>
    intro q C M b μ hf hq fr cm bi h1 h2 h3 h4
    have hW1 : WH 147 w μ := wh_fr (fun i _ => by rw [fr.1 147 (by omega) (by omega)]) hW
    have w3 := wh_lo hW1 (i := 3) (by omega)
    have lfl := lf_leQ hG hs
    unfold fnX12_fillLeft_L120 fnX12_fillLeft_J267
    rw [lk_146_1, li_3, t_ai (by omega), w3, nI_1]
    by_cases c : w 3 ≤ q
    · rw [t_brT (nI_le c (by omega))]
      exact ex C M b μ fr cm bi h1 h2 (fun q' hq' => h3 q' (by omega)) h4
    rw [t_brF (nI_ge (by omega) (by omega)), t_bnd, t_eq (left12Q hW1 hG hs)]
    by_cases c1 : lf w s < wt
    · rw [t_brT (nI_lt c1 (by omega))]
      refine ex C M b μ fr cm bi h1 h2 (fun q' hq' ho => ?_) h4
      unfold opn at ho
      have := of_decide_eq_true ho
      omega
    rw [t_brF (nI_nlt (by omega) (by omega))]
    have ho : opn w wt s = true := by
      unfold opn
      exact decide_eq_true ⟨hs, by omega⟩
    have gs := hg s hs ho
    have skip : ¬ (q ≠ s ∧ C q < 1000000 ∧ stp w s q r = true ∧ (g s + C q < C s ∨ (g s + C q = C s ∧ 1 + M q < M s))) → T (fnX12_fillLeft_J261 k95 k106 (fnX12_fillLeft_L120 k95 k106 f) 146 (nI r) (nI wt) (bI b) (nI s) (nI q)) μ Q := by
      intro hn
      unfold fnX12_fillLeft_J261
      rw [nI_1]
      refine ih (q + 1) C M b μ (by omega) (by omega) fr cm bi h1 h2 ?_ h4
      intro q' hq' ho' ha hF
      by_cases e : q' = q
      · subst e
        have hst : stp w s q' r = true := by
          unfold adw at ha
          simp only [Bool.and_eq_true] at ha
          exact ha.2
        have hne : q' ≠ s := by
          intro e
          subst e
          unfold stp at hst
          exact (of_decide_eq_true hst).1 rfl
        obtain ⟨y1, y2⟩ := h1 q' (by omega) hne
        have hFq : C q' < 1000000 := by rw [y1]; exact hF
        have hnl : ¬ (g s + C q' < C s ∨ (g s + C q' = C s ∧ 1 + M q' < M s)) := fun z => hn ⟨hne, hFq, hst, z⟩
        obtain ⟨q1, q2, q3, -⟩ := bi_fin n.1 bi (show q' < w 3 by omega) hFq
        have hFs : C s < 1000000 := by omega
        obtain ⟨s1, s2, s3, -⟩ := bi_fin n.1 bi hs hFs
        refine ⟨hFs, ?_⟩
        rw [← y1, ← y2]
        omega
      · exact h3 q' (by omega) ho' ha hF
    by_cases c2 : q = s
    · rw [t_brT (by rw [c2])]
      exact skip (fun z => z.1 c2)
    rw [t_brF (by rw [nI_eq (by omega) (by omega)]; exact c2), lk_146_16, t_ai (by omega), (cm q (by omega)).2.1]
    have cq : C q ≤ 1000000 := by
      rcases bi.1 q (by omega) with ⟨e, -⟩ | ⟨e, -⟩
      · omega
      · have := fb_ct_le (fun x => decide (C x < 1000000)) (w 3)
        omega
    by_cases c3 : 1000000 ≤ C q
    · rw [t_brT (show (1000000 : Int32) ≤ nI (C q) from nI_le (a := 1000000) c3 (by omega))]
      exact skip (fun z => by have := z.2.1; omega)
    rw [t_brF (show ¬ (1000000 : Int32) ≤ nI (C q) from nI_ge (b := 1000000) (by omega) (by omega)), t_bnd, t_eq (isStep12Q hW1 hG (a := s) (b := q) (r := r) (Or.inl hs) (Or.inl (by omega)) (by omega))]
    cases hst : stp w s q r
    · rw [t_brT (by decide)]
      exact skip (fun z => by rw [hst] at z; cases z.2.2.1)
    rw [t_brF (by decide), lk_146_15, lk_146_17]
    rw [t_ai (show s < ln 153 by omega), t_ai (show q < ln 154 by omega), t_ai (show q < ln 155 by omega), t_ai (show s < ln 154 by omega), t_ai (show s < ln 155 by omega), (cm s hs).1, (cm s hs).2.1, (cm s hs).2.2, (cm q (by omega)).2.1, (cm q (by omega)).2.2, li_1, nI_add, nI_add]
    obtain ⟨q1, q2, q3, -⟩ := bi_fin n.1 bi (show q < w 3 by omega) (by omega)
    have cs : C s ≤ 1000000 ∧ M s ≤ 1000000 := by
      rcases bi.1 s hs with ⟨e, e'⟩ | ⟨e, e', -⟩
      · omega
      · have := fb_ct_le (fun x => decide (C x < 1000000)) (w 3)
        omega
    rw [t_bnd, t_eq (isLess_eq (by omega) (by omega) (by omega) (by omega) μ)]
    by_cases c4 : g s + C q < C s ∨ (g s + C q = C s ∧ 1 + M q < M s)
    · rw [decide_eq_true c4, t_brF (by decide), t_ai (show s < ln 153 by omega), t_ai (show q < ln 154 by omega), t_sai (show s < ln 154 by omega), t_ai (show q < ln 155 by omega), t_sai (show s < ln 155 by omega), (cm s hs).1, (cm q (by omega)).2.1]
      have mq : (u2 μ.1 154 s (nI (g s) + nI (C q)), μ.2).1 155 q = nI (M q) := by
        rw [← (cm q (by omega)).2.2]
        simp (disch := omega) only [u2_ne, u2_a, u2_k, u2_at]
      rw [mq, nI_add, nI_add]
      unfold fnX12_fillLeft_J261
      rw [nI_1]
      have ha : adw w r s q = true := by
        unfold adw
        rw [decide_eq_true ⟨hs, show q < w 3 by omega⟩, hst]
        rfl
      have hkey : C s < 1000000 → 1024 * (g s + C q) + (1 + M q) < 1024 * C s + M s := by
        intro hFs
        obtain ⟨s1, s2, s3, -⟩ := bi_fin n.1 bi hs hFs
        omega
      refine ih (q + 1) (up C s (g s + C q)) (up M s (1 + M q)) true _ (by omega) (by omega) ⟨fun a a1 a2 => by rw [← fr.1 a a1 a2]; simp (disch := omega) only [u2_ne, u2_a, u2_k, u2_at], fr.2⟩ (cm_up cm s _ _) (bi_step n.1 hg bi hs (by omega) ho ha (by omega) c4) ?_ ?_ ?_ ?_
      · intro x hx hne
        rw [up_ne hne, up_ne hne]
        exact h1 x hx hne
      · intro hF0
        rw [up_at, up_at]
        obtain ⟨a1, a2⟩ := h2 hF0
        have := hkey a1
        omega
      · intro q' hq' ho' ha' hF'
        rw [up_at, up_at]
        by_cases e : q' = q
        · subst e
          obtain ⟨y1, y2⟩ := h1 q' (by omega) c2
          rw [← y1, ← y2]
          omega
        · obtain ⟨a1, a2⟩ := h3 q' (by omega) ho' ha' hF'
          have := hkey a1
          omega
      · right
        refine ⟨rfl, by rw [up_at]; omega, fun hF0 => ?_⟩
        rw [up_at, up_at]
        obtain ⟨a1, a2⟩ := h2 hF0
        have := hkey a1
        omega
    · rw [decide_eq_false c4, t_brT (by decide)]
      exact skip (fun z => c4 z.2.2.2)
theorem fill106Q {k95 : Nat → Int32 → Int32 → Int32 → sm_M Unit} {Q : Unit → sm_Mem → Prop} {w : Nat → Nat} (hG : GoodQ w) {r wt : Nat} (hr : r ≤ 9) (hwt : wt < 100) {goal : Nat → Bool} {g : Nat → Nat} (hg : ∀ x, x < w 3 → opn w wt x = true → 1 ≤ g x ∧ g x ≤ 10) (hg10 : ∀ x, x < w 3 → g x ≤ 10) {μ0 : sm_Mem} (hW : WH 147 w μ0) {C0 M0 : Nat → Nat}
    (ex : ∀ (C M : Nat → Nat) (b : Bool) (μ' : sm_Mem), FrL μ0 μ' → CM (w 3) g C M μ' → Pass (w 3) (opn w wt) goal (adw w r) g C0 M0 C M b → (b = false → C = C0 ∧ M = M0 ∧ ∀ s q, s < w 3 → q < w 3 → opn w wt s = true → adw w r s q = true → C0 q < 1000000 → C0 s < 1000000 ∧ 1024 * C0 s + M0 s ≤ 1024 * g s + 1 + (1024 * C0 q + M0 q)) → T (k95 146 (nI r) (nI wt) (bI b)) μ' Q) :
    ∀ (f s : Nat) (C M : Nat → Nat) (b : Bool) (μ : sm_Mem), w 3 - s < f → s ≤ w 3 → FrL μ0 μ → CM (w 3) g C M μ → BI (w 3) (opn w wt) goal (adw w r) g C M → (∀ x, x < w 3 → C0 x < 1000000 → C x < 1000000 ∧ 1024 * C x + M x ≤ 1024 * C0 x + M0 x) →
    (∀ s' q u, s' < s → q < w 3 → opn w wt s' = true → adw w r s' q = true → Dm (w 3) (opn w wt) goal (adw w r) (fun x => 1024 * g x + 1) q u → C0 q < 1000000 → 1024 * C0 q + M0 q = u → C s' < 1000000 ∧ 1024 * C s' + M s' ≤ 1024 * g s' + 1 + u) →
    ((b = false ∧ C = C0 ∧ M = M0 ∧ ∀ s' q, s' < s → q < w 3 → opn w wt s' = true → adw w r s' q = true → C0 q < 1000000 → C0 s' < 1000000 ∧ 1024 * C0 s' + M0 s' ≤ 1024 * g s' + 1 + (1024 * C0 q + M0 q)) ∨ (b = true ∧ ∃ s', s' < w 3 ∧ C s' < 1000000 ∧ (C0 s' < 1000000 → 1024 * C s' + M s' < 1024 * C0 s' + M0 s'))) →
    T (fnX12_fillLeft_L106 k95 f 146 (nI r) (nI wt) (bI b) (nI s)) μ Q := by
  have n := hG.1
  have e_147 : ln 147 = 241 := rfl
  intro f
  induction f with
  | zero =>
    intro s C M b μ h
    omega
  | succ f ih =>
    intro s C M b μ hf hs fr cm bi h1 h2 h3
    have hW1 : WH 147 w μ := wh_fr (fun i _ => by rw [fr.1 147 (by omega) (by omega)]) hW
    have w3 := wh_lo hW1 (i := 3) (by omega)
    unfold fnX12_fillLeft_L106 fnX12_fillLeft_J273
    rw [lk_146_1, li_3, t_ai (by omega), w3]
    by_cases c : w 3 ≤ s
    · have : s = w 3 := by omega
      subst this
      rw [t_brT (nI_le c (by omega))]
      refine ex C M b μ fr cm ⟨bi, h1, fun s q u a b => h2 s q u a b, fun hb => ?_⟩ (fun hb => ?_)
      · rcases h3 with ⟨e, -⟩ | ⟨-, e⟩
        · rw [e] at hb
          cases hb
        · exact e
      · rcases h3 with ⟨-, e⟩ | ⟨e, -⟩
        · exact e
        · rw [e] at hb
          cases hb
    rw [t_brF (nI_ge (by omega) (by omega))]
    have i1 : w 3 - (s + 1) < f := by omega
    have i2 : s + 1 ≤ w 3 := by omega
    have hsn : s < w 3 := by omega
    refine fill120Q hG hr hwt hsn hg hg10 (μ0 := μ) hW1 (C0 := C) (M0 := M) (b0 := b) ?_ 4096 0 C M b μ (by omega) (by omega) ⟨fun _ _ _ => rfl, rfl⟩ cm bi (fun _ _ _ => ⟨rfl, rfl⟩) (fun h => ⟨h, Nat.le_refl _⟩) (fun q' hq' => absurd hq' (by omega)) (Or.inl ⟨rfl, rfl, rfl⟩)
    intro C' M' b' μ' fr' cm' bi' a1 a2 a3 a4
    refine ih (s + 1) C' M' b' μ' i1 i2 ⟨fun a z1 z2 => (fr'.1 a z1 z2).trans (fr.1 a z1 z2), fr'.2.trans fr.2⟩ cm' bi' ?_ ?_ ?_
    · intro x hx hF
      obtain ⟨y1, y2⟩ := h1 x hx hF
      by_cases e : x = s
      · subst e
        obtain ⟨z1, z2⟩ := a2 y1
        exact ⟨z1, by omega⟩
      · obtain ⟨z1, z2⟩ := a1 x hx e
        rw [z1, z2]
        exact ⟨y1, y2⟩
    · intro s' q u hs' hq ho ha hd hF he
      by_cases e : s' = s
      · subst e
        obtain ⟨y1, y2⟩ := h1 q hq hF
        obtain ⟨z1, z2⟩ := a3 q hq ho ha y1
        exact ⟨z1, by omega⟩
      · obtain ⟨z1, z2⟩ := a1 s' (by omega) e
        rw [z1, z2]
        exact h2 s' q u (by omega) hq ho ha hd hF he
    · rcases a4 with ⟨e1, e2, e3⟩ | ⟨e1, e2, e3⟩
      · subst e1 e2 e3
        rcases h3 with ⟨f1, f2, f3, f4⟩ | f
        · left
          refine ⟨f1, f2, f3, ?_⟩
          intro s' q hs' hq ho ha hF
          by_cases e : s' = s
          · subst e
            have := a3 q hq ho ha (by rw [f2]; exact hF)
            rw [f2, f3] at this
            exact this
          · exact f4 s' q (by omega) hq ho ha hF
        · exact Or.inr f
      · right
        refine ⟨e1, s, hsn, e2, fun hF => ?_⟩
        obtain ⟨y1, y2⟩ := h1 s hsn hF
        have := e3 y1
        omega
theorem fill95Q {w : Nat → Nat} (hG : GoodQ w) {r wt : Nat} (hr : r ≤ 9) (hwt : wt < 100) {goal : Nat → Bool} {g : Nat → Nat} (hg : ∀ x, x < w 3 → opn w wt x = true → 1 ≤ g x ∧ g x ≤ 10) (hg10 : ∀ x, x < w 3 → g x ≤ 10) {μ0 : sm_Mem} (hW : WH 147 w μ0) :
    ∀ (f : Nat) (C M : Nat → Nat) (μ : sm_Mem), nfl (w 3) (opn w wt) goal (adw w r) g C M + 1 < f → FrL μ0 μ → CM (w 3) g C M μ → BI (w 3) (opn w wt) goal (adw w r) g C M →
    T (fnX12_fillLeft_L95 f 146 (nI r) (nI wt) (bI true)) μ (fun _ μ' => FrL μ0 μ' ∧ ∃ C M, CM (w 3) g C M μ' ∧ BF (w 3) (opn w wt) goal (adw w r) g C M ∧ ∀ x, x < w 3 → C x ≤ 1000000 ∧ M x ≤ 1000000) := by
  have n := hG.1
  intro f
  induction f with
  | zero =>
    intro C M μ h
    omega
  | succ f ih =>
    intro C M μ hf fr cm bi
    have hW1 : WH 147 w μ := wh_fr (fun i _ => by rw [fr.1 147 (by omega) (by omega)]) hW
    unfold fnX12_fillLeft_L95
    rw [t_brF (by decide)]
    refine fill106Q hG hr hwt hg hg10 (goal := goal) (μ0 := μ) hW1 (C0 := C) (M0 := M) ?_ 4096 0 C M false μ (by omega) (by omega) ⟨fun _ _ _ => rfl, rfl⟩ cm bi (fun x _ h => ⟨h, Nat.le_refl _⟩) (fun s' q u h => absurd h (by omega)) (Or.inl ⟨rfl, rfl, rfl, fun s' q h => absurd h (by omega)⟩)
    intro C' M' b' μ' fr' cm' ps cl
    have fr2 : FrL μ0 μ' := ⟨fun a z1 z2 => (fr'.1 a z1 z2).trans (fr.1 a z1 z2), fr'.2.trans fr.2⟩
    cases b'
    · obtain ⟨e1, e2, e3⟩ := cl rfl
      subst e1 e2
      cases f with
      | zero => omega
      | succ f =>
        unfold fnX12_fillLeft_L95
        rw [t_brT (by decide), t_ret]
        refine ⟨fr2, C', M', cm', bi_done n.1 bi e3, fun x hx => ?_⟩
        rcases bi.1 x hx with ⟨y1, y2⟩ | ⟨y1, y2, -⟩
        · omega
        · have := fb_ct_le (fun x => decide (C' x < 1000000)) (w 3)
          omega
    · have := pass_less n.1 bi ps
      exact ih C' M' μ' (by omega) fr2 cm' ps.1
theorem fillLeft_LQ {w : Nat → Nat} (hG : GoodQ w) {r wt to : Nat} (hr : r ≤ 9) (hwt : wt < 100) (hto : to = 98 ∨ to = 99) {g : Nat → Nat} (hg : ∀ x, x < w 3 → opn w wt x = true → 1 ≤ g x ∧ g x ≤ 10) (hg10 : ∀ x, x < w 3 → g x ≤ 10) {μ0 : sm_Mem} (hW : WH 147 w μ0) (h153 : ∀ x, x < w 3 → μ0.1 153 x = nI (g x)) :
    ∀ (f s : Nat) (μ : sm_Mem), w 3 - s < f → s ≤ w 3 → FrL μ0 μ → (∀ x, x < s → μ.1 154 x = nI (if (opn w wt x && stp w x to r) = true then g x else 1000000) ∧ μ.1 155 x = nI (if (opn w wt x && stp w x to r) = true then 1 else 1000000)) →
    T (fnX12_fillLeft_L3 f 146 (nI r) (nI wt) (nI to) (nI s)) μ (fun _ μ' => FrL μ0 μ' ∧ ∃ C M, CM (w 3) g C M μ' ∧ BF (w 3) (opn w wt) (fun s => opn w wt s && stp w s to r) (adw w r) g C M ∧ ∀ x, x < w 3 → C x ≤ 1000000 ∧ M x ≤ 1000000) := by
  have n := hG.1
  have e_147 : ln 147 = 241 := rfl
  have e_153 : ln 153 = 25 := rfl
  have e_154 : ln 154 = 25 := rfl
  have e_155 : ln 155 = 25 := rfl
  intro f
  induction f with
  | zero =>
    intro s μ h
    omega
  | succ f ih =>
    intro s μ hf hs fr hx
    have hW1 : WH 147 w μ := wh_fr (fun i _ => by rw [fr.1 147 (by omega) (by omega)]) hW
    have w3 := wh_lo hW1 (i := 3) (by omega)
    unfold fnX12_fillLeft_L3
    rw [lk_146_1, li_3, t_ai (by omega), w3]
    by_cases c : w 3 ≤ s
    · have : s = w 3 := by omega
      subst this
      rw [t_brT (nI_le c (by omega))]
      unfold fnX12_fillLeft_J92
      have cm : CM (w 3) g (fun x => if (opn w wt x && stp w x to r) = true then g x else 1000000) (fun x => if (opn w wt x && stp w x to r) = true then 1 else 1000000) μ := by
        intro x hx'
        exact ⟨by rw [fr.1 153 (by omega) (by omega)]; exact h153 x hx', (hx x hx').1, (hx x hx').2⟩
      have bi : BI (w 3) (opn w wt) (fun s => opn w wt s && stp w s to r) (adw w r) g (fun x => if (opn w wt x && stp w x to r) = true then g x else 1000000) (fun x => if (opn w wt x && stp w x to r) = true then 1 else 1000000) := by
        refine ⟨?_, ?_⟩
        · intro x hx'
          by_cases q : (opn w wt x && stp w x to r) = true
          · right
            simp only [q, if_true]
            have qo : opn w wt x = true := by
              simp only [Bool.and_eq_true] at q
              exact q.1
            have gx := hg x hx' qo
            refine ⟨?_, gx.1, Nat.le_refl _, 0, hx', qo, q, rfl⟩
            have : 0 < fb_ct (fun x => decide ((if (opn w wt x && stp w x to r) = true then g x else 1000000) < 1000000)) (w 3) := fb_ct_pos.mpr ⟨x, hx', by
              rw [q]
              simp only [if_true]
              exact decide_eq_true (by omega)⟩
            omega
          · left
            have q' : (opn w wt x && stp w x to r) = false := by simpa using q
            simp only [q']
            exact ⟨rfl, rfl⟩
        · intro x hx' ho' hg'
          have q : (opn w wt x && stp w x to r) = true := hg'
          simp only [q, if_true]
          have gx := hg10 x hx'
          omega
      exact fill95Q hG hr hwt hg hg10 hW 4096 _ _ μ (by have := nfl_le (n := w 3) (op := opn w wt) (goal := fun s => opn w wt s && stp w s to r) (adj := adw w r) (g := g) (fun x => if (opn w wt x && stp w x to r) = true then g x else 1000000) (fun x => if (opn w wt x && stp w x to r) = true then 1 else 1000000); omega) fr cm bi
    rw [t_brF (nI_ge (by omega) (by omega))]
    have lfl := lf_leQ hG (s := s) (by omega)
    have J85 : ∀ a b : Nat, a = (if (opn w wt s && stp w s to r) = true then g s else 1000000) → b = (if (opn w wt s && stp w s to r) = true then 1 else 1000000) → T (fnX12_fillLeft_J85 (fnX12_fillLeft_L3 f) 146 (nI r) (nI wt) (nI to) (nI s) (nI b) (nI s) 155) (u2 μ.1 154 s (nI a), μ.2) (fun _ μ' => FrL μ0 μ' ∧ ∃ C M, CM (w 3) g C M μ' ∧ BF (w 3) (opn w wt) (fun s => opn w wt s && stp w s to r) (adw w r) g C M ∧ ∀ x, x < w 3 → C x ≤ 1000000 ∧ M x ≤ 1000000) := by
      intro a b ha hb
      unfold fnX12_fillLeft_J85
      rw [t_sai (by omega), nI_1]
      refine ih (s + 1) _ (by omega) (by omega) ⟨fun z z1 z2 => by rw [← fr.1 z z1 z2]; simp (disch := omega) only [u2_ne, u2_a, u2_k, u2_at], fr.2⟩ ?_
      intro x hx'
      by_cases e : x = s
      · subst e
        rw [← ha, ← hb]
        exact ⟨(by simp (disch := omega) only [u2_ne, u2_a, u2_k, u2_at]), (by simp (disch := omega) only [u2_ne, u2_a, u2_k, u2_at])⟩
      · obtain ⟨y1, y2⟩ := hx x (by omega)
        rw [← y1, ← y2]
        exact ⟨(by simp (disch := omega) only [u2_ne, u2_a, u2_k, u2_at]), (by simp (disch := omega) only [u2_ne, u2_a, u2_k, u2_at])⟩
    have no : (opn w wt s && stp w s to r) = false → T (fnX12_fillLeft_J39 (fnX12_fillLeft_L3 f) 146 (nI r) (nI wt) (nI to) (nI s)) μ (fun _ μ' => FrL μ0 μ' ∧ ∃ C M, CM (w 3) g C M μ' ∧ BF (w 3) (opn w wt) (fun s => opn w wt s && stp w s to r) (adw w r) g C M ∧ ∀ x, x < w 3 → C x ≤ 1000000 ∧ M x ≤ 1000000) := by
      intro q
      unfold fnX12_fillLeft_J39 fnX12_fillLeft_J40
      rw [t_brT rfl]
      unfold fnX12_fillLeft_J66
      rw [lk_146_16, t_sai (by omega), t_brT rfl, lk_146_17, li_1000000]
      exact J85 1000000 1000000 (by rw [q]; rfl) (by rw [q]; rfl)
    rw [t_bnd, t_eq (left12Q hW1 hG (show s < w 3 by omega))]
    by_cases c1 : lf w s < wt
    · rw [t_brT (nI_lt c1 (by omega))]
      refine no ?_
      have : opn w wt s = false := by
        unfold opn
        exact decide_eq_false (by omega)
      rw [this]
      rfl
    · rw [t_brF (nI_nlt (by omega) (by omega)), t_bnd, t_eq (isStep12Q hW1 hG (a := s) (b := to) (r := r) (Or.inl (by omega)) (Or.inr hto) (by omega))]
      cases hst : stp w s to r
      · rw [t_brT (by decide)]
        exact no (by rw [hst]; simp)
      · have ho : opn w wt s = true := by
          unfold opn
          exact decide_eq_true (by omega)
        have q : (opn w wt s && stp w s to r) = true := by rw [ho, hst]; rfl
        rw [t_brF (by decide)]
        unfold fnX12_fillLeft_J40
        rw [t_brF (by decide), lk_146_15, t_ai (by omega), fr.1 153 (by omega) (by omega), h153 s (by omega)]
        unfold fnX12_fillLeft_J66
        rw [lk_146_16, t_sai (by omega), t_brF (by decide), lk_146_17, li_1]
        exact J85 (g s) 1 (by rw [q]; rfl) (by rw [q]; rfl)
theorem fillLeft_TQ {w : Nat → Nat} (hG : GoodQ w) {r wt to : Nat} (hr : r ≤ 9) (hwt : wt < 100) (hto : to = 98 ∨ to = 99) {g : Nat → Nat} (hg : ∀ x, x < w 3 → opn w wt x = true → 1 ≤ g x ∧ g x ≤ 10) (hg10 : ∀ x, x < w 3 → g x ≤ 10) {μ : sm_Mem} (hW : WH 147 w μ) (h153 : ∀ x, x < w 3 → μ.1 153 x = nI (g x)) :
    T (fnX12_fillLeft 146 (nI r) (nI wt) (nI to)) μ (fun _ μ' => FrL μ μ' ∧ ∃ C M, CM (w 3) g C M μ' ∧ BF (w 3) (opn w wt) (fun s => opn w wt s && stp w s to r) (adw w r) g C M ∧ ∀ x, x < w 3 → C x ≤ 1000000 ∧ M x ≤ 1000000) := by
  have n := hG.1
  unfold fnX12_fillLeft
  exact fillLeft_LQ hG hr hwt hto hg hg10 hW h153 4096 0 μ (by omega) (by omega) ⟨fun _ _ _ => rfl, rfl⟩ (fun x hx => absurd hx (by omega))
theorem finds174Q {k141 : Nat → Int32 → Int32 → Int32 → sm_M Bool} {w : Nat → Nat} (hG : GoodQ w) {r : Nat} (hr : r ≤ 9) {g C M : Nat → Nat} {s : Nat} (hs : s < w 3) (hb : ∀ x, x < w 3 → g x ≤ 10 ∧ C x ≤ 1000000 ∧ M x ≤ 1000000) {v5 : Int32} {μ : sm_Mem} (hW : WH 147 w μ) (cm : CM (w 3) g C M μ) :
    ∀ (f q : Nat) (v7 : Int32), w 3 - q < f → q ≤ w 3 → ((v7 = mI 1 ∧ ∀ x, x < q → 1 < M s → ¬ (x ≠ s ∧ C x < 1000000 ∧ stp w s x r = true ∧ g s + C x = C s ∧ 1 + M x = M s)) ∨ ∃ x, v7 = nI x ∧ x < w 3 ∧ 1 < M s ∧ (x ≠ s ∧ C x < 1000000 ∧ stp w s x r = true ∧ g s + C x = C s ∧ 1 + M x = M s) ∧ ∀ y, y < x → ¬ (y ≠ s ∧ C y < 1000000 ∧ stp w s y r = true ∧ g s + C y = C s ∧ 1 + M y = M s)) →
    ∃ v, fnX12_finds_L174 k141 f 146 (nI r) v5 (nI s) v7 (nI q) μ = k141 146 (nI r) v5 v μ ∧ ((v = mI 1 ∧ ∀ x, x < w 3 → 1 < M s → ¬ (x ≠ s ∧ C x < 1000000 ∧ stp w s x r = true ∧ g s + C x = C s ∧ 1 + M x = M s)) ∨ ∃ x, v = nI x ∧ x < w 3 ∧ 1 < M s ∧ (x ≠ s ∧ C x < 1000000 ∧ stp w s x r = true ∧ g s + C x = C s ∧ 1 + M x = M s) ∧ ∀ y, y < x → ¬ (y ≠ s ∧ C y < 1000000 ∧ stp w s y r = true ∧ g s + C y = C s ∧ 1 + M y = M s)) := by
  have n := hG.1
  have e_147 : ln 147 = 241 := rfl
  have e_153 : ln 153 = 25 := rfl
  have e_154 : ln 154 = 25 := rfl
  have e_155 : ln 155 = 25 := rfl
  have w3 := wh_lo hW (i := 3) (by omega)
  intro f
  induction f with
  | zero =>
    intro q v7 h
    omega
  | succ f ih =>
    intro q v7 hf hq hx
    unfold fnX12_finds_L174 fnX12_finds_J300
    rw [lk_146_1, li_3, e_ai (by omega), w3]
    by_cases c : w 3 ≤ q
    · have : q = w 3 := by omega
      subst this
      simp only [m_br]
      rw [if_pos (nI_le c (by omega))]
      exact ⟨v7, rfl, hx⟩
    have i1 : w 3 - (q + 1) < f := by omega
    have i2 : q + 1 ≤ w 3 := by omega
    simp only [m_br]
    rw [if_neg (nI_ge (by omega) (by omega))]
    rcases hx with ⟨e7, hx⟩ | ⟨x, e7, hx⟩
    · rw [if_pos (show v7 = (-1 : Int32) from e7), lk_146_17, e_ai (by omega), (cm s hs).2.2]
      have ms := (hb s hs).2.2
      simp only [m_br]
      by_cases c1 : M s ≤ 1
      · rw [if_pos (show nI (M s) ≤ (1 : Int32) from nI_le (b := 1) c1 (by omega))]
        exact ⟨v7, rfl, Or.inl ⟨e7, fun x _ h => absurd h (by omega)⟩⟩
      rw [if_neg (show ¬ nI (M s) ≤ (1 : Int32) from nI_ge (a := 1) (by omega) (by omega))]
      have no : ¬ (q ≠ s ∧ C q < 1000000 ∧ stp w s q r = true ∧ g s + C q = C s ∧ 1 + M q = M s) → ∃ v, fnX12_finds_J294 k141 (fnX12_finds_L174 k141 f) 146 (nI r) v5 (nI s) v7 (nI q) μ = k141 146 (nI r) v5 v μ ∧ ((v = mI 1 ∧ ∀ x, x < w 3 → 1 < M s → ¬ (x ≠ s ∧ C x < 1000000 ∧ stp w s x r = true ∧ g s + C x = C s ∧ 1 + M x = M s)) ∨ ∃ x, v = nI x ∧ x < w 3 ∧ 1 < M s ∧ (x ≠ s ∧ C x < 1000000 ∧ stp w s x r = true ∧ g s + C x = C s ∧ 1 + M x = M s) ∧ ∀ y, y < x → ¬ (y ≠ s ∧ C y < 1000000 ∧ stp w s y r = true ∧ g s + C y = C s ∧ 1 + M y = M s)) := by
        intro hn
        unfold fnX12_finds_J294
        rw [nI_1]
        refine ih (q + 1) v7 i1 i2 (Or.inl ⟨e7, fun x hx' hm => ?_⟩)
        by_cases e : x = q
        · subst e
          exact hn
        · exact hx x (by omega) hm
      have J238 : ∀ X, fnX12_finds_J294 k141 (fnX12_finds_L174 k141 f) 146 (nI r) v5 (nI s) v7 (nI q) μ = X → fnX12_finds_J238 k141 (fnX12_finds_L174 k141 f) 146 (nI r) v5 (nI s) v7 (nI q) μ = X := by
        intro X hX
        unfold fnX12_finds_J238 fnX12_finds_J239
        simp only [m_br, if_true]
        exact hX
      by_cases c2 : q = s
      · rw [if_pos (by rw [c2])]
        obtain ⟨v, a, b⟩ := no (fun z => z.1 c2)
        exact ⟨v, J238 _ a, b⟩
      rw [if_neg (by rw [nI_eq (by omega) (by omega)]; exact c2), lk_146_16, e_ai (by omega), (cm q (by omega)).2.1]
      have cq := (hb q (by omega)).2
      simp only [m_br]
      by_cases c3 : 1000000 ≤ C q
      · rw [if_pos (show (1000000 : Int32) ≤ nI (C q) from nI_le (a := 1000000) c3 (by omega))]
        obtain ⟨v, a, b⟩ := no (fun z => by have := z.2.1; omega)
        exact ⟨v, J238 _ a, b⟩
      rw [if_neg (show ¬ (1000000 : Int32) ≤ nI (C q) from nI_ge (b := 1000000) (by omega) (by omega))]
      simp only [m_bnd, isStep12Q hW hG (a := s) (b := q) (r := r) (Or.inl hs) (Or.inl (show q < w 3 by omega)) (show r < 100 by omega), m_br, bI_0]
      cases hst : stp w s q r
      · rw [if_pos rfl]
        obtain ⟨v, a, b⟩ := no (fun z => by rw [hst] at z; cases z.2.2.1)
        exact ⟨v, J238 _ a, b⟩
      rw [if_neg (by decide)]
      unfold fnX12_finds_J239
      simp only [m_br]
      rw [if_neg (by decide), lk_146_15, e_ai (show s < ln 153 by omega), lk_146_16, e_ai (show q < ln 154 by omega), e_ai (show s < ln 154 by omega), (cm s hs).1, (cm s hs).2.1, (cm q (by omega)).2.1, nI_add]
      have gs := (hb s hs).1
      have cs := (hb s hs).2.1
      simp only [m_br]
      by_cases c4 : g s + C q = C s
      · rw [if_pos (by rw [c4]), lk_146_17, e_ai (show q < ln 155 by omega), e_ai (show s < ln 155 by omega), (cm q (by omega)).2.2, (cm s hs).2.2, li_1, nI_add]
        simp only [m_br]
        by_cases c5 : 1 + M q = M s
        · rw [if_pos (by rw [c5])]
          unfold fnX12_finds_J294
          rw [nI_1]
          exact ih (q + 1) (nI q) i1 i2 (Or.inr ⟨q, rfl, by omega, by omega, ⟨c2, by omega, hst, c4, c5⟩, fun y hy => hx y hy (by omega)⟩)
        · rw [if_neg (by rw [nI_eq (by omega) (by omega)]; exact c5)]
          exact no (fun z => c5 z.2.2.2.2)
      · rw [if_neg (by rw [nI_eq (by omega) (by omega)]; exact c4)]
        exact no (fun z => c4 z.2.2.2.1)
    · rw [if_neg (by rw [e7]; exact n_m1 (by omega))]
      exact ⟨v7, rfl, Or.inr ⟨x, e7, hx⟩⟩
theorem finds141Q {w : Nat → Nat} (hG : GoodQ w) {op goal : Nat → Bool} {r : Nat} (hr : r ≤ 9) {g C M : Nat → Nat} (hg : ∀ s, s < w 3 → op s = true → 1 ≤ g s) (hb : ∀ x, x < w 3 → g x ≤ 10 ∧ C x ≤ 1000000 ∧ M x ≤ 1000000) (bf : BF (w 3) op goal (adw w r) g C M) {b : Nat} (hbb : b < 32) :
    ∀ (f z s : Nat) (μ : sm_Mem), M s < f → WH 147 w μ → CM (w 3) g C M μ → μ.1 146 19 = nI z → z + M s ≤ 24 → s < w 3 → C s < 1000000 →
    T (fnX12_finds_L141 f 146 (nI r) (nI b) (nI s)) μ (fun x μ' => x = true ∧ ∃ l, RowF (w 3) op goal (adw w r) (fun x => 32 * g x + 1) s l ∧ z + 1 + l.length ≤ 24 ∧ μ'.1 146 19 = nI (z + 1 + l.length) ∧ (∀ i, i < z → μ'.1 156 i = μ.1 156 i) ∧ μ'.1 156 z = nI s ∧ (∀ i, i < l.length → μ'.1 156 (z + 1 + i) = nI (l.getD i 0)) ∧ (∀ k, k ≠ 19 → μ'.1 146 k = μ.1 146 k) ∧ (∀ a, a ≠ 146 → a ≠ 156 → μ'.1 a = μ.1 a) ∧ μ'.2 = μ.2) := by
  have n := hG.1
  have e_156 : ln 156 = 25 := rfl
  intro f
  induction f with
  | zero =>
    intro z s μ h
    omega
  | succ f ih =>
    intro z s μ hf hW cm hz hzs hs hF
    obtain ⟨m1, m2, m3, -⟩ := bf.1 s hs hF
    unfold fnX12_finds_L141
    rw [t_brF (show ¬ nI s = (-1 : Int32) from n_m1 (by omega)), t_gi, hz, lk_146_18, t_sai (by omega), t_gi, t_si]
    have y1 : (u2 μ.1 156 z (nI s), μ.2).1 146 19 = nI z := by
      rw [← hz]
      simp (disch := omega) only [u2_ne, u2_a, u2_k, u2_at]
    rw [y1, nI_1]
    have hW1 : WH 147 w (u2 (u2 μ.1 156 z (nI s)) 146 19 (nI (z + 1)), μ.2) := wh_fr (μ := μ) (fun a h1 => (by simp (disch := omega) only [u2_ne, u2_a, u2_k, u2_at])) hW
    have cm1 : CM (w 3) g C M (u2 (u2 μ.1 156 z (nI s)) 146 19 (nI (z + 1)), μ.2) := by
      intro x hx
      obtain ⟨a, b, c⟩ := cm x hx
      rw [← a, ← b, ← c]
      exact ⟨(by simp (disch := omega) only [u2_ne, u2_a, u2_k, u2_at]), (by simp (disch := omega) only [u2_ne, u2_a, u2_k, u2_at]), (by simp (disch := omega) only [u2_ne, u2_a, u2_k, u2_at])⟩
    obtain ⟨v, e, hv⟩ := finds174Q (k141 := fnX12_finds_L141 f) hG hr hs hb (v5 := nI b) hW1 cm1 4096 0 (mI 1) (by omega) (by omega) (Or.inl ⟨rfl, fun x hx => absurd hx (by omega)⟩)
    have e' : fnX12_finds_L174 (fnX12_finds_L141 f) 4096 146 (nI r) (nI b) (nI s) (-1 : Int32) (0 : Int32) (u2 (u2 μ.1 156 z (nI s)) 146 19 (nI (z + 1)), μ.2) = fnX12_finds_L141 f 146 (nI r) (nI b) v (u2 (u2 μ.1 156 z (nI s)) 146 19 (nI (z + 1)), μ.2) := e
    have eT : ∀ Q, T (fnX12_finds_L174 (fnX12_finds_L141 f) 4096 146 (nI r) (nI b) (nI s) (-1 : Int32) (0 : Int32)) (u2 (u2 μ.1 156 z (nI s)) 146 19 (nI (z + 1)), μ.2) Q ↔ T (fnX12_finds_L141 f 146 (nI r) (nI b) v) (u2 (u2 μ.1 156 z (nI s)) 146 19 (nI (z + 1)), μ.2) Q := by
      intro Q
      unfold T
      rw [e']
    rw [eT]
    have nxt : ∀ x, x < w 3 → (Nxt (w 3) op goal (adw w r) (fun x => 32 * g x + 1) s x ↔ (x ≠ s ∧ C x < 1000000 ∧ stp w s x r = true ∧ g s + C x = C s ∧ 1 + M x = M s)) := by
      intro x hx
      rw [bf_nxt n.1 hg bf hs hF hx]
      constructor
      · rintro ⟨a1, a2, a3, a4⟩
        unfold adw at a1
        simp only [Bool.and_eq_true] at a1
        refine ⟨fun e => ?_, a2, a1.2, a3, a4⟩
        subst e
        omega
      · rintro ⟨a1, a2, a3, a4, a5⟩
        refine ⟨?_, a2, a4, a5⟩
        unfold adw
        rw [decide_eq_true ⟨hs, hx⟩, a3]
        rfl
    rcases hv with ⟨e1, hv⟩ | ⟨q, e1, hq, hm, hq2, hq3⟩
    · subst e1
      have hms : M s ≤ 1 := by
        rcases Nat.lt_or_ge 1 (M s) with hm | hm
        · exfalso
          obtain ⟨ho, hx⟩ := bf_inv hg bf hs hF
          rcases hx with ⟨-, -, e⟩ | ⟨q, hq, ha, hFq, e2, e3⟩
          · omega
          · have := (nxt q hq).mp ((bf_nxt n.1 hg bf hs hF hq).mpr ⟨ha, hFq, e2.symm, e3.symm⟩)
            exact hv q hq hm this
        · exact hm
      cases f with
      | zero => omega
      | succ f =>
        unfold fnX12_finds_L141 fnX12_finds_J307
        rw [t_brT (show mI 1 = (-1 : Int32) from rfl), t_brF (show ¬ nI b = (-1 : Int32) from n_m1 (by omega)), t_ret]
        refine ⟨rfl, [], (bf_goal hg bf hs hF).mp hms, by simp only [List.length_nil]; omega, (by simp (disch := omega) only [u2_ne, u2_a, u2_k, u2_at, List.length_nil, Nat.add_zero]), fun i hi => (by simp (disch := omega) only [u2_ne, u2_a, u2_k, u2_at]), (by simp (disch := omega) only [u2_ne, u2_a, u2_k, u2_at]), fun i hi => absurd hi (by simp), fun k hk => (by simp (disch := omega) only [u2_ne, u2_a, u2_k, u2_at]), fun a a1 a2 => (by simp (disch := omega) only [u2_ne, u2_a, u2_k, u2_at]), rfl⟩
    · subst e1
      have hg0 : goal s = false := by
        cases q0 : goal s
        · rfl
        · have := (bf_goal hg bf hs hF).mpr q0
          omega
      refine t_mono (ih (z + 1) q (u2 (u2 μ.1 156 z (nI s)) 146 19 (nI (z + 1)), μ.2) (by omega) hW1 cm1 (by simp (disch := omega) only [u2_ne, u2_a, u2_k, u2_at]) (by omega) hq hq2.2.1) ?_
      rintro x μ' ⟨l0, l, l1, l2, l3, l4, l5, l6, l7, l8, l9⟩
      refine ⟨l0, q :: l, ⟨hg0, ⟨(nxt q hq).mpr hq2, fun y hy hN => hq3 y hy ((nxt y (by omega)).mp hN)⟩, l1⟩, by simp only [List.length_cons]; omega, by rw [l3]; congr 1; simp only [List.length_cons]; omega, ?_, ?_, ?_, ?_, ?_, l9⟩
      · intro i hi
        rw [l4 i (by omega)]
        simp (disch := omega) only [u2_ne, u2_a, u2_k, u2_at]
      · rw [l4 z (by omega)]
        simp (disch := omega) only [u2_ne, u2_a, u2_k, u2_at]
      · intro i hi
        cases i with
        | zero =>
          rw [Nat.add_zero, l5]
          rfl
        | succ i =>
          simp only [List.length_cons] at hi
          rw [show z + 1 + (i + 1) = z + 1 + 1 + i by omega, l6 i (by omega)]
          rfl
      · intro k hk
        rw [l7 k hk]
        simp (disch := omega) only [u2_ne, u2_a, u2_k, u2_at]
      · intro a a1 a2
        rw [l8 a a1 a2]
        simp (disch := omega) only [u2_ne, u2_a, u2_k, u2_at]
theorem finds48Q {w : Nat → Nat} (hG : GoodQ w) {op goal bg : Nat → Bool} {r bank : Nat} (hr : r ≤ 9) (hbank : bank = 98 ∨ bank = 99) {g C M : Nat → Nat} (hg : ∀ s, s < w 3 → op s = true → 1 ≤ g s) (hb : ∀ x, x < w 3 → g x ≤ 10 ∧ C x ≤ 1000000 ∧ M x ≤ 1000000) (bf : BF (w 3) op goal (adw w r) g C M) (hbg : ∀ x, x < w 3 → bg x = (op x && stp w bank x r)) (hbl : ∀ x, bg x = true → x < w 3) {μ : sm_Mem} (hW : WH 147 w μ) (cm : CM (w 3) g C M μ) (hz : μ.1 146 19 = nI 0) :
    ∀ (f s : Nat) (v5 : Int32), w 3 - s < f → s ≤ w 3 → ((v5 = mI 1 ∧ ∀ x, x < s → C x < 1000000 → stp w bank x r = false) ∨ ∃ b, v5 = nI b ∧ b < s ∧ C b < 1000000 ∧ stp w bank b r = true ∧ (∀ x, x < s → C x < 1000000 → stp w bank x r = true → 32 * C b + M b ≤ 32 * C x + M x) ∧ ∀ x, x < b → C x < 1000000 → stp w bank x r = true → 32 * C b + M b < 32 * C x + M x) →
    T (fnX12_finds_L48 f 146 (nI r) (nI bank) v5 (nI s)) μ (fun x μ' => ∃ l, IsRow (w 3) op goal bg (adw w r) (fun x => 32 * g x + 1) l ∧ l.length ≤ 24 ∧ (x = true ↔ l ≠ []) ∧ (l ≠ [] → μ'.1 146 19 = nI l.length ∧ ∀ i, i < l.length → μ'.1 156 i = nI (l.getD i 0)) ∧ (∀ k, k ≠ 19 → μ'.1 146 k = μ.1 146 k) ∧ (∀ a, a ≠ 146 → a ≠ 156 → μ'.1 a = μ.1 a) ∧ μ'.2 = μ.2) := by
  have n := hG.1
  have e_147 : ln 147 = 241 := rfl
  have e_154 : ln 154 = 25 := rfl
  have e_155 : ln 155 = 25 := rfl
  have w3 := wh_lo hW (i := 3) (by omega)
  have k := bf_32 n.1 hg bf
  intro f
  induction f with
  | zero =>
    intro s v5 h
    omega
  | succ f ih =>
    intro s v5 hf hs hx
    unfold fnX12_finds_L48
    rw [lk_146_1, li_3, t_ai (by omega), w3]
    by_cases c : w 3 ≤ s
    · have : s = w 3 := by omega
      subst this
      rw [t_brT (nI_le c (by omega))]
      unfold fnX12_finds_J137
      rcases hx with ⟨e, hx⟩ | ⟨b, e, b1, b2, b3, b4, b5⟩
      · subst e
        unfold fnX12_finds_L141 fnX12_finds_J307
        rw [t_brT (show mI 1 = (-1 : Int32) from rfl), t_brT (show mI 1 = (-1 : Int32) from rfl), t_ret]
        refine ⟨[], ?_, by simp, by simp, fun h => absurd rfl h, fun _ _ => rfl, fun _ _ _ => rfl, rfl⟩
        intro s v hs' hd
        have hsn := (dm_s hd).1
        have hF := (k s hsn).2 ⟨v, hd⟩
        rw [hbg s hsn, hx s hsn hF] at hs'
        simp at hs'
      · subst e
        obtain ⟨m24, hD⟩ := (k b b1).1 b2
        have hob := (dm_s hD).2
        refine t_mono (finds141Q hG hr hg hb bf (b := b) (by omega) 4096 0 b μ (by omega) hW cm hz (by omega) b1 b2) ?_
        rintro x μ' ⟨l0, l, l1, l2, l3, l4, l5, l6, l7, l8, l9⟩
        refine ⟨b :: l, ⟨⟨⟨by rw [hbg b b1, hob, b3]; rfl, 32 * C b + M b, hD, ?_⟩, ?_⟩, l1⟩, by simp only [List.length_cons]; omega, by simp [l0], fun _ => ⟨by rw [l3]; congr 1; simp only [List.length_cons]; omega, ?_⟩, l7, l8, l9⟩
        · intro s' v' hs' hd'
          have hsn := (dm_s hd').1
          have hF := (k s' hsn).2 ⟨v', hd'⟩
          have e := dm_one hd' ((k s' hsn).1 hF).2
          rw [hbg s' hsn] at hs'
          simp only [Bool.and_eq_true] at hs'
          rw [e]
          exact b4 s' hsn hF hs'.2
        · rintro s' hs' ⟨f1, v, f2, f3⟩
          have hsn := (dm_s f2).1
          have hF := (k s' hsn).2 ⟨v, f2⟩
          have e := dm_one f2 ((k s' hsn).1 hF).2
          rw [hbg s' hsn] at f1
          simp only [Bool.and_eq_true] at f1
          have := b5 s' hs' hF f1.2
          have := f3 b _ (by rw [hbg b b1, hob, b3]; rfl) hD
          omega
        · intro i hi
          cases i with
          | zero =>
            rw [l5]
            rfl
          | succ i =>
            simp only [List.length_cons] at hi
            rw [show i + 1 = 0 + 1 + i by omega, l6 i (by omega)]
            rw [show 0 + 1 + i = i + 1 by omega]
            rfl
    have i1 : w 3 - (s + 1) < f := by omega
    have i2 : s + 1 ≤ w 3 := by omega
    have cs := (hb s (by omega)).2
    have skip : ¬ (C s < 1000000 ∧ stp w bank s r = true ∧ (∀ b, v5 = nI b → b < 32 → 32 * C s + M s < 32 * C b + M b)) → T (fnX12_finds_J131 (fnX12_finds_L48 f) 146 (nI r) (nI bank) v5 (nI s)) μ (fun x μ' => ∃ l, IsRow (w 3) op goal bg (adw w r) (fun x => 32 * g x + 1) l ∧ l.length ≤ 24 ∧ (x = true ↔ l ≠ []) ∧ (l ≠ [] → μ'.1 146 19 = nI l.length ∧ ∀ i, i < l.length → μ'.1 156 i = nI (l.getD i 0)) ∧ (∀ k, k ≠ 19 → μ'.1 146 k = μ.1 146 k) ∧ (∀ a, a ≠ 146 → a ≠ 156 → μ'.1 a = μ.1 a) ∧ μ'.2 = μ.2) := by
      intro hn
      unfold fnX12_finds_J131
      rw [nI_1]
      refine ih (s + 1) v5 i1 i2 ?_
      rcases hx with ⟨e, hx⟩ | ⟨b, e, b1, b2, b3, b4, b5⟩
      · left
        refine ⟨e, fun x hx' hF => ?_⟩
        by_cases e' : x = s
        · subst e'
          cases q : stp w bank x r
          · rfl
          · exact absurd ⟨hF, q, fun b hb' hb32 => absurd (hb'.symm.trans e) (n_m1 (by omega))⟩ hn
        · exact hx x (by omega) hF
      · right
        refine ⟨b, e, by omega, b2, b3, fun x hx' hF hst => ?_, b5⟩
        by_cases e' : x = s
        · subst e'
          rcases Nat.lt_or_ge (32 * C x + M x) (32 * C b + M b) with q | q
          · exact absurd ⟨hF, hst, fun b' hb' hb32 => by
              have : b = b' := (nI_eq (by omega) (by omega)).mp (e.symm.trans hb')
              rw [← this]
              exact q⟩ hn
          · exact q
        · exact b4 x (by omega) hF hst
    have take : C s < 1000000 → stp w bank s r = true → (∀ b, v5 = nI b → b < 32 → 32 * C s + M s < 32 * C b + M b) → T (fnX12_finds_J127 (fnX12_finds_L48 f) 146 (nI r) (nI bank) (nI s)) μ (fun x μ' => ∃ l, IsRow (w 3) op goal bg (adw w r) (fun x => 32 * g x + 1) l ∧ l.length ≤ 24 ∧ (x = true ↔ l ≠ []) ∧ (l ≠ [] → μ'.1 146 19 = nI l.length ∧ ∀ i, i < l.length → μ'.1 156 i = nI (l.getD i 0)) ∧ (∀ k, k ≠ 19 → μ'.1 146 k = μ.1 146 k) ∧ (∀ a, a ≠ 146 → a ≠ 156 → μ'.1 a = μ.1 a) ∧ μ'.2 = μ.2) := by
      intro t1 t2 t3
      unfold fnX12_finds_J127 fnX12_finds_J131
      rw [nI_1]
      refine ih (s + 1) (nI s) i1 i2 (Or.inr ⟨s, rfl, by omega, t1, t2, fun x hx' hF hst => ?_, fun x hx' hF hst => ?_⟩)
      · by_cases e' : x = s
        · subst e'
          exact Nat.le_refl _
        · rcases hx with ⟨e, hx⟩ | ⟨b, e, b1, b2, b3, b4, b5⟩
          · have := hx x (by omega) hF
            rw [hst] at this
            cases this
          · have := t3 b e (by omega)
            have := b4 x (by omega) hF hst
            omega
      · rcases hx with ⟨e, hx⟩ | ⟨b, e, b1, b2, b3, b4, b5⟩
        · have := hx x (by omega) hF
          rw [hst] at this
          cases this
        · have := t3 b e (by omega)
          have := b4 x (by omega) hF hst
          omega
    rw [t_brF (nI_ge (by omega) (by omega)), lk_146_16, t_ai (by omega), (cm s (by omega)).2.1]
    by_cases c1 : 1000000 ≤ C s
    · rw [t_brT (show (1000000 : Int32) ≤ nI (C s) from nI_le (a := 1000000) c1 (by omega))]
      exact skip (fun z => by have := z.1; omega)
    rw [t_brF (show ¬ (1000000 : Int32) ≤ nI (C s) from nI_ge (b := 1000000) (by omega) (by omega)), t_bnd, t_eq (isStep12Q hW hG (a := bank) (b := s) (r := r) (Or.inr hbank) (Or.inl (show s < w 3 by omega)) (by omega))]
    cases hst : stp w bank s r
    · rw [t_brT (by decide)]
      exact skip (fun z => by rw [hst] at z; cases z.2.1)
    rw [t_brF (by decide)]
    rcases hx with ⟨e, hx⟩ | ⟨b, e, b1, b2, b3, b4, b5⟩
    · rw [t_brT (show v5 = (-1 : Int32) from e)]
      exact take (by omega) hst (fun b hb' hb32 => absurd (hb'.symm.trans e) (n_m1 (by omega)))
    · subst e
      have cb := (hb b (by omega)).2
      obtain ⟨mb, -⟩ := (k b (by omega)).1 b2
      obtain ⟨ms, -⟩ := (k s (by omega)).1 (by omega)
      rw [t_brF (show ¬ nI b = (-1 : Int32) from n_m1 (by omega)), lk_146_17, t_ai (show s < ln 154 by omega), t_ai (show s < ln 155 by omega), t_ai (show b < ln 154 by omega), t_ai (show b < ln 155 by omega), (cm s (by omega)).2.1, (cm s (by omega)).2.2, (cm b (by omega)).2.1, (cm b (by omega)).2.2, t_bnd, t_eq (isLess_eq (by omega) (by omega) (by omega) (by omega) μ)]
      by_cases c4 : C s < C b ∨ (C s = C b ∧ M s < M b)
      · rw [decide_eq_true c4, t_brF (by decide)]
        exact take (by omega) hst (fun b' hb' hb32 => by
          have : b = b' := (nI_eq (by omega) (by omega)).mp hb'
          rw [← this]
          omega)
      · rw [decide_eq_false c4, t_brT (by decide)]
        exact skip (fun z => by
          have := z.2.2 b rfl (by omega)
          omega)
theorem finds_TQ {w : Nat → Nat} (hG : GoodQ w) {r wt way bank : Nat} (hr : 1 ≤ r) (hr9 : r ≤ 9) (hw1 : 1 ≤ wt) (hwt : wt < 100) (hw : way < 4) (hbank : bank = 98 ∨ bank = 99) {μ : sm_Mem} (hW : WH 147 w μ) : T (fnX12_finds 146 (nI r) (nI wt) (nI way) (nI bank)) μ (fun x μ' => FindP w r wt way bank x μ μ') := by
  have n := hG.1
  have gw := good_wideQ hG
  have e_147 : ln 147 = 241 := rfl
  have hW0 : WH 147 w (u2 μ.1 146 19 (nI 0), μ.2) := wh_fr (μ := μ) (fun a h1 => (by simp (disch := omega) only [u2_ne, u2_a, u2_k, u2_at])) hW
  have x1 := wh_lo hW0 (i := 1) (by omega)
  unfold fnX12_finds
  rw [li_0, t_si, lk_146_1, li_1, t_ai (by omega), x1]
  by_cases c1 : r < w 1
  · rw [t_brT (nI_lt c1 (by omega)), t_bnd]
    refine t_mono (fillCosts_TQ hG hw hW0) ?_
    rintro - μ1 ⟨a1, a2, a3⟩
    have hW1 : WH 147 w μ1 := wh_fr (fun i _ => by rw [a1 147 (by omega)]) hW0
    have hg : ∀ x, x < w 3 → opn w wt x = true → 1 ≤ costW w way x ∧ costW w way x ≤ 10 := fun x hx ho => ⟨(cost_rngQ hG hx hw1).2 ho, (cost_rngQ hG (wt := wt) hx hw1).1⟩
    have hg10 : ∀ x, x < w 3 → costW w way x ≤ 10 := fun x hx => (cost_rngQ hG (wt := wt) hx hw1).1
    have J : ∀ to : Nat, to = 197 - bank → T (fnX12_finds_J39 146 (nI r) (nI bank) (nI to) (nI wt) (nI r) 146) μ1 (fun x μ' => FindP w r wt way bank x μ μ') := by
      intro to hto
      unfold fnX12_finds_J39
      rw [t_bnd]
      refine t_mono (fillLeft_TQ hG hr9 hwt (to := to) (by omega) hg hg10 hW1 a3) ?_
      rintro - μ2 ⟨fr, C, M, cm, bf, hcm⟩
      subst hto
      have hb : ∀ x, x < w 3 → costW w way x ≤ 10 ∧ C x ≤ 1000000 ∧ M x ≤ 1000000 := by
        intro x hx
        exact ⟨hg10 x hx, hcm x hx⟩
      have hW2 : WH 147 w μ2 := wh_fr (fun i _ => by rw [fr.1 147 (by omega) (by omega)]) hW1
      refine t_mono (finds48Q hG hr9 hbank (bg := fun s => opn w wt s && stp w bank s r) (fun s hs ho => (hg s hs ho).1) hb bf (fun x hx => rfl) (fun x h => by
        simp only [Bool.and_eq_true] at h
        exact opn_lt h.1) hW2 cm (by rw [fr.1 146 (by omega) (by omega), a1 146 (by omega)]; simp (disch := omega) only [u2_ne, u2_a, u2_k, u2_at]) 4096 0 (mI 1) (by omega) (by omega) (Or.inl ⟨rfl, fun x hx => absurd hx (by omega)⟩)) ?_
      rintro x μ3 ⟨l, l1, l2, l3, l4, l5, l6, l7⟩
      have fw := findW_row (by omega) l1
      refine ⟨?_, ?_, ?_, ?_⟩
      · rw [fw]
        by_cases c0 : l = []
        · rw [if_pos c0]
          simp only
          cases x
          · rfl
          · exact absurd c0 (l3.mp rfl)
        · rw [if_neg c0]
          exact ⟨l3.mpr c0, l2, (l4 c0).1, (l4 c0).2, isRow_facts (fun s _ => by show 1 ≤ 32 * costW w way s + 1; omega) l1⟩
      · intro k hk
        rw [l5 k hk, fr.1 146 (by omega) (by omega), a1 146 (by omega)]
        simp (disch := omega) only [u2_ne, u2_a, u2_k, u2_at]
      · intro a z1 z2
        rw [l6 a z1 (by omega), fr.1 a (by omega) (by omega), a1 a (by omega)]
        simp (disch := omega) only [u2_ne, u2_a, u2_k, u2_at]
      · exact l7.trans (fr.2.trans a2)
    rcases hbank with rfl | rfl
    · rw [t_brT (show nI 98 = (98 : Int32) from rfl), li_99]
      exact J 99 rfl
    · rw [t_brF (by decide), li_98]
      exact J 98 rfl
  · rw [t_brF (nI_nlt (by omega) (by omega)), t_ret]
    refine ⟨?_, fun k hk => (by simp (disch := omega) only [u2_ne, u2_a, u2_k, u2_at]), fun a a1 a2 => (by simp (disch := omega) only [u2_ne, u2_a, u2_k, u2_at]), rfl⟩
    unfold findW
    rw [if_pos (by omega)]
    exact ⟨rfl, by simp, (by simp (disch := omega) only [u2_ne, u2_a, u2_k, u2_at, List.length_nil]), fun i hi => absurd hi (by simp), fun x hx => absurd hx (by simp), List.nodup_nil⟩
theorem hand_casesQ {w : Nat → Nat} (hG : GoodQ w) {u : Nat} (hu : u < w 4) : w (190 + 7 * u) = 0 ∨ (w (190 + 7 * u) ≠ 0 ∧ w (190 + 7 * u) - 1 < w 4 ∧ w (190 + 7 * u) ≤ 8 ∧ w (190 + 7 * u) - 1 ≠ u) := by
  have n := hG.1
  rcases hG.2.2.2.2.2.2.2.2.1 u hu with q | ⟨q, a, b, c, d⟩
  · exact Or.inl q
  · exact Or.inr ⟨by omega, by omega, by omega, by omega⟩
theorem isUnit7Q {w : Nat → Nat} {μ : sm_Mem} (hR : RH 14 w μ) (hG : GoodQ w) {u : Nat} (hu : u < w 4) : fnX7_isUnit 14 (nI u) μ = some (lead w u, μ) := by
  have n := hG.1
  have r5 := hR.1.2.2.2.2.2
  have hh := hand14 hR hu
  have e_23 : ln 23 = 8 := rfl
  unfold fnX7_isUnit lead
  simp only [m_br, m_gi, r5]
  rw [if_neg (nI_pos (by omega)), if_neg (nI_ge (by omega) (by omega)), lk_14_16, e_ai (by omega), hh]
  simp only [m_br]
  rcases hand_casesQ hG hu with q | ⟨q1, q2, q3, q4⟩
  · rw [if_pos ((hd_mm (by omega)).mpr q), decide_eq_true (Or.inl q)]
    rfl
  · rw [if_neg (fun z => q1 ((hd_mm (by omega)).mp z)), e_ai (by omega), hh, hd_q q1]
    simp only [m_br]
    by_cases c : w (190 + 7 * u) - 1 ≤ u
    · rw [if_pos (nI_le c (by omega)), decide_eq_false (by omega)]
      rfl
    · rw [if_neg (nI_ge (by omega) (by omega)), decide_eq_true (by omega)]
      rfl
theorem leads12Q {w : Nat → Nat} {μ : sm_Mem} (hW : WH 147 w μ) (hG : GoodQ w) {u : Nat} (hu : u < w 4) : fnX12_leads 146 (nI u) μ = some (lead w u, μ) := by
  have n := hG.1
  have hh := ofH_eq hW (p := u) (by omega)
  unfold fnX12_leads lead
  simp only [m_bnd, hh, m_br]
  rcases hand_casesQ hG hu with q | ⟨q1, q2, q3, q4⟩
  · rw [if_pos ((hd_m1 (by omega)).mpr q), decide_eq_true (Or.inl q)]
    rfl
  · rw [if_neg (fun z => q1 ((hd_m1 (by omega)).mp z)), hd_q' q1]
    by_cases c : w (190 + 7 * u) - 1 ≤ u
    · rw [if_pos (nI_le c (by omega)), decide_eq_false (by omega)]
      rfl
    · rw [if_neg (nI_ge (by omega) (by omega)), decide_eq_true (by omega)]
      rfl
theorem second12Q {w : Nat → Nat} {μ : sm_Mem} (hW : WH 147 w μ) (hG : GoodQ w) {u : Nat} (hu : u < w 4) : fnX12_second 146 (nI u) μ = some (nI (w (190 + 7 * u)) - 1, μ) := by
  have n := hG.1
  unfold fnX12_second
  simp only [m_bnd, ofH_eq hW (p := u) (by omega), m_ret]
theorem isAt9Q {c b : Nat} {w : Nat → Nat} {μ : sm_Mem} (hc : isSc c) (hR : RH 14 w μ) (hS : SH c w μ) (hG : GoodQ w) {u : Nat} (hu : u < w 4) (hb : b < 100) : fnX9_isAt c (nI u) (nI b) μ = some (uAt w u b, μ) := by
  obtain ⟨k0, k2, k3, k4, l1, l2, l3⟩ := sc_lk hc
  have n := hG.1
  have hh := hand14 hR hu
  have e_23 : ln 23 = 8 := rfl
  have x := hS.2.2.2 u hu
  have gl := hG.2.2.2.2.2.2.2.2.2 u hu
  unfold fnX9_isAt uAt
  rw [k0, lk_14_16, e_ai (by omega), hh, k4, e_ai (by omega), x]
  simp only [m_br]
  by_cases c1 : w (191 + 7 * u) = b
  · rw [if_pos (by rw [c1])]
    rcases hand_casesQ hG hu with q | ⟨q1, q2, q3, q4⟩
    · rw [if_pos ((hd_mm (by omega)).mpr q), decide_eq_true ⟨c1, Or.inl q⟩]
      rfl
    · have y := hS.2.2.2 (w (190 + 7 * u) - 1) q2
      have gl2 := hG.2.2.2.2.2.2.2.2.2 (w (190 + 7 * u) - 1) q2
      rw [if_neg (fun z => q1 ((hd_mm (by omega)).mp z)), hd_q q1, e_ai (by omega), y]
      simp only [m_br]
      by_cases c2 : w (191 + 7 * (w (190 + 7 * u) - 1)) = b
      · rw [if_pos (by rw [c2]), decide_eq_true ⟨c1, Or.inr c2⟩]
        rfl
      · rw [if_neg (fun z => c2 ((nI_eq (by omega) (by omega)).mp z)), decide_eq_false (by omega)]
        rfl
  · rw [if_neg (fun z => c1 ((nI_eq (by omega) (by omega)).mp z)), decide_eq_false (fun z => c1 z.1)]
    rfl
theorem isAt12Q {b : Nat} {w : Nat → Nat} {μ : sm_Mem} (hW : WH 147 w μ) (hG : GoodQ w) {u : Nat} (hu : u < w 4) (hb : b < 100) : fnX12_isAt 146 (nI u) (nI b) μ = some (lead w u && uAt w u b, μ) := by
  have n := hG.1
  have gl := hG.2.2.2.2.2.2.2.2.2 u hu
  have q6 := of_eq hW (p := u) (k := 6) (by omega) (by omega) (by omega)
  rw [show 185 + 7 * u + 6 = 191 + 7 * u by omega] at q6
  unfold fnX12_isAt uAt
  simp only [m_bnd, leads12Q hW hG hu, second12Q hW hG hu, li_6, q6, m_br, bI_0]
  cases hl : lead w u
  · rfl
  · rw [if_neg (by decide), Bool.true_and]
    by_cases c1 : w (191 + 7 * u) = b
    · rw [if_pos (by rw [c1])]
      rcases hand_casesQ hG hu with q | ⟨q1, q2, q3, q4⟩
      · rw [if_pos ((hd_m1 (by omega)).mpr q), decide_eq_true ⟨c1, Or.inl q⟩]
        rfl
      · have gl2 := hG.2.2.2.2.2.2.2.2.2 (w (190 + 7 * u) - 1) q2
        have y6 := of_eq hW (p := w (190 + 7 * u) - 1) (k := 6) (by omega) (by omega) (by omega)
        rw [show 185 + 7 * (w (190 + 7 * u) - 1) + 6 = 191 + 7 * (w (190 + 7 * u) - 1) by omega] at y6
        rw [if_neg (fun z => q1 ((hd_m1 (by omega)).mp z)), hd_q' q1]
        simp only [y6]
        by_cases c2 : w (191 + 7 * (w (190 + 7 * u) - 1)) = b
        · rw [if_pos (by rw [c2]), decide_eq_true ⟨c1, Or.inr c2⟩]
          rfl
        · rw [if_neg (fun z => c2 ((nI_eq (by omega) (by omega)).mp z)), decide_eq_false (by omega)]
          rfl
    · rw [if_neg (fun z => c1 ((nI_eq (by omega) (by omega)).mp z)), decide_eq_false (fun z => c1 z.1)]
      rfl
theorem strideOf7Q {w : Nat → Nat} {μ : sm_Mem} (hR : RH 14 w μ) (hG : GoodQ w) {u : Nat} (hu : u < w 4) : fnX7_strideOf 14 (nI u) μ = some (nI (uStr w u), μ) := by
  have n := hG.1
  have hh := hand14 hR hu
  have e_23 : ln 23 = 8 := rfl
  have e_20 : ln 20 = 8 := rfl
  have x : μ.1 20 u = nI (w (185 + 7 * u)) := (hR.2.2.2.2 u hu).1
  have g := hG.2.2.2.2.2.2.2.1 u hu
  unfold fnX7_strideOf uStr
  rw [lk_14_16, e_ai (by omega), hh]
  simp only [m_br]
  rcases hand_casesQ hG hu with q | ⟨q1, q2, q3, q4⟩
  · rw [if_pos ((hd_mm (by omega)).mpr q), if_pos q, lk_14_13, e_ai (by omega), x]
    rfl
  · have y : μ.1 20 (w (190 + 7 * u) - 1) = nI (w (185 + 7 * (w (190 + 7 * u) - 1))) := (hR.2.2.2.2 _ q2).1
    have g2 := hG.2.2.2.2.2.2.2.1 _ q2
    rw [if_neg (fun z => q1 ((hd_mm (by omega)).mp z)), if_neg q1, lk_14_13, e_ai (by omega), e_ai (by omega), hh, hd_q q1, e_ai (by omega), x, y, jmin_nat (by omega) (by omega)]
    rfl
theorem weightOf7Q {w : Nat → Nat} {μ : sm_Mem} (hR : RH 14 w μ) (hG : GoodQ w) {u : Nat} (hu : u < w 4) : fnX7_weightOf 14 (nI u) μ = some (nI (uSum w 1 u), μ) := by
  have n := hG.1
  have hh := hand14 hR hu
  have e_23 : ln 23 = 8 := rfl
  have e_21 : ln 21 = 8 := rfl
  have x : μ.1 21 u = nI (w (186 + 7 * u)) := (hR.2.2.2.2 u hu).2.1
  have e1 : 185 + 7 * u + 1 = 186 + 7 * u := by omega
  unfold fnX7_weightOf uSum
  rw [lk_14_16, e_ai (by omega), hh, e1]
  simp only [m_br]
  rcases hand_casesQ hG hu with q | ⟨q1, q2, q3, q4⟩
  · rw [if_pos ((hd_mm (by omega)).mpr q), if_pos q, lk_14_14, e_ai (by omega), x, Nat.add_zero]
    rfl
  · have y : μ.1 21 (w (190 + 7 * u) - 1) = nI (w (186 + 7 * (w (190 + 7 * u) - 1))) := (hR.2.2.2.2 _ q2).2.1
    rw [if_neg (fun z => q1 ((hd_mm (by omega)).mp z)), if_neg q1, lk_14_14, e_ai (by omega), e_ai (by omega), hh, hd_q q1, e_ai (by omega), x, y, nI_add, show 185 + 7 * (w (190 + 7 * u) - 1) + 1 = 186 + 7 * (w (190 + 7 * u) - 1) by omega]
    rfl
theorem strideOf12Q {w : Nat → Nat} {μ : sm_Mem} (hW : WH 147 w μ) (hG : GoodQ w) {u : Nat} (hu : u < w 4) : fnX12_strideOf 146 (nI u) μ = some (nI (uStr w u), μ) := by
  have n := hG.1
  have g := hG.2.2.2.2.2.2.2.1 u hu
  have q0 := of_eq hW (p := u) (k := 0) (by omega) (by omega) (by omega)
  rw [Nat.add_zero] at q0
  unfold fnX12_strideOf uStr
  simp only [m_bnd, second12Q hW hG hu, li_0, q0, m_br]
  rcases hand_casesQ hG hu with q | ⟨q1, q2, q3, q4⟩
  · rw [if_pos ((hd_m1 (by omega)).mpr q), if_pos q]
    rfl
  · have y0 := of_eq hW (p := w (190 + 7 * u) - 1) (k := 0) (by omega) (by omega) (by omega)
    rw [Nat.add_zero] at y0
    have g2 := hG.2.2.2.2.2.2.2.1 _ q2
    rw [if_neg (fun z => q1 ((hd_m1 (by omega)).mp z)), if_neg q1, hd_q' q1, y0]
    simp only
    rw [jmin_nat (by omega) (by omega)]
    rfl
theorem sumOf12Q {w : Nat → Nat} {μ : sm_Mem} (hW : WH 147 w μ) (hG : GoodQ w) {u k : Nat} (hu : u < w 4) (hk : k < 5) : fnX12_sumOf 146 (nI u) (nI k) μ = some (nI (uSum w k u), μ) := by
  have n := hG.1
  have q0 := of_eq hW (p := u) (k := k) (by omega) (by omega) (by omega)
  unfold fnX12_sumOf uSum
  simp only [m_bnd, second12Q hW hG hu, q0, m_br]
  rcases hand_casesQ hG hu with q | ⟨q1, q2, q3, q4⟩
  · rw [if_pos ((hd_m1 (by omega)).mpr q), if_pos q]
    exact congrArg (fun z => some (z, μ)) (nI_add _ 0)
  · have y0 := of_eq hW (p := w (190 + 7 * u) - 1) (k := k) (by omega) (by omega) (by omega)
    rw [if_neg (fun z => q1 ((hd_m1 (by omega)).mp z)), if_neg q1, hd_q' q1, y0]
    simp only [nI_add]
    rfl
theorem uStr_rngQ {w : Nat → Nat} (hG : GoodQ w) {u : Nat} (hu : u < w 4) : 1 ≤ uStr w u ∧ uStr w u ≤ 9 := by
  have g := hG.2.2.2.2.2.2.2.1 u hu
  unfold uStr
  rcases hand_casesQ hG hu with q | ⟨q1, q2, q3, q4⟩
  · rw [if_pos q]
    omega
  · rw [if_neg q1]
    have g2 := hG.2.2.2.2.2.2.2.1 _ q2
    omega
theorem uWt_rngQ {w : Nat → Nat} (hG : GoodQ w) {u : Nat} (hu : u < w 4) : 1 ≤ uSum w 1 u ∧ uSum w 1 u ≤ 6 := by
  have g := hG.2.2.2.2.2.2.2.1 u hu
  unfold uSum
  rw [show 185 + 7 * u + 1 = 186 + 7 * u by omega]
  rcases hand_casesQ hG hu with q | ⟨q1, q2, q3, q4⟩
  · rw [if_pos q]
    omega
  · rw [if_neg q1]
    have g2 := hG.2.2.2.2.2.2.2.1 _ q2
    rw [show 185 + 7 * (w (190 + 7 * u) - 1) + 1 = 186 + 7 * (w (190 + 7 * u) - 1) by omega]
    omega
theorem settle9Q {c b : Nat} {w : Nat → Nat} {μ : sm_Mem} (hc : isSc c) (hR : RH 14 w μ) (hS : SH c w μ) (hG : GoodQ w) {u : Nat} (hu : u < w 4) : T (fnX9_settle c (nI u) (nI b)) μ (fun _ μ' => SH c (putW w u b) μ' ∧ (∀ a, a ≠ c + 3 → μ'.1 a = μ.1 a) ∧ μ'.2 = μ.2) := by
  obtain ⟨k0, k2, k3, k4, l1, l2, l3⟩ := sc_lk hc
  have n := hG.1
  have hh := hand14 hR hu
  have e_23 : ln 23 = 8 := rfl
  have hcc : 23 ≠ c + 3 := by
    unfold isSc at hc
    simp only [List.mem_cons, List.not_mem_nil, or_false] at hc
    omega
  unfold fnX9_settle putW
  rw [k4, k0, lk_14_16, t_sai (by omega), t_ai (by omega)]
  have y : (u2 μ.1 (c + 3) u (nI b), μ.2).1 23 u = nI (w (190 + 7 * u)) - nI 1 := by
    rw [← hh]
    simp (disch := omega) only [u2_ne, u2_a, u2_k, u2_at]
  rw [y]
  rcases hand_casesQ hG hu with q | ⟨q1, q2, q3, q4⟩
  · rw [t_brT ((hd_mm (by omega)).mpr q), t_ret, if_pos q]
    exact ⟨sh_up191 n.1 hS, fun a ha => (by simp (disch := omega) only [u2_ne, u2_a, u2_k, u2_at]), rfl⟩
  · rw [t_brF (fun z => q1 ((hd_mm (by omega)).mp z)), t_ai (by omega), y, hd_q q1, t_sai (by omega), t_ret, if_neg q1]
    exact ⟨sh_up191 (by rw [up_ne (by omega)]; exact n.1) (sh_up191 n.1 hS), fun a ha => (by simp (disch := omega) only [u2_ne, u2_a, u2_k, u2_at]), rfl⟩
theorem puts12Q {b : Nat} {w : Nat → Nat} {μ : sm_Mem} (hW : WH 147 w μ) (hG : GoodQ w) {u : Nat} (hu : u < w 4) : T (fnX12_puts 146 (nI u) (nI b)) μ (fun _ μ' => WH 147 (putW w u b) μ' ∧ (∀ a, a ≠ 147 → μ'.1 a = μ.1 a) ∧ μ'.2 = μ.2) := by
  have n := hG.1
  have x : ∀ p, eI (191 + 7 * p) b = nI b := by
    intro p
    unfold eI
    rw [if_neg (by omega)]
  have hW1 : WH 147 (up w (191 + 7 * u) b) (u2 μ.1 147 (191 + 7 * u) (nI b), μ.2) := wh_up hW (x u).symm
  have sec : fnX12_second 146 (nI u) (u2 μ.1 147 (191 + 7 * u) (nI b), μ.2) = some (nI (w (190 + 7 * u)) - 1, (u2 μ.1 147 (191 + 7 * u) (nI b), μ.2)) := by
    have := ofH_eq hW1 (p := u) (by omega)
    rw [up_ne (by omega)] at this
    unfold fnX12_second
    simp only [m_bnd, this, m_ret]
  unfold fnX12_puts putW
  rw [t_bnd, li_6, set_T (by omega) (by omega), show 185 + 7 * u + 6 = 191 + 7 * u by omega, t_bnd, t_eq sec]
  rcases hand_casesQ hG hu with q | ⟨q1, q2, q3, q4⟩
  · rw [t_brT ((hd_m1 (by omega)).mpr q), t_ret, if_pos q]
    exact ⟨hW1, fun a ha => (by simp (disch := omega) only [u2_ne, u2_a, u2_k, u2_at]), rfl⟩
  · rw [t_brF (fun z => q1 ((hd_m1 (by omega)).mp z)), t_bnd, t_eq sec, hd_q' q1, t_bnd, set_T (by omega) (by omega), t_ret, if_neg q1, show 185 + 7 * (w (190 + 7 * u) - 1) + 6 = 191 + 7 * (w (190 + 7 * u) - 1) by omega]
    exact ⟨wh_up hW1 (x _).symm, fun a ha => (by simp (disch := omega) only [u2_ne, u2_a, u2_k, u2_at]), rfl⟩
theorem same_sumQ {w w' : Nat → Nat} (h : Same w w') (hG : GoodQ w) {u k : Nat} (hu : u < w 4) (hk : k < 5) : uSum w' k u = uSum w k u := by
  have n := hG.1
  have e1 := h.2.2 u k (by omega) (by omega)
  have e5 := h.2.2 u 5 (by omega) (by omega)
  rw [show 185 + 7 * u + 5 = 190 + 7 * u by omega] at e5
  unfold uSum
  rw [e1, e5]
  rcases hand_casesQ hG hu with q | ⟨q1, q2, q3, q4⟩
  · rw [if_pos q, if_pos q]
  · rw [if_neg q1, if_neg q1, h.2.2 _ k (by omega) (by omega)]
theorem ldr_iffQ {w : Nat → Nat} (hG : GoodQ w) {u p : Nat} (hu : u < w 4) (hp : p < w 4) (hl : lead w u = true) : ldr w p = u ↔ p = u ∨ (w (190 + 7 * u) ≠ 0 ∧ p = w (190 + 7 * u) - 1) := by
  have gu := hG.2.2.2.2.2.2.2.2.1 u hu
  have gp := hG.2.2.2.2.2.2.2.2.1 p hp
  unfold ldr
  unfold lead at hl ⊢
  have hl := of_decide_eq_true hl
  by_cases c : w (190 + 7 * p) = 0 ∨ p < w (190 + 7 * p) - 1
  · rw [decide_eq_true c, if_pos rfl]
    constructor
    · intro h
      exact Or.inl h
    · rintro (h | ⟨h1, h2⟩)
      · exact h
      · rcases gu with q | ⟨q, a1, a2, a3, a4⟩
        · exact absurd q h1
        · have : q = p := by omega
          subst this
          omega
  · rw [decide_eq_false c, if_neg (by decide)]
    constructor
    · intro h
      rcases gp with q | ⟨q, a1, a2, a3, a4⟩
      · omega
      · have : q = u := by omega
        subst this
        right
        omega
    · rintro (h | ⟨h1, h2⟩)
      · subst h
        omega
      · rcases gu with q | ⟨q, a1, a2, a3, a4⟩
        · exact absurd q h1
        · have : q = p := by omega
          subst this
          omega
theorem peopleOf7Q {w : Nat → Nat} {μ : sm_Mem} (hR : RH 14 w μ) (hG : GoodQ w) {u : Nat} (hu : u < w 4) : ∃ m, fnX7_peopleOf 14 (nI u) μ = some (m, μ) ∧ ∀ p, p < 32 → bt m p = decide (p = u ∨ (w (190 + 7 * u) ≠ 0 ∧ p = w (190 + 7 * u) - 1)) := by
  have n := hG.1
  have hh := hand14 hR hu
  have e_23 : ln 23 = 8 := rfl
  unfold fnX7_peopleOf
  rw [lk_14_16, e_ai (by omega), hh]
  simp only [m_br]
  rcases hand_casesQ hG hu with q | ⟨q1, q2, q3, q4⟩
  · rw [if_pos ((hd_mm (by omega)).mpr q)]
    refine ⟨_, rfl, fun p hp => ?_⟩
    rw [k_1 u (by omega) p hp]
    apply decide_eq_decide.mpr
    omega
  · rw [if_neg (fun z => q1 ((hd_mm (by omega)).mp z)), e_ai (by omega), hh, hd_q q1]
    refine ⟨_, rfl, fun p hp => ?_⟩
    rw [b_or, k_1 u (by omega) p hp, k_1 _ (by omega) p hp]
    by_cases c1 : p = u
    · simp [c1]
    · by_cases c2 : p = w (190 + 7 * u) - 1
      · simp [c2, q1]
      · simp [c1, c2]
theorem ppl_addQ {w : Nat → Nat} (hG : GoodQ w) {G : Nat → Bool} {u p : Nat} (hu : u < w 4) (hl : lead w u = true) (hp : p < 32) : ppl w (fun k => G k || decide (k = u)) p = (ppl w G p || decide (p < w 4 ∧ (p = u ∨ (w (190 + 7 * u) ≠ 0 ∧ p = w (190 + 7 * u) - 1)))) := by
  unfold ppl
  by_cases c : p < w 4
  · rw [decide_eq_true c, Bool.true_and, Bool.true_and]
    show (G (ldr w p) || decide (ldr w p = u)) = _
    congr 1
    apply decide_eq_decide.mpr
    rw [ldr_iffQ hG hu c hl]
    exact ⟨fun h => ⟨c, h⟩, fun h => h.2⟩
  · rw [decide_eq_false c, Bool.false_and, Bool.false_and, decide_eq_false (fun h => c h.1)]
    rfl
theorem mask_mkQ {w : Nat → Nat} (hG : GoodQ w) {G : Nat → Bool} {x : Int32} (h : ∀ p, p < 32 → bt x p = ppl w G p) : x = mk (ppl w G) (w 4) := by
  have n := hG.1
  apply b_ext
  intro i hi
  rw [h i hi, bt_mk _ _ (by omega) i hi]
  unfold ppl
  cases decide (i < w 4) <;> simp
theorem manyOf12Q {w : Nat → Nat} {μ : sm_Mem} (hW : WH 147 w μ) (hG : GoodQ w) {u : Nat} (hu : u < w 4) : fnX12_manyOf 146 (nI u) μ = some (nI (if w (190 + 7 * u) = 0 then 1 else 2), μ) := by
  have n := hG.1
  unfold fnX12_manyOf
  simp only [m_bnd, second12Q hW hG hu, m_br]
  rcases hand_casesQ hG hu with q | ⟨q1, q2, q3, q4⟩
  · rw [if_pos ((hd_m1 (by omega)).mpr q), if_pos q]
    rfl
  · rw [if_neg (fun z => q1 ((hd_m1 (by omega)).mp z)), if_neg q1]
    rfl
theorem sum_addQ {w : Nat → Nat} (hG : GoodQ w) {G : Nat → Bool} {u : Nat} (hu : u < w 4) (hl : lead w u = true) (hn : ∀ k, G k = true → k < u) (v : Nat → Nat) : fb_sm (fun p => if ppl w (fun k => G k || decide (k = u)) p = true then v p else 0) (w 4) = fb_sm (fun p => if ppl w G p = true then v p else 0) (w 4) + (v u + (if w (190 + 7 * u) = 0 then 0 else v (w (190 + 7 * u) - 1))) := by
  have n := hG.1
  have old : ∀ p, p < w 4 → ldr w p = u → ppl w G p = false := by
    intro p hp h
    unfold ppl
    rw [h]
    cases q : G u
    · simp
    · have := hn u q
      omega
  have hu0 : ppl w G u = false := old u hu ((ldr_iffQ hG hu hu hl).mpr (Or.inl rfl))
  rcases hand_casesQ hG hu with q | ⟨q1, q2, q3, q4⟩
  · rw [if_pos q, Nat.add_zero]
    have e : fb_sm (fun p => if ppl w (fun k => G k || decide (k = u)) p = true then v p else 0) (w 4) = fb_sm (fun k => if k = u then v u else (if ppl w G k = true then v k else 0)) (w 4) := by
      apply fb_sm_cong
      intro p hp
      rw [ppl_addQ hG hu hl (by omega)]
      by_cases c : p = u
      · subst c
        rw [if_pos rfl, if_pos (by simp [hp])]
      · rw [if_neg c, decide_eq_false (by omega), Bool.or_false]
    rw [e]
    have := fb_sm_upd (fun k => if ppl w G k = true then v k else 0) (v u) (i := u) hu
    rw [hu0] at this
    simp only [Bool.false_eq_true, if_false, Nat.add_zero] at this
    exact this
  · rw [if_neg q1]
    have hq0 : ppl w G (w (190 + 7 * u) - 1) = false := old _ q2 ((ldr_iffQ hG hu q2 hl).mpr (Or.inr ⟨q1, rfl⟩))
    have e : fb_sm (fun p => if ppl w (fun k => G k || decide (k = u)) p = true then v p else 0) (w 4) = fb_sm (fun k => if k = w (190 + 7 * u) - 1 then v (w (190 + 7 * u) - 1) else (if k = u then v u else (if ppl w G k = true then v k else 0))) (w 4) := by
      apply fb_sm_cong
      intro p hp
      rw [ppl_addQ hG hu hl (by omega)]
      by_cases c2 : p = w (190 + 7 * u) - 1
      · rw [if_pos c2, if_pos (by simp [hp, c2, q1]; omega), c2]
      · rw [if_neg c2]
        by_cases c : p = u
        · subst c
          rw [if_pos rfl, if_pos (by simp [hp])]
        · rw [if_neg c, decide_eq_false (by omega), Bool.or_false]
    rw [e]
    have a1 := fb_sm_upd (fun k => if k = u then v u else (if ppl w G k = true then v k else 0)) (v (w (190 + 7 * u) - 1)) (i := w (190 + 7 * u) - 1) q2
    have a2 := fb_sm_upd (fun k => if ppl w G k = true then v k else 0) (v u) (i := u) hu
    rw [hu0] at a2
    rw [if_neg q4, hq0] at a1
    simp only [Bool.false_eq_true, if_false, Nat.add_zero] at a1 a2
    omega
theorem uSum3_leQ {w : Nat → Nat} (hG : GoodQ w) {u k : Nat} (hu : u < w 4) (hk : k < 5) : uSum w k u ≤ 198 := by
  have g := hG.2.2.2.2.2.2.2.1 u hu
  have ub : ∀ p, p < w 4 → w (185 + 7 * p + k) ≤ 99 := by
    intro p hp
    have g := hG.2.2.2.2.2.2.2.1 p hp
    have : k = 0 ∨ k = 1 ∨ k = 2 ∨ k = 3 ∨ k = 4 := by omega
    rcases this with rfl | rfl | rfl | rfl | rfl
    · rw [Nat.add_zero]; omega
    · rw [show 185 + 7 * p + 1 = 186 + 7 * p by omega]; omega
    · rw [show 185 + 7 * p + 2 = 187 + 7 * p by omega]; omega
    · rw [show 185 + 7 * p + 3 = 188 + 7 * p by omega]; omega
    · rw [show 185 + 7 * p + 4 = 189 + 7 * p by omega]; omega
  unfold uSum
  have := ub u hu
  rcases hand_casesQ hG hu with q | ⟨q1, q2, q3, q4⟩
  · rw [if_pos q]
    omega
  · rw [if_neg q1]
    have := ub _ q2
    omega
theorem anyOf7Q {w : Nat → Nat} {μ : sm_Mem} (hR : RH 14 w μ) (hG : GoodQ w) {u k : Nat} (hu : u < w 4) (hk : k < 5) {y : Int32} (hy : ∀ p, p < 32 → bt y p = decide (p < w 4 ∧ 0 < w (185 + 7 * p + k))) : ∃ m, fnX7_peopleOf 14 (nI u) μ = some (m, μ) ∧ ((y &&& m) = 0 ↔ ¬ 0 < uSum w k u) := by
  have n := hG.1
  obtain ⟨m, m1, m2⟩ := peopleOf7Q hR hG hu
  refine ⟨m, m1, ?_⟩
  rw [k_z]
  unfold uSum
  rcases hand_casesQ hG hu with q | ⟨q1, q2, q3, q4⟩
  · rw [if_pos q]
    constructor
    · intro h
      have := h u (by omega)
      rw [b_and, hy u (by omega), m2 u (by omega), decide_eq_true (Or.inl rfl), Bool.and_true] at this
      have := of_decide_eq_false this
      omega
    · intro h i hi
      rw [b_and, hy i hi, m2 i hi]
      by_cases c : i = u
      · rw [decide_eq_false (by subst c; omega), Bool.false_and]
      · rw [decide_eq_false (p := i = u ∨ _) (by omega), Bool.and_false]
  · rw [if_neg q1]
    constructor
    · intro h
      have h1 := h u (by omega)
      rw [b_and, hy u (by omega), m2 u (by omega), decide_eq_true (Or.inl rfl), Bool.and_true] at h1
      have h2 := h (w (190 + 7 * u) - 1) (by omega)
      rw [b_and, hy _ (by omega), m2 _ (by omega), decide_eq_true (Or.inr ⟨q1, rfl⟩), Bool.and_true] at h2
      have h1 := of_decide_eq_false h1
      have h2 := of_decide_eq_false h2
      omega
    · intro h i hi
      rw [b_and, hy i hi, m2 i hi]
      by_cases c : i = u
      · rw [decide_eq_false (by subst c; omega), Bool.false_and]
      · by_cases c2 : i = w (190 + 7 * u) - 1
        · rw [decide_eq_false (p := i < w 4 ∧ _) (by rw [c2]; omega), Bool.false_and]
        · rw [decide_eq_false (p := i = u ∨ _) (by omega), Bool.and_false]
theorem mustGo7Q {w : Nat → Nat} {μ : sm_Mem} (hR : RH 14 w μ) (hG : GoodQ w) {u : Nat} (hu : u < w 4) : fnX7_mustGo 14 (nI u) μ = some (decide (0 < uSum w 3 u), μ) := by
  obtain ⟨m, m1, m2⟩ := anyOf7Q hR hG hu (k := 3) (by omega) (y := μ.1 14 6) (fun p hp => by rw [hR.2.1 p hp, show 185 + 7 * p + 3 = 188 + 7 * p by omega])
  unfold fnX7_mustGo
  simp only [m_gi, m_bnd, m1, m_br]
  by_cases c : 0 < uSum w 3 u
  · rw [if_neg (fun z => m2.mp z c), decide_eq_true c]
    rfl
  · rw [if_pos (m2.mpr c), decide_eq_false c]
    rfl
theorem missing9_LQ {c : Nat} (hc : isSc c) {w : Nat → Nat} {μ : sm_Mem} (hR : RH 14 w μ) (hS : SH c w μ) (hG : GoodQ w) : ∀ f u, w 4 - u < f → u ≤ w 4 → fnX9_missing_L4 f c (mk (misW w) u) (nI u) μ = some (mk (misW w) (w 4), μ) := by
  have n := hG.1
  obtain ⟨k0, -, -, -, -, -, -⟩ := sc_lk hc
  have r5 := hR.1.2.2.2.2.2
  intro f
  induction f with
  | zero =>
    intro u h
    omega
  | succ f ih =>
    intro u hf hu
    unfold fnX9_missing_L4 fnX9_missing_J53
    rw [k0, e_gi, r5]
    by_cases c1 : w 4 ≤ u
    · have : u = w 4 := by omega
      subst this
      rw [e_T (nI_le c1 (by omega))]
      rfl
    · have hu' : u < w 4 := by omega
      have ih' := ih (u + 1) (by omega) (by omega)
      rw [mk_succ] at ih'
      rw [e_F (nI_ge (by omega) (by omega)), e_b (isUnit7Q hR hG hu'), nI_1]
      cases h1 : lead w u
      · have hm : misW w u = false := by unfold misW; rw [h1]; rfl
        rw [hm, if_neg (by decide)] at ih'
        rw [e_T (by decide)]
        exact ih'
      · rw [e_F (by decide), e_b (mustGo7Q hR hG hu')]
        by_cases h2 : 0 < uSum w 3 u
        · rw [decide_eq_true h2, e_F (by decide), li_99, e_b (isAt9Q hc hR hS hG hu' (by omega))]
          cases h3 : uAt w u 99
          · have hm : misW w u = true := by unfold misW; rw [h1, decide_eq_true h2, h3]; rfl
            rw [hm, if_pos rfl] at ih'
            rw [e_T (by decide), e_nm']
            exact ih'
          · have hm : misW w u = false := by unfold misW; rw [h1, decide_eq_true h2, h3]; rfl
            rw [hm, if_neg (by decide)] at ih'
            rw [e_F (by decide)]
            exact ih'
        · have hm : misW w u = false := by unfold misW; rw [h1, decide_eq_false h2]; rfl
          rw [hm, if_neg (by decide)] at ih'
          rw [decide_eq_false h2, e_T (by decide)]
          exact ih'
theorem missing9_eqQ {c : Nat} (hc : isSc c) {w : Nat → Nat} {μ : sm_Mem} (hR : RH 14 w μ) (hS : SH c w μ) (hG : GoodQ w) : fnX9_missing c μ = some (mk (misW w) (w 4), μ) := by
  have n := hG.1
  unfold fnX9_missing
  exact missing9_LQ hc hR hS hG 4096 0 (by omega) (by omega)
theorem mustNot_LQ {w : Nat → Nat} {μ : sm_Mem} (hW : WH 147 w μ) (hG : GoodQ w) : ∀ f u, w 4 - u < f → u ≤ w 4 → fnX12_mustAndNot_L4 f 146 (mk (misW w) u) (nI u) μ = some (mk (misW w) (w 4), μ) := by
  have n := hG.1
  intro f
  induction f with
  | zero =>
    intro u h
    omega
  | succ f ih =>
    intro u hf hu
    unfold fnX12_mustAndNot_L4 fnX12_mustAndNot_J46 fnX12_mustAndNot_J47
    rw [e_b (units12 hW)]
    by_cases c1 : w 4 ≤ u
    · have : u = w 4 := by omega
      subst this
      rw [e_T (nI_le c1 (by omega))]
      rfl
    · have hu' : u < w 4 := by omega
      have ih' := ih (u + 1) (by omega) (by omega)
      have g3 := uSum3_leQ hG hu' (k := 3) (by omega)
      have o0 : ∀ x : Int32, x ||| (0 : Int32) = x := fun x => b_ext (fun i _ => by rw [b_or, b_0, Bool.or_false])
      rw [mk_succ] at ih'
      rw [e_F (nI_ge (by omega) (by omega)), e_b (leads12Q hW hG hu'), nI_1]
      cases h1 : lead w u
      · have hm : misW w u = false := by unfold misW; rw [h1]; rfl
        rw [hm, if_neg (by decide)] at ih'
        rw [e_T (by decide), e_nm', o0]
        exact ih'
      · rw [e_F (by decide), li_3, e_b (sumOf12Q hW hG hu' (by omega))]
        by_cases h2 : 0 < uSum w 3 u
        · rw [e_F (show ¬ nI (uSum w 3 u) ≤ 0 from nI_ge (a := 0) (by omega) (by omega)), li_99, e_b (isAt12Q hW hG hu' (by omega)), h1, Bool.true_and]
          cases h3 : uAt w u 99
          · have hm : misW w u = true := by unfold misW; rw [h1, decide_eq_true h2, h3]; rfl
            rw [hm, if_pos rfl] at ih'
            rw [e_T (by decide), e_nm']
            exact ih'
          · have hm : misW w u = false := by unfold misW; rw [h1, decide_eq_true h2, h3]; rfl
            rw [hm, if_neg (by decide)] at ih'
            rw [e_F (by decide), e_nm', o0]
            exact ih'
        · have hm : misW w u = false := by unfold misW; rw [h1, decide_eq_false h2]; rfl
          rw [hm, if_neg (by decide)] at ih'
          rw [e_T (show nI (uSum w 3 u) ≤ 0 from nI_le (b := 0) (by omega) (by omega)), e_nm', o0]
          exact ih'
theorem mustNot_eqQ {w : Nat → Nat} {μ : sm_Mem} (hW : WH 147 w μ) (hG : GoodQ w) : fnX12_mustAndNot 146 μ = some (mk (misW w) (w 4), μ) := by
  have n := hG.1
  unfold fnX12_mustAndNot
  exact mustNot_LQ hW hG 4096 0 (by omega) (by omega)
