/-! ===== waits, cross ===== -/
/-- a slot of the component and of the reference that hold the same row -/
def Slt (j N : Nat) (nm : Nat → Int64) (μ : sm_Mem) : Prop := j < 4 ∧ N ≤ 60 ∧ μ.1 (96 + 2 * j) 2 = nI N ∧ μ.1 168 j = nI N ∧ (∀ i, i < 60 → μ.2.1 (97 + 2 * j) i = nm i) ∧ ∀ i, i < 60 → μ.2.1 170 (60 * j + i) = nm i
theorem allBelow_L {j N B : Nat} {nm : Nat → Int64} {μ : sm_Mem} (h : Slt j N nm μ) (hB : B ≤ 24) : ∀ f i, N - i < f → i ≤ N → ∃ b, fnX8_allBelow_L2 f (96 + 2 * j) (nI B) (nI i) μ = some (b, μ) ∧ (b = true ↔ ∀ k, i ≤ k → k < N → 0 ≤ (nm k).toInt ∧ (nm k).toInt < B) := by
  obtain ⟨hj, hN, s1, s2, s3, s4⟩ := h
  obtain ⟨-, k2, k3⟩ := slot_ap hj
  intro f
  have e0 : (0 : Int64).toInt = 0 := by decide
  have eB : (nI B).toInt64.toInt = (B : Int) := by rw [Int32.toInt_toInt64, nI_toInt (by omega)]
  induction f with
  | zero =>
    intro i h
    omega
  | succ f ih =>
    intro i hf hi
    unfold fnX8_allBelow_L2
    simp (disch := (first | assumption | omega)) only [m_gi, s1, m_br, nI_leI, m_ret, k2]
    by_cases c : N ≤ i
    · rw [if_pos c]
      exact ⟨true, rfl, fun _ k h1 h2 => by omega, fun _ => rfl⟩
    · rw [if_neg c]
      have x := s3 i (by omega)
      simp (disch := (first | assumption | omega)) only [e_al, m_br, x, lg_cmp_lt, fa_lt64, e0, eB, m_ret, nI_1, li_1, nI_add]
      by_cases c1 : (nm i).toInt < 0
      · rw [if_pos c1]
        exact ⟨false, rfl, fun h => (by cases h), fun h => absurd (h i (by omega) (by omega)) (by omega)⟩
      · rw [if_neg c1]
        by_cases c2 : (nm i).toInt < B
        · rw [if_pos c2]
          obtain ⟨b, e, hb⟩ := ih (i + 1) (by omega) (by omega)
          refine ⟨b, e, hb.trans ⟨fun h k h1 h2 => ?_, fun h k h1 h2 => h k (by omega) h2⟩⟩
          by_cases q : k = i
          · subst q
            omega
          · exact h k (by omega) h2
        · rw [if_neg c2]
          exact ⟨false, rfl, fun h => (by cases h), fun h => absurd (h i (by omega) (by omega)) (by omega)⟩
theorem areStones_L {j N : Nat} {nm : Nat → Int64} {μ : sm_Mem} {w : Nat → Nat} (h : Slt j N nm μ) (hW : WH 147 w μ) (hG : Good w) : ∀ f i, N - i < f → i ≤ N → ∃ b, fnX12_areStones_L2 f 146 (nI j) (nI i) μ = some (b, μ) ∧ (b = true ↔ ∀ k, i ≤ k → k < N → 0 ≤ (nm k).toInt ∧ (nm k).toInt < w 3) := by
  obtain ⟨hj, hN, s1, s2, s3, s4⟩ := h
  intro f
  have n := hG.1
  have e_168 : ln 168 = 4 := rfl
  have e_170 : ln 170 = 240 := rfl
  have e_147 : ln 147 = 241 := rfl
  have w3 := wh_lo hW (i := 3) (by omega)
  induction f with
  | zero =>
    intro i h
    omega
  | succ f ih =>
    intro i hf hi
    unfold fnX12_areStones_L2
    simp (disch := (first | assumption | omega)) only [lk_146_43, lk_146_45, lk_146_1, e_ai, s2, m_br, nI_leI, m_ret, li_60, pk_mul, nI_add]
    by_cases c : N ≤ i
    · rw [if_pos c]
      exact ⟨true, rfl, fun _ k h1 h2 => by omega, fun _ => rfl⟩
    · rw [if_neg c]
      have x := s4 i (by omega)
      simp (disch := (first | assumption | omega)) only [e_al, x, li_3, e_ai, w3, m_bnd, in64, m_br, bI_0, pred_toInt, t64_0, m_ret, nI_1]
      by_cases c1 : 0 ≤ (nm i).toInt ∧ (nm i).toInt ≤ (w 3 : Int) - 1
      · rw [decide_eq_true c1, if_neg (by decide)]
        obtain ⟨b, e, hb⟩ := ih (i + 1) (by omega) (by omega)
        refine ⟨b, e, hb.trans ⟨fun h k h1 h2 => ?_, fun h k h1 h2 => h k (by omega) h2⟩⟩
        by_cases q : k = i
        · subst q
          omega
        · exact h k (by omega) h2
      · rw [decide_eq_false c1, if_pos rfl]
        exact ⟨false, rfl, fun h => (by cases h), fun h => absurd (h i (by omega) (by omega)) (by omega)⟩
theorem meets_L {j N l M m : Nat} {nm nv : Nat → Int64} {μ : sm_Mem} (h : Slt j N nm μ) (h' : Slt l M nv μ) (hm : m ≤ 60) : ∀ f i, M - i < f → i ≤ M → ∃ b, fnX8_meets_L2 f (96 + 2 * j) (96 + 2 * l) (nI m) (nI i) μ = some (b, μ) ∧ (b = true ↔ ∃ k, i ≤ k ∧ k < M ∧ k + m < N ∧ nm (k + m) = nv k) := by
  obtain ⟨hj, hN, s1, s2, s3, s4⟩ := h
  obtain ⟨hl, hM, t1, t2, t3, t4⟩ := h'
  obtain ⟨-, k2, k3⟩ := slot_ap hj
  obtain ⟨-, l2, l3⟩ := slot_ap hl
  intro f
  induction f with
  | zero =>
    intro i h
    omega
  | succ f ih =>
    intro i hf hi
    unfold fnX8_meets_L2
    simp (disch := (first | assumption | omega)) only [m_gi, s1, t1, m_br, nI_leI, m_ret, k2, l2, nI_add]
    by_cases c : M ≤ i
    · rw [if_pos c]
      exact ⟨false, rfl, fun h => (by cases h), fun ⟨k, q1, q2, _⟩ => absurd q2 (by omega)⟩
    · rw [if_neg c]
      by_cases c1 : N ≤ i + m
      · rw [if_pos c1]
        exact ⟨false, rfl, fun h => (by cases h), fun ⟨k, q1, q2, q3, _⟩ => absurd q3 (by omega)⟩
      · rw [if_neg c1]
        have x := s3 (i + m) (by omega)
        have y := t3 i (by omega)
        simp (disch := (first | assumption | omega)) only [e_al, x, y, m_br, lg_cmp_eq, m_ret, nI_1]
        by_cases c2 : nm (i + m) = nv i
        · rw [if_pos c2]
          exact ⟨true, rfl, fun _ => ⟨i, by omega, by omega, by omega, c2⟩, fun _ => rfl⟩
        · rw [if_neg c2]
          obtain ⟨b, e, hb⟩ := ih (i + 1) (by omega) (by omega)
          refine ⟨b, e, hb.trans ⟨fun ⟨k, q1, q2⟩ => ⟨k, by omega, q2⟩, fun ⟨k, q1, q2⟩ => ⟨k, ?_, q2⟩⟩⟩
          by_cases q : k = i
          · subst q
            exact absurd q2.2.2 c2
          · omega
theorem meet12_L {j N l M m : Nat} {nm nv : Nat → Int64} {μ : sm_Mem} (h : Slt j N nm μ) (h' : Slt l M nv μ) (hm : m ≤ 60) : ∀ f i, M - i < f → i ≤ M → ∃ b, fnX12_meet_L3 f 146 (nI j) (nI l) (nI m) (nI i) μ = some (b, μ) ∧ (b = true ↔ ∃ k, i ≤ k ∧ k < M ∧ k + m < N ∧ nm (k + m) = nv k) := by
  obtain ⟨hj, hN, s1, s2, s3, s4⟩ := h
  obtain ⟨hl, hM, t1, t2, t3, t4⟩ := h'
  have e_168 : ln 168 = 4 := rfl
  have e_170 : ln 170 = 240 := rfl
  intro f
  induction f with
  | zero =>
    intro i h
    omega
  | succ f ih =>
    intro i hf hi
    unfold fnX12_meet_L3 fnX12_meet_J61
    simp (disch := (first | assumption | omega)) only [lk_146_43, lk_146_45, e_ai, s2, t2, m_br, nI_leI, m_ret, m_nm, nI_add, li_60, pk_mul]
    by_cases c : M ≤ i
    · rw [if_pos c]
      exact ⟨false, rfl, fun h => (by cases h), fun ⟨k, q1, q2, _⟩ => absurd q2 (by omega)⟩
    · rw [if_neg c]
      obtain ⟨b, e, hb⟩ := ih (i + 1) (by omega) (by omega)
      rw [← nI_1] at e
      by_cases c1 : N ≤ i + m
      · rw [if_pos c1]
        refine ⟨b, e, hb.trans ⟨fun ⟨k, q1, q2⟩ => ⟨k, by omega, q2⟩, fun ⟨k, q1, q2⟩ => ⟨k, ?_, q2⟩⟩⟩
        by_cases q : k = i
        · subst q
          have := q2.2.1
          omega
        · omega
      · rw [if_neg c1]
        have x := s4 (i + m) (by omega)
        have y := t4 i (by omega)
        simp (disch := (first | assumption | omega)) only [e_al, x, y, m_br, lg_cmp_eq, m_ret]
        by_cases c2 : nm (i + m) = nv i
        · rw [if_pos c2]
          exact ⟨true, rfl, fun _ => ⟨i, by omega, by omega, by omega, c2⟩, fun _ => rfl⟩
        · rw [if_neg c2]
          refine ⟨b, e, hb.trans ⟨fun ⟨k, q1, q2⟩ => ⟨k, by omega, q2⟩, fun ⟨k, q1, q2⟩ => ⟨k, ?_, q2⟩⟩⟩
          by_cases q : k = i
          · subst q
            exact absurd q2.2.2 c2
          · omega
theorem bool_same {b b' : Bool} {P : Prop} (h : b = true ↔ P) (h' : b' = true ↔ P) : b = b' := by
  cases b <;> cases b' <;> simp_all
theorem slt_of {j : Nat} {μ : sm_Mem} (hSl : SL μ) (hj : j < 4) (h : ¬ μ.1 (96 + 2 * j) 0 = 0) : ∃ N, Slt j N (fun i => μ.2.1 (97 + 2 * j) i) μ := by
  rcases hSl j hj with ⟨q1, q2⟩ | ⟨N, wd, q1, q2, q3, q4, q5, q6, q7, q8⟩
  · exact absurd q1 h
  · exact ⟨N, hj, q1, q6, q7, fun i hi => rfl, fun i hi => (q8 i hi).symm⟩
theorem asks {w : Nat → Nat} {μ : sm_Mem} (hC : Core w μ) (s t : Int32) : ∃ r, fnX11_wrongRows 0 s t μ = some (r, μ) ∧ fnX12_asksTwo 146 s t μ = some (r, μ) ∧ (r = 0 ∨ r = -2 ∨ r = -6) ∧ (r = 0 → ∃ j l N M, s = nI j ∧ t = nI l ∧ Slt j N (fun i => μ.2.1 (97 + 2 * j) i) μ ∧ Slt l M (fun i => μ.2.1 (97 + 2 * l) i) μ ∧ (∀ k, k < N → 0 ≤ (μ.2.1 (97 + 2 * j) k).toInt ∧ (μ.2.1 (97 + 2 * j) k).toInt < w 3) ∧ (∀ k, k < M → 0 ≤ (μ.2.1 (97 + 2 * l) k).toInt ∧ (μ.2.1 (97 + 2 * l) k).toInt < w 3)) := by
  obtain ⟨hG, hR, hS, hW, hL, hT, hSl, hI, hF⟩ := hC
  have n := hG.1
  have r4 := hR.1.2.2.2.2.1
  have e_92 : ln 92 = 4 := rfl
  have e_168 : ln 168 = 4 := rfl
  have j0 : fnX11_wrongRows_J86 μ = some (-2, μ) := rfl
  have j1 : fnX11_wrongRows_J87 1 μ = some (0, μ) := rfl
  have n2 : ((-2 : Int32) = 0) → False := by decide
  have n6 : ((-6 : Int32) = 0) → False := by decide
  unfold fnX11_wrongRows fnX12_asksTwo
  simp only [m_bnd, isSlot11, isSlot12, m_br, bI_0, m_ret, lk_0_14, lk_0_5, lk_146_43]
  cases hs : rg s 0 3
  · exact ⟨-2, rfl, rfl, Or.inr (Or.inl rfl), fun h => (n2 h).elim⟩
  cases ht : rg t 0 3
  · exact ⟨-2, rfl, rfl, Or.inr (Or.inl rfl), fun h => (n2 h).elim⟩
  obtain ⟨j, -, hj, rfl⟩ := rg_nat (a := 0) (b := 3) hs (by omega)
  obtain ⟨l, -, hl, rfl⟩ := rg_nat (a := 0) (b := 3) ht (by omega)
  obtain ⟨s1, s2, s3⟩ := slot_ap (j := j) (by omega)
  obtain ⟨t1, t2, t3⟩ := slot_ap (j := l) (by omega)
  simp (disch := (first | assumption | omega)) only [reduceCtorEq, if_true, if_false, eq_self, e_ap, s1, m_gi, e_ai, m_br]
  by_cases c1 : μ.1 (96 + 2 * j) 0 = 0
  · have : μ.1 168 j = -1 := by
      rcases hSl j (by omega) with ⟨q1, q2⟩ | ⟨N, wd, q1, q2, q3, q4, q5, q6, q7, q8⟩
      · exact q2
      · rw [q3] at c1
        exact absurd c1 ok_m1
    rw [if_pos c1, if_pos this]
    exact ⟨-6, rfl, rfl, Or.inr (Or.inr rfl), fun h => (n6 h).elim⟩
  obtain ⟨N, hN⟩ := slt_of hSl (by omega) c1
  rw [if_neg c1, hN.2.2.2.1, if_neg (n_m1 (by have := hN.2.1; omega))]
  simp (disch := (first | assumption | omega)) only [e_ap, t1, m_gi, e_ai, m_br]
  by_cases c2 : μ.1 (96 + 2 * l) 0 = 0
  · have : μ.1 168 l = -1 := by
      rcases hSl l (by omega) with ⟨q1, q2⟩ | ⟨N, wd, q1, q2, q3, q4, q5, q6, q7, q8⟩
      · exact q2
      · rw [q3] at c2
        exact absurd c2 ok_m1
    rw [if_pos c2, if_pos this]
    exact ⟨-6, rfl, rfl, Or.inr (Or.inr rfl), fun h => (n6 h).elim⟩
  obtain ⟨M, hM⟩ := slt_of hSl (by omega) c2
  rw [if_neg c2, hM.2.2.2.1, if_neg (n_m1 (by have := hM.2.1; omega))]
  have hN2 := hN.2.1
  have hM2 := hM.2.1
  obtain ⟨b1, e1, i1⟩ := allBelow_L (B := w 3) hN n.1 4096 0 (by omega) (by omega)
  obtain ⟨b2, e2, i2⟩ := areStones_L hN hW hG 4096 0 (by omega) (by omega)
  obtain ⟨b3, e3, i3⟩ := allBelow_L (B := w 3) hM n.1 4096 0 (by omega) (by omega)
  obtain ⟨b4, e4, i4⟩ := areStones_L hM hW hG 4096 0 (by omega) (by omega)
  have q12 := bool_same i1 i2
  have q34 := bool_same i3 i4
  subst q12 q34
  have f1 : fnX8_allBelow (96 + 2 * j) (nI (w 3)) μ = some (b1, μ) := e1
  have f2 : fnX12_areStones 146 (nI j) μ = some (b1, μ) := e2
  have f3 : fnX8_allBelow (96 + 2 * l) (nI (w 3)) μ = some (b3, μ) := e3
  have f4 : fnX12_areStones 146 (nI l) μ = some (b3, μ) := e4
  simp (disch := (first | assumption | omega)) only [e_ap, s1, t1, r4, f1, f2, f3, f4, m_bnd, m_br, bI_0, m_ret, m_gi, j0, j1]
  cases b1
  · exact ⟨-2, rfl, rfl, Or.inr (Or.inl rfl), fun h => (n2 h).elim⟩
  · cases b3
    · exact ⟨-2, rfl, rfl, Or.inr (Or.inl rfl), fun h => (n2 h).elim⟩
    · exact ⟨0, rfl, rfl, Or.inl rfl, fun _ => ⟨j, l, N, M, rfl, rfl, hN, hM, fun k hk => i1.mp rfl k (by omega) hk, fun k hk => i3.mp rfl k (by omega) hk⟩⟩
theorem waits_L {j N l M : Nat} {nm nv : Nat → Int64} {μ : sm_Mem} (h : Slt j N nm μ) (h' : Slt l M nv μ) : ∀ f m, 61 - m < f → m ≤ 61 → ∃ r, fnX11_waits_L16 f 0 (nI j) (nI l) (nI m) μ = some (r, μ) ∧ fnX12_waits_L16 f 146 (nI j) (nI l) (nI m) μ = some (r, μ) := by
  have hj := h.1
  have hl := h'.1
  have hN := h.2.1
  have hM := h'.2.1
  obtain ⟨s1, -, -⟩ := slot_ap hj
  obtain ⟨t1, -, -⟩ := slot_ap hl
  have e_92 : ln 92 = 4 := rfl
  intro f
  induction f with
  | zero =>
    intro m h
    omega
  | succ f ih =>
    intro m hf hm
    unfold fnX11_waits_L16 fnX12_waits_L16
    simp (disch := (first | assumption | omega)) only [m_br, li_60, nI_ltI, m_ret, lk_0_14, e_ap, s1, t1]
    by_cases c : 60 < m
    · rw [if_pos c, if_pos c]
      exact ⟨_, rfl, rfl⟩
    · rw [if_neg c, if_neg c]
      have hh := ih (m + 1) (by omega) (by omega)
      obtain ⟨b1, e1, i1⟩ := meets_L h h' (m := m) (by omega) 4096 0 (by omega) (by omega)
      obtain ⟨b2, e2, i2⟩ := meet12_L h h' (m := m) (by omega) 4096 0 (by omega) (by omega)
      have q := bool_same i1 i2
      subst q
      have f1 : fnX8_meets (96 + 2 * j) (96 + 2 * l) (nI m) μ = some (b1, μ) := e1
      have f2 : fnX12_meet 146 (nI j) (nI l) (nI m) μ = some (b1, μ) := e2
      simp only [m_bnd, f1, f2, m_br, bI_0, m_ret, nI_1]
      cases b1
      · exact ⟨_, rfl, rfl⟩
      · simp only [reduceCtorEq, if_true, if_false, eq_self]
        exact hh
theorem op_waits (s t : Int32) : op2 Inv (fnX11_waits 0 s t) (fnX12_waits 146 s t) := by
  apply op_ro
  intro w μ hC
  obtain ⟨r, a1, a2, a3, a4⟩ := asks hC s t
  unfold fnX11_waits fnX12_waits
  simp only [m_bnd, a1, a2, m_br, m_ret]
  by_cases c : r = 0
  · obtain ⟨j, l, N, M, rfl, rfl, hN, hM, -, -⟩ := a4 c
    rw [if_pos c, if_pos (by rw [c]; decide)]
    exact waits_L hN hM 4096 0 (by omega) (by omega)
  · have : ¬ (0 : Int32) ≤ r := by
      rcases a3 with q | q | q
      · exact absurd q c
      · rw [q]; decide
      · rw [q]; decide
    rw [if_neg c, if_neg this]
    exact ⟨_, rfl, rfl⟩
/-- the numbers of a row as a mask -/
def stm (nm : Nat → Int64) : Nat → Int32
  | 0 => 0
  | n + 1 => stm nm n ||| ((1 : Int32) <<< ((nm n).toInt32 &&& 31))
theorem stones_L {j N : Nat} {nm : Nat → Int64} {μ : sm_Mem} (h : Slt j N nm μ) : ∀ f i, N - i < f → i ≤ N → fnX8_stones_L4 f (96 + 2 * j) (stm nm i) (nI i) μ = some (stm nm N, μ) ∧ fnX12_setOf_L4 f 146 (nI j) (stm nm i) (nI i) μ = some (stm nm N, μ) := by
  obtain ⟨hj, hN, s1, s2, s3, s4⟩ := h
  obtain ⟨-, k2, k3⟩ := slot_ap hj
  have e_168 : ln 168 = 4 := rfl
  have e_170 : ln 170 = 240 := rfl
  intro f
  induction f with
  | zero =>
    intro i h
    omega
  | succ f ih =>
    intro i hf hi
    unfold fnX8_stones_L4 fnX12_setOf_L4
    simp (disch := (first | assumption | omega)) only [m_gi, s1, s2, m_br, nI_leI, m_ret, k2, lk_146_43, lk_146_45, e_ai, li_60, pk_mul, nI_add]
    by_cases c : N ≤ i
    · have : i = N := by omega
      rw [if_pos c, if_pos c, this]
      exact ⟨rfl, rfl⟩
    · rw [if_neg c, if_neg c]
      have x := s3 i (by omega)
      have y := s4 i (by omega)
      simp (disch := (first | assumption | omega)) only [e_al, x, y, m_nm, nI_1]
      exact ih (i + 1) (by omega) (by omega)
theorem stones_eq {j N : Nat} {nm : Nat → Int64} {μ : sm_Mem} (h : Slt j N nm μ) : fnX8_stones (96 + 2 * j) μ = some (stm nm N, μ) := by
  have hN := h.2.1
  unfold fnX8_stones
  exact (stones_L h 4096 0 (by omega) (by omega)).1
theorem setOf_eq {j N : Nat} {nm : Nat → Int64} {μ : sm_Mem} (h : Slt j N nm μ) : fnX12_setOf 146 (nI j) μ = some (stm nm N, μ) := by
  have hN := h.2.1
  unfold fnX12_setOf
  exact (stones_L h 4096 0 (by omega) (by omega)).2
theorem stm_hi {nm : Nat → Int64} : ∀ {N : Nat}, (∀ k, k < N → 0 ≤ (nm k).toInt ∧ (nm k).toInt < 24) → ∀ i, 24 ≤ i → i < 32 → bt (stm nm N) i = false
  | 0, _, i, _, _ => b_0 i
  | N + 1, h, i, h1, h2 => by
    unfold stm
    have a := h N (by omega)
    have e : (nm N).toInt32 = nI (nm N).toInt.toNat := l64_nI (by omega) (by omega)
    rw [b_or, stm_hi (fun k hk => h k (by omega)) i h1 h2, e, k_1 _ (by omega) i h2, decide_eq_false (by omega)]
    rfl
theorem cross_L {m : Int32} {μ : sm_Mem} : ∀ f s, 24 - s < f → s ≤ 24 → fnX12_cross_L32 f m (nI (fb_ct (bt m) s)) (nI s) μ = some (nI (fb_ct (bt m) 24), μ) := by
  intro f
  induction f with
  | zero =>
    intro i h
    omega
  | succ f ih =>
    intro s hf hs
    unfold fnX12_cross_L32
    simp (disch := (first | assumption | omega)) only [m_br, li_24, nI_leI, m_ret, m_nm, nI_1]
    by_cases c : 24 ≤ s
    · have : s = 24 := by omega
      rw [if_pos c, this]
    · rw [if_neg c, k_test m (by omega)]
      have e : nI (fb_ct (bt m) s) + bI (bt m s) = nI (fb_ct (bt m) (s + 1)) := by
        rw [fb_ct_succ]
        cases bt m s
        · exact nI_add _ 0
        · exact nI_add _ 1
      rw [e]
      exact ih (s + 1) (by omega) (by omega)
theorem e_nm {α β : Type} {x : β} {g : β → sm_M α} {μ : sm_Mem} : m_nm x g μ = g x μ := id rfl
theorem cross_eq (m : Int32) (μ : sm_Mem) : fnX12_cross_L32 4096 m (0 : Int32) (0 : Int32) μ = some (nI (fb_ct (bt m) 24), μ) := by
  exact cross_L 4096 0 (by omega) (by omega)
theorem op_cross (s t : Int32) : op2 Inv (fnX11_cross 0 s t) (fnX12_cross 146 s t) := by
  apply op_ro
  intro w μ hC
  obtain ⟨r, a1, a2, a3, a4⟩ := asks hC s t
  have n := hC.1.1
  have e_92 : ln 92 = 4 := rfl
  unfold fnX11_cross fnX12_cross
  simp only [m_bnd, a1, a2, m_br, m_ret, lk_0_14]
  by_cases c : r = 0
  · obtain ⟨j, l, N, M, rfl, rfl, hN, hM, b1, b2⟩ := a4 c
    have hj := hN.1
    have hl := hM.1
    have hN2 := hN.2.1
    have hM2 := hM.2.1
    obtain ⟨s1, -, -⟩ := slot_ap hj
    obtain ⟨t1, -, -⟩ := slot_ap hl
    rw [if_pos c, if_pos (by rw [c]; decide)]
    have f1 := stones_eq hN
    have f2 := setOf_eq hN
    have f3 := stones_eq hM
    have f4 := setOf_eq hM
    have hb := bitCount_eq (m := stm (fun i => μ.2.1 (97 + 2 * j) i) N &&& stm (fun i => μ.2.1 (97 + 2 * l) i) M) (fun i h1 h2 => by
      rw [b_and, stm_hi (fun k hk => by have := b1 k hk; omega) i h1 h2]
      rfl) μ
    simp (disch := (first | assumption | omega)) only [e_ap, s1, t1, f1, f2, f3, f4, m_bnd, e_nm]
    generalize stm (fun i => μ.2.1 (97 + 2 * j) i) N &&& stm (fun i => μ.2.1 (97 + 2 * l) i) M = mm at hb
    rw [hb, cross_eq]
    exact ⟨_, rfl, rfl⟩
  · have : ¬ (0 : Int32) ≤ r := by
      rcases a3 with q | q | q
      · exact absurd q c
      · rw [q]; decide
      · rw [q]; decide
    rw [if_neg c, if_neg this]
    exact ⟨_, rfl, rfl⟩
