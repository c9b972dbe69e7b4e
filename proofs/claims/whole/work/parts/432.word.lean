/-! ===== TOKENS: the reference's advance, words ===== -/
def AdJ (tp : Nat → Int32) (n p : Nat) (μ : sm_Mem) : Prop := μ.1 146 9 = nI (aSt tp n p) ∧ μ.1 146 8 = nI (aEn tp n p) ∧ μ.1 146 10 = nI (aKd tp n p) ∧ (aKd tp n p = 2 → μ.1 146 11 = nI (min 99999 (aVl tp n p)))
theorem adv39 {tp : Nat → Int32} {n p : Nat} (hn : n ≤ 1600) (hB : Byt tp n) (hp : p ≤ n) {μ0 μ : sm_Mem} (hT : Tap12 tp n μ0) (hr : FrJ μ0 μ) (h8 : μ.1 146 8 = nI (aSt tp n p)) : T (fnX12_advance_J39 146) μ (fun _ μ' => AdJ tp n p μ' ∧ FrJ μ0 μ') := by
  have hl := adv_le (tp := tp) hp
  unfold fnX12_advance_J39
  rw [t_gi, h8, t_si]
  have r1 : FrJ μ0 (u2 μ.1 146 9 (nI (aSt tp n p)), μ.2) := frJ_si hr (by omega) (by omega)
  have x8 : (u2 μ.1 146 9 (nI (aSt tp n p)), μ.2).1 146 8 = nI (aSt tp n p) := by
    rw [← h8]
    simp (disch := omega) only [u2_ne, u2_a, u2_k, u2_at]
  have x9 : (u2 μ.1 146 9 (nI (aSt tp n p)), μ.2).1 146 9 = nI (aSt tp n p) := (by simp (disch := omega) only [u2_ne, u2_a, u2_k, u2_at])
  revert r1 x8 x9
  generalize (u2 μ.1 146 9 (nI (aSt tp n p)), μ.2) = μ1
  intro r1 x8 x9
  have t := tap12_fr r1 hT
  rw [t_gi, x8, t_bnd, t_eq (see12 hn (by omega) t)]
  by_cases c : n ≤ aSt tp n p
  · have ek : aKd tp n p = 0 := by
      unfold aKd
      rw [if_pos c]
    have ee : aEn tp n p = aSt tp n p := by
      unfold aEn
      rw [if_pos c]
    rw [t_brT ((seeW_m1 hB).mpr c), t_si, t_ret]
    refine ⟨⟨?_, ?_, ?_, fun z => by omega⟩, frJ_si r1 (by omega) (by omega)⟩
    · rw [← x9]
      simp (disch := omega) only [u2_ne, u2_a, u2_k, u2_at]
    · rw [ee, ← x8]
      simp (disch := omega) only [u2_ne, u2_a, u2_k, u2_at]
    · rw [ek]
      simp (disch := omega) only [u2_ne, u2_a, u2_k, u2_at]
      rfl
  · rw [t_brF (fun z => c ((seeW_m1 hB).mp z)), t_bnd, t_eq (in_eq _ _ _ _), t64c.1, t64c.2.1, seeW_rg hB (by omega) (by omega), decide_eq_true (show aSt tp n p < n by omega), Bool.true_and]
    show T (m_br (bI (isL (tp (aSt tp n p))) = 0) _ _) μ1 _
    cases q : isL (tp (aSt tp n p))
    · rw [t_brT (by decide), t_bnd, t_eq (in_eq _ _ _ _), t64c.2.2.1, t64c.2.2.2, seeW_rg hB (by omega) (by omega), decide_eq_true (show aSt tp n p < n by omega), Bool.true_and]
      show T (m_br (bI (isD (tp (aSt tp n p))) = 0) _ _) μ1 _
      cases q2 : isD (tp (aSt tp n p))
      · have ee : aEn tp n p = aSt tp n p + 1 := by
          unfold aEn
          rw [if_neg c, if_neg (by rw [q]; decide), if_neg (by rw [q2]; decide)]
        have fin : ∀ v, aKd tp n p = v → v ≠ 2 → T (fnX12_advance_J226 146 (nI v) 146) μ1 (fun _ μ' => AdJ tp n p μ' ∧ FrJ μ0 μ') := by
          intro v hv hv2
          unfold fnX12_advance_J226
          rw [t_si, t_gi, show (u2 μ1.1 146 10 (nI v), μ1.2).1 146 8 = nI (aSt tp n p) by rw [← x8]; simp (disch := omega) only [u2_ne, u2_a, u2_k, u2_at], nI_1, t_si, t_ret]
          refine ⟨⟨?_, ?_, ?_, fun z => by omega⟩, frJ_si (μ := (u2 μ1.1 146 10 (nI v), μ1.2)) (frJ_si r1 (by omega) (by omega)) (by omega) (by omega)⟩
          · rw [← x9]
            simp (disch := omega) only [u2_ne, u2_a, u2_k, u2_at]
          · rw [ee]
            simp (disch := omega) only [u2_ne, u2_a, u2_k, u2_at]
          · rw [hv]
            simp (disch := omega) only [u2_ne, u2_a, u2_k, u2_at]
        have e59 : (59 : Int32).toInt = 59 := by decide
        have s59 := seeW_eq (p := aSt tp n p) hB (c := 59) (by rw [e59]; omega) (by rw [e59]; omega)
        rw [t_brT (by decide), li_3, li_4]
        by_cases q3 : tp (aSt tp n p) = 59
        · rw [t_brT (s59.mpr ⟨by omega, q3⟩)]
          refine fin 3 ?_ (by omega)
          unfold aKd
          rw [if_neg c, if_neg (by rw [q]; decide), if_neg (by rw [q2]; decide), if_pos q3]
        · rw [t_brF (fun z => q3 (s59.mp z).2)]
          refine fin 4 ?_ (by omega)
          unfold aKd
          rw [if_neg c, if_neg (by rw [q]; decide), if_neg (by rw [q2]; decide), if_neg q3]
      · have ek : aKd tp n p = 2 := by
          unfold aKd
          rw [if_neg c, if_neg (by rw [q]; decide), if_pos q2]
        have ee : aEn tp n p = (dgt tp (n - aSt tp n p) (aSt tp n p) 0).2 := by
          unfold aEn
          rw [if_neg c, if_neg (by rw [q]; decide), if_pos q2]
        rw [t_brF (by decide), t_si]
        refine t_mono (dgt12_L hn hB hT 4096 (aSt tp n p) 0 _ (by omega) (by omega) (frJ_si r1 (by omega) (by omega)) (by rw [← x8]; simp (disch := omega) only [u2_ne, u2_a, u2_k, u2_at]) (by
          show u2 μ1.1 146 11 0 146 11 = nI 0
          rw [u2_at]
          rfl)) ?_
        rintro _ μ' ⟨a1, a2, a3, a4, a5⟩
        refine ⟨⟨?_, by rw [ee]; exact a1, by rw [ek]; exact a3, fun _ => a2⟩, a5⟩
        rw [a4, ← x9]
        simp (disch := omega) only [u2_ne, u2_a, u2_k, u2_at]
    · have ek : aKd tp n p = 1 := by
        unfold aKd
        rw [if_neg c, if_pos q]
      have ee : aEn tp n p = wrd tp (n - aSt tp n p) (aSt tp n p) := by
        unfold aEn
        rw [if_neg c, if_pos q]
      rw [t_brF (by decide)]
      refine t_mono (wrd12_L hn hB hT 4096 (aSt tp n p) μ1 (by omega) (by omega) r1 x8) ?_
      rintro _ μ' ⟨a1, a2, a3, a4⟩
      refine ⟨⟨?_, by rw [ee]; exact a1, by rw [ek]; exact a2, fun z => by omega⟩, a4⟩
      rw [a3 9 (by omega) (by omega), x9]
theorem skp12_L {tp : Nat → Int32} {n : Nat} (hn : n ≤ 1600) (hB : Byt tp n) {μ0 : sm_Mem} (hT : Tap12 tp n μ0) {Q : Unit → sm_Mem → Prop} {s : Nat} (ex : ∀ μ, FrJ μ0 μ → μ.1 146 8 = nI s → T (fnX12_advance_J39 146) μ Q) : ∀ (f p : Nat) (μ : sm_Mem), n - p < f → p ≤ n → FrJ μ0 μ → μ.1 146 8 = nI p → skp tp (n - p) p = s → T (fnX12_advance_L0 f 146) μ Q := by
  have e32 : (32 : Int32).toInt = 32 := by decide
  have e10 : (10 : Int32).toInt = 10 := by decide
  intro f
  induction f with
  | zero =>
    intro p μ h
    omega
  | succ f ih =>
    intro p μ hf hp hr h8 hs
    have t := tap12_fr hr hT
    have s32 := seeW_eq (p := p) hB (c := 32) (by rw [e32]; omega) (by rw [e32]; omega)
    have s10 := seeW_eq (p := p) hB (c := 10) (by rw [e10]; omega) (by rw [e10]; omega)
    unfold fnX12_advance_L0 fnX12_advance_J26
    rw [t_gi, h8, t_bnd, t_eq (see12 hn (by omega) t)]
    by_cases c : n ≤ p
    · rw [show n - p = 0 by omega] at hs
      rw [t_brF (fun z => by have := s32.mp z; omega), t_gi, h8, t_bnd, t_eq (see12 hn (by omega) t), t_brF (fun z => by have := s10.mp z; omega)]
      exact ex μ hr (by rw [h8, ← hs]; rfl)
    · rw [show n - p = (n - (p + 1)) + 1 by omega, skp] at hs
      have go : isB (tp p) = true → T (m_gi 146 8 fun x28 => m_si 146 8 (x28 + (1 : Int32)) <| fnX12_advance_L0 f 146) μ Q := by
        intro hb
        rw [if_pos hb] at hs
        rw [t_gi, h8, nI_1, t_si]
        exact ih (p + 1) _ (by omega) (by omega) (frJ_si hr (by omega) (by omega)) (by simp (disch := omega) only [u2_ne, u2_a, u2_k, u2_at]) hs
      by_cases q1 : tp p = 32
      · rw [t_brT (s32.mpr ⟨by omega, q1⟩)]
        exact go (decide_eq_true (Or.inl q1))
      · rw [t_brF (fun z => q1 (s32.mp z).2), t_gi, h8, t_bnd, t_eq (see12 hn (by omega) t)]
        by_cases q2 : tp p = 10
        · rw [t_brT (s10.mpr ⟨by omega, q2⟩)]
          exact go (decide_eq_true (Or.inr q2))
        · rw [t_brF (fun z => q2 (s10.mp z).2)]
          rw [if_neg (by unfold isB; simp [q1, q2])] at hs
          exact ex μ hr (by rw [h8, hs])
theorem adv12_T {tp : Nat → Int32} {n p : Nat} (hn : n ≤ 1600) (hB : Byt tp n) (hp : p ≤ n) {μ : sm_Mem} (hT : Tap12 tp n μ) (h8 : μ.1 146 8 = nI p) : T (fnX12_advance 146) μ (fun _ μ' => AdJ tp n p μ' ∧ FrJ μ μ') := by
  unfold fnX12_advance
  exact skp12_L hn hB hT (s := aSt tp n p) (fun μ1 r1 h => adv39 hn hB hp hT r1 h) 4096 p μ (by omega) hp (frJ_rf μ) h8 rfl
/-! words -/
def wL (i : Nat) : Nat := strLen.getD i 0
def wC (i j : Nat) : Int32 := cN ((strByt.getD i []).getD j 0 &&& (255 : Int32))
def wEq (tp : Nat → Int32) (i st : Nat) : Nat → Nat → Bool
  | 0, _ => true
  | f + 1, j => if tp (st + j) = wC i j then wEq tp i st f (j + 1) else false
def isW (tp : Nat → Int32) (n i p : Nat) : Bool := decide (aKd tp n p = 1) && (decide (aEn tp n p - aSt tp n p = wL i) && wEq tp i (aSt tp n p) (wL i) 0)
theorem wL_le (i : Nat) : wL i ≤ 6 := by
  have h : ∀ k : Fin 16, strLen.getD k.val 0 ≤ 6 := by decide
  unfold wL
  by_cases c : i < 16
  · exact h ⟨i, c⟩
  · rw [List.getD_eq_getElem?_getD, List.getElem?_eq_none (by show 16 ≤ i; omega)]
    exact Nat.zero_le _
theorem len_eq (i : Nat) (μ : sm_Mem) : fnJ0_length_8abf5 i μ = some (nI (wL i), μ) := by
  have h : ∀ k : Fin 7, nI k.val >>> ((0 : Int32) &&& 31) = nI k.val := by decide
  have e : nI (wL i) >>> ((0 : Int32) &&& 31) = nI (wL i) := h ⟨wL i, by have := wL_le i; omega⟩
  unfold fnJ0_length_8abf5
  show some (nI (wL i) >>> ((0 : Int32) &&& 31), μ) = _
  rw [e]
theorem char_eq {i j : Nat} (hj : j < wL i) (μ : sm_Mem) : fnJ0_charAt_5068e i (nI j) μ = some ((strByt.getD i []).getD j 0 &&& (255 : Int32), μ) := by
  have hl := wL_le i
  unfold fnJ0_charAt_5068e fnJ1_charAt_3b067 fnJ0_checkIndex_df160 fnJ3_checkIndex_8e157
  have g1 : ¬ nI j < 0 := nI_pos (by omega)
  have g2 : nI j < nI (wL i) := nI_lt hj (by omega)
  have g3 : (nI j).toNatClampNeg = j := by
    rw [Int32.toNatClampNeg, nI_toInt (by omega)]
    rfl
  have g4 : ¬ (nI j < 0 ∨ strLen.getD i 0 ≤ j) := by
    rintro (z | z)
    · exact g1 z
    · have z : wL i ≤ j := z
      omega
  have g2' : nI j < nI (strLen.getD i 0) := g2
  simp only [m_bnd, m_ret, m_gd, if_pos g1, if_pos g2', g3, if_pos g4]
theorem e_gt {α : Type} {g : Nat → sm_M α} {μ : sm_Mem} (h : μ.2.2 = 1) : m_gt g μ = g 1 μ := by
  unfold m_gt
  rw [h, if_pos kd1]
theorem word6_L {tp : Nat → Int32} {n i st : Nat} (hn : n ≤ 1600) {μ : sm_Mem} (hT : Tap6 tp n μ) (h5 : μ.1 2 5 = nI st) (hs : st + wL i ≤ n) : ∀ f j, wL i - j < f → j ≤ wL i → fnX6_isWord_L28 f 2 i (nI j) μ = some (wEq tp i st (wL i - j) j, μ) := by
  have e_1 : ln 1 = 1600 := rfl
  have hl := wL_le i
  intro f
  induction f with
  | zero =>
    intro j h
    omega
  | succ f ih =>
    intro j hf hj
    unfold fnX6_isWord_L28
    rw [e_b (len_eq i μ)]
    by_cases c : wL i ≤ j
    · rw [e_T (nI_le c (by omega)), show wL i - j = 0 by omega]
      rfl
    · rw [e_F (nI_ge (by omega) (by omega))]
      rw [e_gt hT.1, e_gi, h5, nI_add, e_ai (by omega), hT.2.2 _ (by omega), e_b (char_eq (by omega) μ), show wL i - j = (wL i - (j + 1)) + 1 by omega, wEq]
      by_cases q : tp (st + j) = wC i j
      · rw [e_T (show tp (st + j) = cN ((strByt.getD i []).getD j 0 &&& (255 : Int32)) from q), if_pos q, nI_1]
        exact ih (j + 1) (by omega) (by omega)
      · rw [e_F (show ¬ tp (st + j) = cN ((strByt.getD i []).getD j 0 &&& (255 : Int32)) from q), if_neg q]
        rfl
theorem word6 {tp : Nat → Int32} {n i p : Nat} (hn : n ≤ 1600) (hp : p ≤ n) {μ : sm_Mem} (hT : Tap6 tp n μ) (hA : AdK tp n p μ) : fnX6_isWord 2 i μ = some (isW tp n i p, μ) := by
  have hl := adv_le (tp := tp) hp
  have h6 := wL_le i
  unfold fnX6_isWord isW
  rw [e_gi, hA.2.2.1]
  by_cases c : aKd tp n p = 1
  · rw [e_T (by rw [c]; rfl), e_gi, hA.2.1, e_gi, hA.1, e_b (len_eq i μ), pk_sub (by omega), decide_eq_true c, Bool.true_and]
    by_cases c2 : aEn tp n p - aSt tp n p = wL i
    · rw [e_T (by rw [c2]), decide_eq_true c2, Bool.true_and, li_0]
      exact word6_L hn hT hA.1 (by omega) 4096 0 (by omega) (by omega)
    · rw [e_F (fun z => c2 ((nI_eq (by omega) (by omega)).mp z)), decide_eq_false c2, Bool.false_and]
      rfl
  · rw [e_F (show ¬ nI (aKd tp n p) = (1 : Int32) from fun z => c ((nI_eq (b := 1) (by omega) (by omega)).mp z)), decide_eq_false c, Bool.false_and]
    rfl
theorem good12 {μ : sm_Mem} : fnX12_good 146 μ = some (decide (μ.1 146 12 = 0), μ) := by
  unfold fnX12_good
  rw [e_gi]
  by_cases c : μ.1 146 12 = 0
  · rw [e_T c, decide_eq_true c]
    rfl
  · rw [e_F c, decide_eq_false c]
    rfl
theorem word12_0 {i f : Nat} {μ : sm_Mem} : fnX12_is_L39 (f + 1) 146 i (nI 0) (nI 0) μ = some (false, μ) := by
  have hl := wL_le i
  unfold fnX12_is_L39
  rw [e_b (len_eq i μ)]
  have e : m_gd (bI (decide (nI 0 = 1)) = nI 0) (m_ret (decide (nI 0 = 1))) μ = some (false, μ) := by
    unfold m_gd
    rw [if_pos (by decide)]
    rfl
  by_cases c : wL i ≤ 0
  · rw [e_T (nI_le c (by omega))]
    exact e
  · rw [e_F (nI_ge (by omega) (by omega)), e_T (show nI 0 = 0 from rfl)]
    exact e
theorem word12_L {tp : Nat → Int32} {n i st : Nat} (hn : n ≤ 1600) {μ : sm_Mem} (hT : Tap12 tp n μ) (h9 : μ.1 146 9 = nI st) (hs : st + wL i ≤ n) : ∀ f j, wL i - j + 1 < f → j ≤ wL i → fnX12_is_L39 f 146 i (nI 1) (nI j) μ = some (wEq tp i st (wL i - j) j, μ) := by
  have e_150 : ln 150 = 1600 := rfl
  have hl := wL_le i
  intro f
  induction f with
  | zero =>
    intro j h
    omega
  | succ f ih =>
    intro j hf hj
    unfold fnX12_is_L39 fnX12_is_J75
    rw [e_b (len_eq i μ)]
    by_cases c : wL i ≤ j
    · rw [e_T (nI_le c (by omega)), show wL i - j = 0 by omega]
      unfold m_gd
      rw [if_pos (by decide)]
      rfl
    · rw [e_F (nI_ge (by omega) (by omega)), e_F (by decide), e_gi, h9, nI_add, lk_146_4, e_ai (by omega), hT.2 _ (by omega), e_b (char_eq (by omega) μ), show wL i - j = (wL i - (j + 1)) + 1 by omega, wEq]
      by_cases q : tp (st + j) = wC i j
      · rw [e_T (show tp (st + j) = cN ((strByt.getD i []).getD j 0 &&& (255 : Int32)) from q), if_pos q, nI_1]
        exact ih (j + 1) (by omega) (by omega)
      · rw [e_F (show ¬ tp (st + j) = cN ((strByt.getD i []).getD j 0 &&& (255 : Int32)) from q), if_neg q, nI_1]
        cases f with
        | zero => omega
        | succ f =>
          unfold fnX12_is_L39
          rw [e_b (len_eq i μ)]
          have e : m_gd (bI (decide ((0 : Int32) = 1)) = 0) (m_ret (decide ((0 : Int32) = 1))) μ = some (false, μ) := by
            unfold m_gd
            rw [if_pos (by decide)]
            rfl
          by_cases c2 : wL i ≤ j + 1
          · rw [e_T (nI_le c2 (by omega))]
            exact e
          · rw [e_F (nI_ge (by omega) (by omega)), e_T rfl]
            exact e
theorem word12 {tp : Nat → Int32} {n i p : Nat} (hn : n ≤ 1600) (hp : p ≤ n) {μ : sm_Mem} (hT : Tap12 tp n μ) (hA : AdJ tp n p μ) : fnX12_is 146 i μ = some (decide (μ.1 146 12 = 0) && isW tp n i p, μ) := by
  have hl := adv_le (tp := tp) hp
  have h6 := wL_le i
  have no : fnX12_is_J35 146 i μ = some (false, μ) := by
    unfold fnX12_is_J35 fnX12_is_J36
    exact word12_0
  unfold fnX12_is isW
  rw [e_b good12]
  by_cases c0 : μ.1 146 12 = 0
  · rw [decide_eq_true c0, e_F (by decide), e_gi, hA.2.2.1, Bool.true_and]
    by_cases c : aKd tp n p = 1
    · rw [e_T (by rw [c]; rfl), e_gi, hA.2.1, e_gi, hA.1, e_b (len_eq i μ), pk_sub (by omega), decide_eq_true c, Bool.true_and]
      by_cases c2 : aEn tp n p - aSt tp n p = wL i
      · rw [e_T (by rw [c2]), decide_eq_true c2, Bool.true_and]
        unfold fnX12_is_J36
        exact word12_L hn hT hA.1 (by omega) 4096 0 (by omega) (by omega)
      · rw [e_F (fun z => c2 ((nI_eq (by omega) (by omega)).mp z)), decide_eq_false c2, Bool.false_and]
        exact no
    · rw [e_F (show ¬ nI (aKd tp n p) = (1 : Int32) from fun z => c ((nI_eq (b := 1) (by omega) (by omega)).mp z)), decide_eq_false c, Bool.false_and]
      exact no
  · rw [decide_eq_false c0, e_T (by decide), Bool.false_and]
    exact no
