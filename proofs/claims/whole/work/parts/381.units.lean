/-! ===== UNITS: who they are, where, what they weigh ===== -/
theorem hand_cases {w : Nat → Nat} (hG : Good w) {u : Nat} (hu : u < w 4) : w (190 + 7 * u) = 0 ∨ (w (190 + 7 * u) ≠ 0 ∧ w (190 + 7 * u) - 1 < w 4 ∧ w (190 + 7 * u) ≤ 8 ∧ w (190 + 7 * u) - 1 ≠ u) := by
  have n := hG.1
  rcases hG.2.2.2.2.2.2.2.2.1 u hu with q | ⟨q, a, b, c, d⟩
  · exact Or.inl q
  · exact Or.inr ⟨by omega, by omega, by omega, by omega⟩
theorem hd_mm {h : Nat} (hh : h < 2 ^ 30) : (nI h - nI 1 = (-1 : Int32)) ↔ h = 0 := hd_m1 hh
theorem isUnit7 {w : Nat → Nat} {μ : sm_Mem} (hR : RH 14 w μ) (hG : Good w) {u : Nat} (hu : u < w 4) : fnX7_isUnit 14 (nI u) μ = some (lead w u, μ) := by
  have n := hG.1
  have r5 := hR.1.2.2.2.2.2
  have hh := hand14 hR hu
  have e_23 : ln 23 = 8 := rfl
  unfold fnX7_isUnit lead
  simp only [m_br, m_gi, r5]
  rw [if_neg (nI_pos (by omega)), if_neg (nI_ge (by omega) (by omega)), lk_14_16, e_ai (by omega), hh]
  simp only [m_br]
  rcases hand_cases hG hu with q | ⟨q1, q2, q3, q4⟩
  · rw [if_pos ((hd_mm (by omega)).mpr q), decide_eq_true (Or.inl q)]
    rfl
  · rw [if_neg (fun z => q1 ((hd_mm (by omega)).mp z)), e_ai (by omega), hh, hd_q q1]
    simp only [m_br]
    by_cases c : w (190 + 7 * u) - 1 ≤ u
    · rw [if_pos (nI_le c (by omega)), decide_eq_false (by omega)]
      rfl
    · rw [if_neg (nI_ge (by omega) (by omega)), decide_eq_true (by omega)]
      rfl
theorem isUnit7_no {w : Nat → Nat} {μ : sm_Mem} (hR : RH 14 w μ) (hG : Good w) {v : Int32} (hv : rg v 0 ((w 4 : Int) - 1) = false) : fnX7_isUnit 14 v μ = some (false, μ) := by
  have n := hG.1
  have r5 := hR.1.2.2.2.2.2
  unfold fnX7_isUnit
  simp only [m_br, m_gi, r5]
  by_cases c1 : v < 0
  · rw [if_pos c1]
    rfl
  · rw [if_neg c1]
    by_cases c2 : nI (w 4) ≤ v
    · rw [if_pos c2]
      rfl
    · exfalso
      unfold rg at hv
      have hv := of_decide_eq_false hv
      rw [fa_lt] at c1
      rw [fa_le, nI_toInt (by omega)] at c2
      have : (0 : Int32).toInt = 0 := by decide
      omega
theorem leads12 {w : Nat → Nat} {μ : sm_Mem} (hW : WH 147 w μ) (hG : Good w) {u : Nat} (hu : u < w 4) : fnX12_leads 146 (nI u) μ = some (lead w u, μ) := by
  have n := hG.1
  have hh := ofH_eq hW (p := u) (by omega)
  unfold fnX12_leads lead
  simp only [m_bnd, hh, m_br]
  rcases hand_cases hG hu with q | ⟨q1, q2, q3, q4⟩
  · rw [if_pos ((hd_m1 (by omega)).mpr q), decide_eq_true (Or.inl q)]
    rfl
  · rw [if_neg (fun z => q1 ((hd_m1 (by omega)).mp z)), hd_q' q1]
    by_cases c : w (190 + 7 * u) - 1 ≤ u
    · rw [if_pos (nI_le c (by omega)), decide_eq_false (by omega)]
      rfl
    · rw [if_neg (nI_ge (by omega) (by omega)), decide_eq_true (by omega)]
      rfl
theorem second12 {w : Nat → Nat} {μ : sm_Mem} (hW : WH 147 w μ) (hG : Good w) {u : Nat} (hu : u < w 4) : fnX12_second 146 (nI u) μ = some (nI (w (190 + 7 * u)) - 1, μ) := by
  have n := hG.1
  unfold fnX12_second
  simp only [m_bnd, ofH_eq hW (p := u) (by omega), m_ret]
theorem isAt9 {c b : Nat} {w : Nat → Nat} {μ : sm_Mem} (hc : isSc c) (hR : RH 14 w μ) (hS : SH c w μ) (hG : Good w) {u : Nat} (hu : u < w 4) (hb : b < 100) : fnX9_isAt c (nI u) (nI b) μ = some (uAt w u b, μ) := by
  obtain ⟨k0, k2, k3, k4, l1, l2, l3⟩ := sc_lk hc
  have n := hG.1
  have hh := hand14 hR hu
  have e_23 : ln 23 = 8 := rfl
  have x := hS.2.2.2 u hu
  have gl := hG.2.2.2.2.2.2.2.2.2 u hu
  unfold fnX9_isAt uAt
  rw [k0, lk_14_16, e_ai (by omega), hh, k4, e_ai (by omega), x]
  simp only [m_br]
  by_cases c1 : w (191 + 7 * u) = b
  · rw [if_pos (by rw [c1])]
    rcases hand_cases hG hu with q | ⟨q1, q2, q3, q4⟩
    · rw [if_pos ((hd_mm (by omega)).mpr q), decide_eq_true ⟨c1, Or.inl q⟩]
      rfl
    · have y := hS.2.2.2 (w (190 + 7 * u) - 1) q2
      have gl2 := hG.2.2.2.2.2.2.2.2.2 (w (190 + 7 * u) - 1) q2
      rw [if_neg (fun z => q1 ((hd_mm (by omega)).mp z)), hd_q q1, e_ai (by omega), y]
      simp only [m_br]
      by_cases c2 : w (191 + 7 * (w (190 + 7 * u) - 1)) = b
      · rw [if_pos (by rw [c2]), decide_eq_true ⟨c1, Or.inr c2⟩]
        rfl
      · rw [if_neg (fun z => c2 ((nI_eq (by omega) (by omega)).mp z)), decide_eq_false (by omega)]
        rfl
  · rw [if_neg (fun z => c1 ((nI_eq (by omega) (by omega)).mp z)), decide_eq_false (fun z => c1 z.1)]
    rfl
theorem isAt12 {b : Nat} {w : Nat → Nat} {μ : sm_Mem} (hW : WH 147 w μ) (hG : Good w) {u : Nat} (hu : u < w 4) (hb : b < 100) : fnX12_isAt 146 (nI u) (nI b) μ = some (lead w u && uAt w u b, μ) := by
  have n := hG.1
  have gl := hG.2.2.2.2.2.2.2.2.2 u hu
  have q6 := of_eq hW (p := u) (k := 6) (by omega) (by omega) (by omega)
  rw [show 185 + 7 * u + 6 = 191 + 7 * u by omega] at q6
  unfold fnX12_isAt uAt
  simp only [m_bnd, leads12 hW hG hu, second12 hW hG hu, li_6, q6, m_br, bI_0]
  cases hl : lead w u
  · rfl
  · rw [if_neg (by decide), Bool.true_and]
    by_cases c1 : w (191 + 7 * u) = b
    · rw [if_pos (by rw [c1])]
      rcases hand_cases hG hu with q | ⟨q1, q2, q3, q4⟩
      · rw [if_pos ((hd_m1 (by omega)).mpr q), decide_eq_true ⟨c1, Or.inl q⟩]
        rfl
      · have gl2 := hG.2.2.2.2.2.2.2.2.2 (w (190 + 7 * u) - 1) q2
        have y6 := of_eq hW (p := w (190 + 7 * u) - 1) (k := 6) (by omega) (by omega) (by omega)
        rw [show 185 + 7 * (w (190 + 7 * u) - 1) + 6 = 191 + 7 * (w (190 + 7 * u) - 1) by omega] at y6
        rw [if_neg (fun z => q1 ((hd_m1 (by omega)).mp z)), hd_q' q1]
        simp only [y6]
        by_cases c2 : w (191 + 7 * (w (190 + 7 * u) - 1)) = b
        · rw [if_pos (by rw [c2]), decide_eq_true ⟨c1, Or.inr c2⟩]
          rfl
        · rw [if_neg (fun z => c2 ((nI_eq (by omega) (by omega)).mp z)), decide_eq_false (by omega)]
          rfl
    · rw [if_neg (fun z => c1 ((nI_eq (by omega) (by omega)).mp z)), decide_eq_false (fun z => c1 z.1)]
      rfl
theorem jmin_nat {a b : Nat} (ha : a < 2 ^ 30) (hb : b < 2 ^ 30) : jmin (nI a) (nI b) = nI (min a b) := by
  unfold jmin
  by_cases q : b < a
  · rw [if_pos (nI_lt q (by omega)), Nat.min_eq_right (by omega)]
  · rw [if_neg (nI_nlt (by omega) (by omega)), Nat.min_eq_left (by omega)]
theorem strideOf7 {w : Nat → Nat} {μ : sm_Mem} (hR : RH 14 w μ) (hG : Good w) {u : Nat} (hu : u < w 4) : fnX7_strideOf 14 (nI u) μ = some (nI (uStr w u), μ) := by
  have n := hG.1
  have hh := hand14 hR hu
  have e_23 : ln 23 = 8 := rfl
  have e_20 : ln 20 = 8 := rfl
  have x : μ.1 20 u = nI (w (185 + 7 * u)) := (hR.2.2.2.2 u hu).1
  have g := hG.2.2.2.2.2.2.2.1 u hu
  unfold fnX7_strideOf uStr
  rw [lk_14_16, e_ai (by omega), hh]
  simp only [m_br]
  rcases hand_cases hG hu with q | ⟨q1, q2, q3, q4⟩
  · rw [if_pos ((hd_mm (by omega)).mpr q), if_pos q, lk_14_13, e_ai (by omega), x]
    rfl
  · have y : μ.1 20 (w (190 + 7 * u) - 1) = nI (w (185 + 7 * (w (190 + 7 * u) - 1))) := (hR.2.2.2.2 _ q2).1
    have g2 := hG.2.2.2.2.2.2.2.1 _ q2
    rw [if_neg (fun z => q1 ((hd_mm (by omega)).mp z)), if_neg q1, lk_14_13, e_ai (by omega), e_ai (by omega), hh, hd_q q1, e_ai (by omega), x, y, jmin_nat (by omega) (by omega)]
    rfl
theorem weightOf7 {w : Nat → Nat} {μ : sm_Mem} (hR : RH 14 w μ) (hG : Good w) {u : Nat} (hu : u < w 4) : fnX7_weightOf 14 (nI u) μ = some (nI (uSum w 1 u), μ) := by
  have n := hG.1
  have hh := hand14 hR hu
  have e_23 : ln 23 = 8 := rfl
  have e_21 : ln 21 = 8 := rfl
  have x : μ.1 21 u = nI (w (186 + 7 * u)) := (hR.2.2.2.2 u hu).2.1
  have e1 : 185 + 7 * u + 1 = 186 + 7 * u := by omega
  unfold fnX7_weightOf uSum
  rw [lk_14_16, e_ai (by omega), hh, e1]
  simp only [m_br]
  rcases hand_cases hG hu with q | ⟨q1, q2, q3, q4⟩
  · rw [if_pos ((hd_mm (by omega)).mpr q), if_pos q, lk_14_14, e_ai (by omega), x, Nat.add_zero]
    rfl
  · have y : μ.1 21 (w (190 + 7 * u) - 1) = nI (w (186 + 7 * (w (190 + 7 * u) - 1))) := (hR.2.2.2.2 _ q2).2.1
    rw [if_neg (fun z => q1 ((hd_mm (by omega)).mp z)), if_neg q1, lk_14_14, e_ai (by omega), e_ai (by omega), hh, hd_q q1, e_ai (by omega), x, y, nI_add, show 185 + 7 * (w (190 + 7 * u) - 1) + 1 = 186 + 7 * (w (190 + 7 * u) - 1) by omega]
    rfl
theorem strideOf12 {w : Nat → Nat} {μ : sm_Mem} (hW : WH 147 w μ) (hG : Good w) {u : Nat} (hu : u < w 4) : fnX12_strideOf 146 (nI u) μ = some (nI (uStr w u), μ) := by
  have n := hG.1
  have g := hG.2.2.2.2.2.2.2.1 u hu
  have q0 := of_eq hW (p := u) (k := 0) (by omega) (by omega) (by omega)
  rw [Nat.add_zero] at q0
  unfold fnX12_strideOf uStr
  simp only [m_bnd, second12 hW hG hu, li_0, q0, m_br]
  rcases hand_cases hG hu with q | ⟨q1, q2, q3, q4⟩
  · rw [if_pos ((hd_m1 (by omega)).mpr q), if_pos q]
    rfl
  · have y0 := of_eq hW (p := w (190 + 7 * u) - 1) (k := 0) (by omega) (by omega) (by omega)
    rw [Nat.add_zero] at y0
    have g2 := hG.2.2.2.2.2.2.2.1 _ q2
    rw [if_neg (fun z => q1 ((hd_m1 (by omega)).mp z)), if_neg q1, hd_q' q1, y0]
    simp only
    rw [jmin_nat (by omega) (by omega)]
    rfl
theorem sumOf12 {w : Nat → Nat} {μ : sm_Mem} (hW : WH 147 w μ) (hG : Good w) {u k : Nat} (hu : u < w 4) (hk : k < 5) : fnX12_sumOf 146 (nI u) (nI k) μ = some (nI (uSum w k u), μ) := by
  have n := hG.1
  have q0 := of_eq hW (p := u) (k := k) (by omega) (by omega) (by omega)
  unfold fnX12_sumOf uSum
  simp only [m_bnd, second12 hW hG hu, q0, m_br]
  rcases hand_cases hG hu with q | ⟨q1, q2, q3, q4⟩
  · rw [if_pos ((hd_m1 (by omega)).mpr q), if_pos q]
    exact congrArg (fun z => some (z, μ)) (nI_add _ 0)
  · have y0 := of_eq hW (p := w (190 + 7 * u) - 1) (k := k) (by omega) (by omega) (by omega)
    rw [if_neg (fun z => q1 ((hd_m1 (by omega)).mp z)), if_neg q1, hd_q' q1, y0]
    simp only [nI_add]
    rfl
theorem uStr_rng {w : Nat → Nat} (hG : Good w) {u : Nat} (hu : u < w 4) : 1 ≤ uStr w u ∧ uStr w u ≤ 9 := by
  have g := hG.2.2.2.2.2.2.2.1 u hu
  unfold uStr
  rcases hand_cases hG hu with q | ⟨q1, q2, q3, q4⟩
  · rw [if_pos q]
    omega
  · rw [if_neg q1]
    have g2 := hG.2.2.2.2.2.2.2.1 _ q2
    omega
theorem uWt_rng {w : Nat → Nat} (hG : Good w) {u : Nat} (hu : u < w 4) : 1 ≤ uSum w 1 u ∧ uSum w 1 u ≤ 6 := by
  have g := hG.2.2.2.2.2.2.2.1 u hu
  unfold uSum
  rw [show 185 + 7 * u + 1 = 186 + 7 * u by omega]
  rcases hand_cases hG hu with q | ⟨q1, q2, q3, q4⟩
  · rw [if_pos q]
    omega
  · rw [if_neg q1]
    have g2 := hG.2.2.2.2.2.2.2.1 _ q2
    rw [show 185 + 7 * (w (190 + 7 * u) - 1) + 1 = 186 + 7 * (w (190 + 7 * u) - 1) by omega]
    omega
/-! wearing -/
theorem wear10_L {c wt : Nat} (hc : isSc c) {l : List Nat} {n3 n4 : Nat} (h3 : n3 ≤ 24) (h4 : n4 ≤ 8) (hl : ∀ x, x ∈ l → x < n3) (hlen : l.length ≤ 24) {μ0 : sm_Mem} (h36 : μ0.1 36 1 = nI l.length) (h37 : ∀ i, i < l.length → μ0.1 37 i = nI (l.getD i 0)) :
    ∀ (f i : Nat) (w : Nat → Nat) (μ : sm_Mem), l.length - i < f → i ≤ l.length → w 3 = n3 → w 4 = n4 → SH c w μ → (∀ a, a ≠ c + 1 → μ.1 a = μ0.1 a) → μ.2 = μ0.2 →
    T (fnX10_wear_L2 f 36 c (nI wt) (nI i)) μ (fun _ μ' => SH c (wearW w (l.drop i) wt) μ' ∧ (∀ a, a ≠ c + 1 → μ'.1 a = μ0.1 a) ∧ μ'.2 = μ0.2) := by
  obtain ⟨k0, k2, k3, k4, l1, l2, l3⟩ := sc_lk hc
  have e_37 : ln 37 = 24 := rfl
  have hcc : c + 4 ≤ 36 ∨ 41 ≤ c := by
    unfold isSc at hc
    simp only [List.mem_cons, List.not_mem_nil, or_false] at hc
    omega
  intro f
  induction f with
  | zero =>
    intro i w μ h
    omega
  | succ f ih =>
    intro i w μ hf hi e3 e4 hS ho h2
    have x36 : μ.1 36 1 = nI l.length := by rw [ho 36 (by omega)]; exact h36
    unfold fnX10_wear_L2
    rw [t_gi, x36]
    by_cases c1 : l.length ≤ i
    · have : i = l.length := by omega
      subst this
      rw [t_brT (nI_le c1 (by omega)), t_ret, List.drop_length]
      exact ⟨hS, ho, h2⟩
    · have hm : l.getD i 0 ∈ l := by
        rw [List.getD_eq_getElem?_getD, List.getElem?_eq_getElem (by omega)]
        exact List.getElem_mem _
      have hs := hl _ hm
      have hd : l.drop i = l.getD i 0 :: l.drop (i + 1) := by
        rw [List.drop_eq_getElem_cons (by omega)]
        congr 1
        rw [List.getD_eq_getElem?_getD, List.getElem?_eq_getElem (by omega)]
        rfl
      have x37 : μ.1 37 i = nI (l.getD i 0) := by rw [ho 37 (by omega)]; exact h37 i (by omega)
      have xb := hS.2.1 (l.getD i 0) (by omega)
      rw [t_brF (nI_ge (by omega) (by omega)), lk_36_0, t_ai (by omega), x37, k2, t_ai (by omega), xb, nI_add, t_sai (by omega), nI_1, hd]
      refine ih (i + 1) (up w (16 + 7 * l.getD i 0) (w (16 + 7 * l.getD i 0) + wt)) _ (by omega) (by omega) (by rw [up_ne (by omega)]; exact e3) (by rw [up_ne (by omega)]; exact e4) (sh_up16 (by omega) (by omega) (by omega) hS) ?_ h2
      intro a ha
      rw [← ho a ha]
      simp (disch := omega) only [u2_ne, u2_a, u2_k, u2_at]
theorem wear10_T {c wt : Nat} (hc : isSc c) {w : Nat → Nat} (hG : Good w) {l : List Nat} (hl : ∀ x, x ∈ l → x < w 3) (hlen : l.length ≤ 24) {μ : sm_Mem} (hS : SH c w μ) (h36 : μ.1 36 1 = nI l.length) (h37 : ∀ i, i < l.length → μ.1 37 i = nI (l.getD i 0)) : T (fnX10_wear 36 c (nI wt)) μ (fun _ μ' => SH c (wearW w l wt) μ' ∧ (∀ a, a ≠ c + 1 → μ'.1 a = μ.1 a) ∧ μ'.2 = μ.2) := by
  have n := hG.1
  unfold fnX10_wear
  exact wear10_L hc n.1 n.2.1 hl hlen h36 h37 4096 0 w μ (by omega) (by omega) rfl rfl hS (fun _ _ => rfl) rfl
