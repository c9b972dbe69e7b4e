/-! ===== fresh, count ===== -/
theorem mk_succ (p : Nat → Bool) (n : Nat) : mk p (n + 1) = if p n = true then mk p n ||| ((1 : Int32) <<< (nI n &&& 31)) else mk p n := rfl
/-- all washed -/
def ws (w : Nat → Nat) : Nat → Nat := fun i => if 16 ≤ i ∧ i < 191 ∧ (i - 16) % 7 = 0 then 0 else w i
theorem ws_b (w : Nat → Nat) {s : Nat} (hs : s < 25) : ws w (16 + 7 * s) = 0 := by
  unfold ws
  rw [if_pos (by omega)]
theorem ws_o (w : Nat → Nat) {i : Nat} (h : ∀ s, s < 25 → i ≠ 16 + 7 * s) : ws w i = w i := by
  unfold ws
  rw [if_neg]
  intro q
  exact h ((i - 16) / 7) (by omega) (by omega)
theorem same_ws (w : Nat → Nat) : Same w (ws w) := by
  refine ⟨fun i hi => ws_o w (fun s _ => by omega), fun s k hs hk => ws_o w (fun t _ => by omega), fun p k hp hk => ws_o w (fun t _ => by omega)⟩
theorem good_ws {w : Nat → Nat} (hG : Good w) : Good (ws w) := by
  have n := hG.1
  refine same_good (same_ws w) hG ?_ ?_ ?_ ?_
  · rw [ws_o w (fun s _ => by omega)]
    omega
  · intro s hs
    have g := hG.2.2.2.1 s hs
    rw [ws_b w (by omega), ws_o w (fun s _ => by omega)]
    omega
  · intro s _ hs
    exact ws_b w hs
  · intro p hp
    rw [ws_o w (fun s _ => by omega)]
    exact hG.2.2.2.2.2.2.2.2.2 p hp
theorem wash_L {c : Nat} (hc : isScK c) {w : Nat → Nat} {μ0 : sm_Mem} (hS : SH c w μ0) : ∀ (f j : Nat) (μ : sm_Mem), 24 - j < f → j ≤ 24 → (∀ a, a ≠ c + 1 → μ.1 a = μ0.1 a) → μ.2 = μ0.2 → (∀ s, s < j → μ.1 (c + 1) s = nI 0) → (∀ s, j ≤ s → μ.1 (c + 1) s = μ0.1 (c + 1) s) →
    T (fnX9_wash_L4 f c (nI (fb_sm (fun s => w (16 + 7 * s)) j)) (nI j)) μ (fun r μ' => r = nI (fb_sm (fun s => w (16 + 7 * s)) 24) ∧ (∀ a, a ≠ c + 1 → μ'.1 a = μ0.1 a) ∧ μ'.2 = μ0.2 ∧ ∀ s, s < 24 → μ'.1 (c + 1) s = nI 0) := by
  obtain ⟨k2, k3, k4, l1, l2, l3⟩ := scK_lk hc
  intro f
  induction f with
  | zero =>
    intro j μ h
    omega
  | succ f ih =>
    intro j μ hf hj ho h2 hd hk
    unfold fnX9_wash_L4
    simp (disch := (first | assumption | omega)) only [t_br, li_24, nI_leI, t_ret, k2, t_nm, li_1, li_0, nI_add]
    by_cases q : 24 ≤ j
    · have : j = 24 := by omega
      subst this
      rw [if_pos q]
      exact ⟨rfl, ho, h2, hd⟩
    · rw [if_neg q]
      have x : μ.1 (c + 1) j = nI (w (16 + 7 * j)) := by
        rw [hk j (by omega)]
        exact hS.2.1 j (by omega)
      simp (disch := (first | assumption | omega)) only [t_ai, x, t_nm, nI_add, t_sai]
      refine ih (j + 1) _ (by omega) (by omega) ?_ h2 ?_ ?_
      · intro a ha
        rw [← ho a ha]
        simp (disch := omega) only [u2_ne, u2_a, u2_k, u2_at]
      · intro s hs
        by_cases e : s = j
        · subst e
          simp (disch := omega) only [u2_ne, u2_a, u2_k, u2_at]
        · rw [← hd s (by omega)]
          simp (disch := omega) only [u2_ne, u2_a, u2_k, u2_at]
      · intro s hs
        rw [← hk s (by omega)]
        simp (disch := omega) only [u2_ne, u2_a, u2_k, u2_at]
theorem wash_T {c : Nat} (hc : isScK c) {w : Nat → Nat} {μ : sm_Mem} (hG : Good w) (hS : SH c w μ) : T (fnX9_wash c) μ (fun r μ' => r = nI (fb_sm (fun s => w (16 + 7 * s)) 24) ∧ SH c (ws w) μ' ∧ (∀ a, a ≠ c + 1 → μ'.1 a = μ.1 a) ∧ μ'.2 = μ.2) := by
  have n := hG.1
  unfold fnX9_wash
  refine t_mono (wash_L hc hS 4096 0 μ (by omega) (by omega) (fun _ _ => rfl) rfl (fun s hs => absurd hs (by omega)) (fun _ _ => rfl)) ?_
  rintro r μ' ⟨a1, a2, a3, a4⟩
  obtain ⟨s1, s2, s3, s4⟩ := hS
  have e3 : ws w 3 = w 3 := ws_o w (fun s _ => by omega)
  have e4 : ws w 4 = w 4 := ws_o w (fun s _ => by omega)
  refine ⟨a1, ⟨?_, ?_, ?_, ?_⟩, a2, a3⟩
  · rw [a2 c (by omega), ws_o w (fun s _ => by omega)]
    exact s1
  · intro s hs
    rw [a4 s hs, ws_b w (by omega)]
  · intro s hs
    rw [e3] at hs
    rw [a2 (c + 2) (by omega), ws_o w (fun s _ => by omega)]
    exact s3 s hs
  · intro p hp
    rw [e4] at hp
    rw [a2 (c + 3) (by omega), ws_o w (fun s _ => by omega)]
    exact s4 p hp
theorem borneAll_L {w : Nat → Nat} {μ : sm_Mem} (hW : WH 147 w μ) (hG : Good w) : ∀ f j, w 3 - j < f → j ≤ w 3 → fnX12_borneAll_L4 f 146 (nI (fb_sm (fun s => w (16 + 7 * s)) j)) (nI j) μ = some (nI (fb_sm (fun s => w (16 + 7 * s)) (w 3)), μ) := by
  have n := hG.1
  have e_147 : ln 147 = 241 := rfl
  have w3 := wh_lo hW (i := 3) (by omega)
  intro f
  induction f with
  | zero =>
    intro j h
    omega
  | succ f ih =>
    intro j hf hj
    unfold fnX12_borneAll_L4
    have e6 : 10 + 7 * j + 6 = 16 + 7 * j := by omega
    simp (disch := (first | assumption | omega)) only [lk_146_1, li_3, e_ai, w3, m_br, nI_leI, m_ret, m_bnd, li_6]
    by_cases q : w 3 ≤ j
    · have : j = w 3 := by omega
      rw [if_pos q, this]
    · rw [if_neg q, ofStone_eq hW (by omega) (by omega), e6]
      simp only [e_nm, nI_add, nI_1]
      exact ih (j + 1) (by omega) (by omega)
theorem freshens_L {w : Nat → Nat} {μ0 : sm_Mem} (hW : WH 147 w μ0) (hG : Good w) : ∀ (f j : Nat) (μ : sm_Mem), w 3 - j < f → j ≤ w 3 → (∀ a, a ≠ 147 → μ.1 a = μ0.1 a) → μ.2 = μ0.2 → (∀ s, s < j → μ.1 147 (16 + 7 * s) = nI 0) → (∀ i, (∀ s, s < j → i ≠ 16 + 7 * s) → μ.1 147 i = μ0.1 147 i) →
    T (fnX12_freshens_L2 f 146 (nI j)) μ (fun _ μ' => (∀ a, a ≠ 147 → μ'.1 a = μ0.1 a) ∧ μ'.2 = μ0.2 ∧ WH 147 (ws w) μ') := by
  have n := hG.1
  have e_147 : ln 147 = 241 := rfl
  intro f
  induction f with
  | zero =>
    intro j μ h
    omega
  | succ f ih =>
    intro j μ hf hj ho h2 hd hk
    unfold fnX12_freshens_L2
    have w3 : μ.1 147 3 = nI (w 3) := by
      rw [hk 3 (fun s _ => by omega)]
      exact wh_lo hW (by omega)
    have e6 : 10 + 7 * j + 6 = 16 + 7 * j := by omega
    simp (disch := (first | assumption | omega)) only [lk_146_1, li_3, t_ai, w3, t_br, nI_leI, t_ret, t_bnd, li_6, li_1, nI_add, li_0]
    by_cases q : w 3 ≤ j
    · rw [if_pos q]
      refine ⟨ho, h2, ?_⟩
      intro i hi
      by_cases c : ∃ s, s < 25 ∧ i = 16 + 7 * s
      · obtain ⟨s, hs, rfl⟩ := c
        rw [ws_b w hs]
        unfold eI
        rw [if_neg (by omega)]
        by_cases c2 : s < j
        · exact hd s c2
        · rw [hk _ (fun t ht => by omega)]
          have := wh_lo hW (i := 16 + 7 * s) (by omega)
          rw [this, hG.2.2.2.2.1 s (by omega) hs]
      · have c' : ∀ s, s < 25 → i ≠ 16 + 7 * s := fun s hs e => c ⟨s, hs, e⟩
        rw [ws_o w c', hk i (fun s hs => c' s (by omega))]
        exact hW i hi
    · rw [if_neg q]
      simp (disch := (first | assumption | omega)) only [setStone_T, e6]
      refine ih (j + 1) _ (by omega) (by omega) ?_ h2 ?_ ?_
      · intro a ha
        rw [← ho a ha]
        simp (disch := omega) only [u2_ne, u2_a, u2_k, u2_at]
      · intro s hs
        by_cases e : s = j
        · subst e
          simp (disch := omega) only [u2_ne, u2_a, u2_k, u2_at]
        · rw [← hd s (by omega)]
          simp (disch := omega) only [u2_ne, u2_a, u2_k, u2_at]
      · intro i hi
        rw [← hk i (fun s hs => hi s (by omega))]
        have := hi j (by omega)
        simp (disch := omega) only [u2_ne, u2_a, u2_k, u2_at]
theorem freshens_T {w : Nat → Nat} {μ : sm_Mem} (hW : WH 147 w μ) (hG : Good w) : T (fnX12_freshens 146) μ (fun _ μ' => (∀ a, a ≠ 147 → μ'.1 a = μ.1 a) ∧ μ'.2 = μ.2 ∧ WH 147 (ws w) μ') := by
  have n := hG.1
  unfold fnX12_freshens
  exact freshens_L hW hG 4096 0 μ (by omega) (by omega) (fun _ _ => rfl) rfl (fun s hs => absurd hs (by omega)) (fun _ _ => rfl)
theorem sm_tail {f : Nat → Nat} {n m : Nat} (h : n ≤ m) (hz : ∀ k, n ≤ k → k < m → f k = 0) : fb_sm f m = fb_sm f n := by
  obtain ⟨d, rfl⟩ : ∃ d, m = n + d := ⟨m - n, by omega⟩
  rw [fb_sm_split]
  have : fb_sm (fun k => f (n + k)) d = 0 := by
    rw [← sm_0 d]
    exact fb_sm_cong (fun k hk => hz _ (by omega) (by omega))
  omega
theorem op_fresh : op2 Inv (fnX11_fresh 0) (fnX12_fresh 146) := by
  apply op_two
  intro w μ hC hO
  obtain ⟨hG, hR, hS, hW, hL, hT, hSl, hI, hF⟩ := id hC
  have n := hG.1
  refine ⟨nI (fb_sm (fun s => w (16 + 7 * s)) 24), ws w, same_ws w, good_ws hG, ?_, ?_⟩
  · unfold fnX11_fresh
    simp only [t_bnd, lk_0_11, lk_0_6, forget_T]
    have hS1 : SH 24 w (u2 μ.1 42 8 (mI 1), μ.2) := sh_fr (μ := μ) (fun a h1 h2 => (by simp (disch := omega) only [u2_ne, u2_a, u2_k, u2_at])) hS
    refine t_mono (wash_T (scK_of sc_24) hG hS1) ?_
    rintro r μ1 ⟨a1, a2, a3, a4⟩
    rw [t_ret]
    refine ⟨a1, a2, ?_, by rw [a4], Or.inl ?_⟩
    · intro a ha
      rw [a3 a (by omega)]
      simp (disch := omega) only [u2_ne, u2_a, u2_k, u2_at]
    · rw [a3 42 (by omega)]
      simp (disch := omega) only [u2_ne, u2_a, u2_k, u2_at]
  · intro μ1 _ _ hW1
    unfold fnX12_fresh fnX12_borneAll
    have hb := borneAll_L hW1 hG 4096 0 (by omega) (by omega)
    rw [t_bnd, t_eq (show fnX12_borneAll_L4 4096 146 (0 : Int32) (0 : Int32) μ1 = _ from hb), t_bnd]
    refine t_mono (freshens_T hW1 hG) ?_
    rintro - μ2 ⟨a1, a2, a3⟩
    rw [t_ret]
    refine ⟨?_, a3, fun a ha => a1 a (by omega), fun k hk => by rw [a1 146 (by omega)], fun a ha => by rw [a2]⟩
    rw [sm_tail n.1 (fun k h1 h2 => hG.2.2.2.2.1 k h1 (by omega))]
theorem peopleAt_L {c b : Nat} {w : Nat → Nat} {μ : sm_Mem} (hc : isSc c) (hR : RH 14 w μ) (hS : SH c w μ) (hG : Good w) (hb : b < 100) : ∀ f p, w 4 - p < f → p ≤ w 4 → fnX9_peopleAt_L4 f c (nI b) (mk (fun p => decide (w (191 + 7 * p) = b)) p) (nI p) μ = some (mk (fun p => decide (w (191 + 7 * p) = b)) (w 4), μ) := by
  obtain ⟨k0, k2, k3, k4, l1, l2, l3⟩ := sc_lk hc
  have n := hG.1
  have r5 := hR.1.2.2.2.2.2
  intro f
  induction f with
  | zero =>
    intro p h
    omega
  | succ f ih =>
    intro p hf hp
    unfold fnX9_peopleAt_L4 fnX9_peopleAt_J31
    simp (disch := (first | assumption | omega)) only [m_gi, k0, r5, m_br, nI_leI, m_ret, k4, nI_1]
    by_cases q : w 4 ≤ p
    · have : p = w 4 := by omega
      rw [if_pos q, this]
    · have x := hS.2.2.2 p (by omega)
      have g := hG.2.2.2.2.2.2.2.2.2 p (by omega)
      rw [if_neg q]
      simp (disch := (first | assumption | omega)) only [e_ai, x, m_br, nI_eq, e_nm]
      have hh := ih (p + 1) (by omega) (by omega)
      rw [mk_succ] at hh
      by_cases c1 : w (191 + 7 * p) = b
      · rw [if_pos c1]
        rw [if_pos (decide_eq_true c1)] at hh
        exact hh
      · rw [if_neg c1]
        rw [if_neg (by simpa using c1)] at hh
        exact hh
theorem peopleAt_eq {c b : Nat} {w : Nat → Nat} {μ : sm_Mem} (hc : isSc c) (hR : RH 14 w μ) (hS : SH c w μ) (hG : Good w) (hb : b < 100) : fnX9_peopleAt c (nI b) μ = some (mk (fun p => decide (w (191 + 7 * p) = b)) (w 4), μ) := by
  have n := hG.1
  unfold fnX9_peopleAt
  exact peopleAt_L hc hR hS hG hb 4096 0 (by omega) (by omega)
theorem at12_L {b : Nat} {w : Nat → Nat} {μ : sm_Mem} (hW : WH 147 w μ) (hG : Good w) (hb : b < 100) : ∀ f p, w 4 - p < f → p ≤ w 4 → fnX12_at_L4 f 146 (nI b) (nI (fb_ct (fun p => decide (w (191 + 7 * p) = b)) p)) (nI p) μ = some (nI (fb_ct (fun p => decide (w (191 + 7 * p) = b)) (w 4)), μ) := by
  have n := hG.1
  have e_147 : ln 147 = 241 := rfl
  have w4 := wh_lo hW (i := 4) (by omega)
  intro f
  induction f with
  | zero =>
    intro p h
    omega
  | succ f ih =>
    intro p hf hp
    unfold fnX12_at_L4 fnX12_at_J31
    have e6 : 185 + 7 * p + 6 = 191 + 7 * p := by omega
    simp (disch := (first | assumption | omega)) only [lk_146_1, li_4, e_ai, w4, m_br, nI_leI, m_ret, m_bnd, li_6]
    by_cases q : w 4 ≤ p
    · have : p = w 4 := by omega
      rw [if_pos q, this]
    · have g := hG.2.2.2.2.2.2.2.2.2 p (by omega)
      rw [if_neg q, of_eq hW (by omega) (by omega) (by omega), e6]
      have hh := ih (p + 1) (by omega) (by omega)
      rw [fb_ct_succ, ← nI_add, ← nI_1] at hh
      by_cases c1 : w (191 + 7 * p) = b
      · simp (disch := (first | assumption | omega)) only [m_br, nI_eq, if_pos c1, e_nm]
        rw [if_pos (decide_eq_true c1)] at hh
        exact hh
      · simp (disch := (first | assumption | omega)) only [m_br, nI_eq, if_neg c1, e_nm]
        rw [if_neg (by simpa using c1)] at hh
        exact hh
theorem inDoubts_L {w : Nat → Nat} {μ : sm_Mem} (hR : RH 14 w μ) (hS : SH 24 w μ) (hG : Good w) : ∀ f s, w 3 - s < f → s ≤ w 3 → fnX9_stonesInDoubt_L4 f 24 (mk (dbt w) s) (nI s) μ = some (mk (dbt w) (w 3), μ) := by
  have n := hG.1
  have r4 := hR.1.2.2.2.2.1
  intro f
  induction f with
  | zero =>
    intro p h
    omega
  | succ f ih =>
    intro s hf hs
    unfold fnX9_stonesInDoubt_L4 fnX9_stonesInDoubt_J29
    simp (disch := (first | assumption | omega)) only [m_gi, lk_24_0, r4, m_br, nI_leI, m_ret, m_bnd]
    by_cases q : w 3 ≤ s
    · have : s = w 3 := by omega
      rw [if_pos q, this]
    · rw [if_neg q, inDoubt_eq hR hS sc_24 hG (by omega)]
      have hh := ih (s + 1) (by omega) (by omega)
      rw [mk_succ] at hh
      simp only [m_br, bI_0, e_nm, nI_1]
      cases hd : dbt w s
      · rw [hd, if_neg (by decide)] at hh
        rw [if_pos rfl]
        exact hh
      · rw [hd, if_pos rfl] at hh
        rw [if_neg (by decide)]
        exact hh
theorem count128_L {w : Nat → Nat} {μ : sm_Mem} (hW : WH 147 w μ) (hG : Good w) : ∀ f s, w 3 - s < f → s ≤ w 3 → fnX12_count_L128 f 146 (mk (dbt w) s) (nI s) μ = some (mk (dbt w) (w 3), μ) := by
  have n := hG.1
  have e_147 : ln 147 = 241 := rfl
  have w3 := wh_lo hW (i := 3) (by omega)
  intro f
  induction f with
  | zero =>
    intro p h
    omega
  | succ f ih =>
    intro s hf hs
    unfold fnX12_count_L128 fnX12_count_J154
    simp (disch := (first | assumption | omega)) only [lk_146_1, li_3, e_ai, w3, m_br, nI_leI, m_ret, m_bnd]
    by_cases q : w 3 ≤ s
    · have : s = w 3 := by omega
      rw [if_pos q, this]
    · rw [if_neg q, isInDoubt12 hW hG (by omega)]
      have hh := ih (s + 1) (by omega) (by omega)
      rw [mk_succ] at hh
      simp only [m_br, bI_0, e_nm, nI_1]
      cases hd : dbt w s
      · rw [hd, if_neg (by decide)] at hh
        rw [if_pos rfl, show mk (dbt w) s ||| (0 : Int32) = mk (dbt w) s from Int32.or_zero]
        exact hh
      · rw [hd, if_pos rfl] at hh
        rw [if_neg (by decide)]
        exact hh
theorem rowsThere_L {μ : sm_Mem} (hSl : SL μ) : ∀ f j, 4 - j < f → j ≤ 4 → fnX11_rowsThere_L4 f 0 (nI (fb_ct (fun j => decide (¬ μ.1 (96 + 2 * j) 0 = 0)) j)) (nI j) μ = some (nI (fb_ct (fun j => decide (¬ μ.1 (96 + 2 * j) 0 = 0)) 4), μ) ∧ fnX12_count_L174 f 146 (nI (fb_ct (fun j => decide (¬ μ.1 (96 + 2 * j) 0 = 0)) j)) (nI j) μ = some (nI (fb_ct (fun j => decide (¬ μ.1 (96 + 2 * j) 0 = 0)) 4), μ) := by
  have e_92 : ln 92 = 4 := rfl
  have e_168 : ln 168 = 4 := rfl
  intro f
  induction f with
  | zero =>
    intro p h
    omega
  | succ f ih =>
    intro j hf hj
    unfold fnX11_rowsThere_L4 fnX11_rowsThere_J27 fnX12_count_L174 fnX12_count_J195
    simp (disch := (first | assumption | omega)) only [m_br, li_4, nI_leI, m_ret, lk_0_14, lk_146_43]
    by_cases q : 4 ≤ j
    · have : j = 4 := by omega
      rw [if_pos q, if_pos q, this]
      exact ⟨rfl, rfl⟩
    · obtain ⟨s1, -, -⟩ := slot_ap (j := j) (by omega)
      have hh := ih (j + 1) (by omega) (by omega)
      rw [fb_ct_succ, ← nI_add, ← nI_1] at hh
      rw [if_neg q, if_neg q]
      simp (disch := (first | assumption | omega)) only [e_ap, s1, m_gi, e_ai, m_br, e_nm]
      rcases hSl j (by omega) with ⟨q1, q2⟩ | ⟨N, wd, q1, q2, q3, q4, q5, q6, q7, q8⟩
      · rw [if_pos q1, if_pos (show μ.1 168 j = -1 from q2)]
        rw [if_neg (by simp [q1])] at hh
        exact hh
      · have : ¬ μ.1 (96 + 2 * j) 0 = 0 := by rw [q3]; exact ok_m1
        rw [if_neg this, q7, if_neg (n_m1 (n := N) (by omega))]
        rw [if_pos (by simp [this])] at hh
        exact hh
theorem op_count (k : Int32) : op2 Inv (fnX11_count 0 k) (fnX12_count 146 k) := by
  apply op_ro
  rintro w μ ⟨hG, hR, hS, hW, hL, hT, hSl, hI, hF⟩
  have n := hG.1
  have e_147 : ln 147 = 241 := rfl
  obtain ⟨⟨tn, ht, t1, t2, t3⟩, t4, t5⟩ := hT
  obtain ⟨r0, r1, r2, r3, r4, r5⟩ := hR.1
  have a7 := peopleAt_eq (b := 98) sc_24 hR hS hG (by omega)
  have a8 := peopleAt_eq (b := 99) sc_24 hR hS hG (by omega)
  have b7 : fnX12_at 146 (nI 98) μ = _ := at12_L (b := 98) hW hG (by omega) 4096 0 (by omega) (by omega)
  have b8 : fnX12_at 146 (nI 99) μ = _ := at12_L (b := 99) hW hG (by omega) 4096 0 (by omega) (by omega)
  have a9 : fnX9_stonesInDoubt 24 μ = _ := inDoubts_L hR hS hG 4096 0 (by omega) (by omega)
  have b9 : fnX12_count_L128 4096 146 (0 : Int32) (0 : Int32) μ = _ := count128_L hW hG 4096 0 (by omega) (by omega)
  obtain ⟨a11, b11⟩ := rowsThere_L hSl 4096 0 (by omega) (by omega)
  have a11 : fnX11_rowsThere 0 μ = _ := a11
  have b11 : fnX12_count_L174 4096 146 (0 : Int32) (0 : Int32) μ = _ := b11
  have x0 := wh_lo hW (i := 0) (by omega)
  have x1 := wh_lo hW (i := 1) (by omega)
  have x2 := wh_lo hW (i := 2) (by omega)
  have x3 := wh_lo hW (i := 3) (by omega)
  have x4 := wh_lo hW (i := 4) (by omega)
  have x6 := wh_lo hW (i := 6) (by omega)
  have x7 := wh_lo hW (i := 7) (by omega)
  have y : ∀ i, i < 185 → ∀ g : Int32 → sm_M Int32, m_ai 147 (nI i) g μ = g (μ.1 147 i) μ := fun i hi g => e_ai (by omega)
  have s7 := hS.1
  unfold fnX11_count fnX12_count
  simp only [m_br, m_gi, m_bnd, m_ret, lk_0_5, lk_0_6, lk_146_1, r0, r1, r2, r3, r4, r5, s7, t1, t2]
  by_cases c0 : k = 0
  · rw [if_pos c0, if_pos c0]
    exact ⟨_, rfl, by rw [li_1, y 1 (by omega), x1]; rfl⟩
  rw [if_neg c0, if_neg c0]
  by_cases c1 : k = 1
  · rw [if_pos c1, if_pos c1]
    exact ⟨_, rfl, by rw [li_2, y 2 (by omega), x2]; rfl⟩
  rw [if_neg c1, if_neg c1]
  by_cases c2 : k = 2
  · rw [if_pos c2, if_pos c2]
    exact ⟨_, rfl, by rw [li_3, y 3 (by omega), x3]; rfl⟩
  rw [if_neg c2, if_neg c2]
  by_cases c3 : k = 3
  · rw [if_pos c3, if_pos c3]
    exact ⟨_, rfl, by rw [li_4, y 4 (by omega), x4]; rfl⟩
  rw [if_neg c3, if_neg c3]
  by_cases c4 : k = 4
  · rw [if_pos c4, if_pos c4]
    exact ⟨_, rfl, by rw [li_7, y 7 (by omega), x7]; rfl⟩
  rw [if_neg c4, if_neg c4]
  by_cases c5 : k = 5
  · rw [if_pos c5, if_pos c5]
    exact ⟨_, rfl, by rw [li_0, y 0 (by omega), x0]; rfl⟩
  rw [if_neg c5, if_neg c5]
  by_cases c6 : k = 6
  · rw [if_pos c6, if_pos c6]
    exact ⟨_, rfl, rfl⟩
  rw [if_neg c6, if_neg c6]
  by_cases c7 : k = 7
  · rw [if_pos c7, if_pos c7, li_98, a7, b7]
    simp only
    rw [bitCount_mk (by omega)]
    exact ⟨_, rfl, rfl⟩
  rw [if_neg c7, if_neg c7]
  by_cases c8 : k = 8
  · rw [if_pos c8, if_pos c8, li_99, a8, b8]
    simp only
    rw [bitCount_mk (by omega)]
    exact ⟨_, rfl, rfl⟩
  rw [if_neg c8, if_neg c8]
  by_cases c9 : k = 9
  · rw [if_pos c9, if_pos c9, a9, b9]
    exact ⟨_, rfl, rfl⟩
  rw [if_neg c9, if_neg c9]
  by_cases c10 : k = 10
  · rw [if_pos c10, if_pos c10]
    exact ⟨_, rfl, by rw [li_6, y 6 (by omega), x6]; rfl⟩
  rw [if_neg c10, if_neg c10]
  by_cases c11 : k = 11
  · rw [if_pos c11, if_pos c11, a11, b11]
    exact ⟨_, rfl, rfl⟩
  rw [if_neg c11, if_neg c11]
  exact ⟨_, rfl, rfl⟩
