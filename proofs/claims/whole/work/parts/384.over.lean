/-! ===== THE REFERENCE: all go over in order ===== -/
theorem wh_146 {w : Nat → Nat} {μ : sm_Mem} {k : Nat} {x : Int32} (H : WH 147 w μ) : WH 147 w (u2 μ.1 146 k x, μ.2) := wh_fr (μ := μ) (fun i _ => (by simp (disch := omega) only [u2_ne, u2_a, u2_k, u2_at])) H
theorem units12 {w : Nat → Nat} {μ : sm_Mem} (hW : WH 147 w μ) : fnX12_units 146 μ = some (nI (w 4), μ) := by
  have w4 := wh_lo hW (i := 4) (by omega)
  have e_147 : ln 147 = 241 := rfl
  unfold fnX12_units
  simp (disch := (first | assumption | omega)) only [li_4, lk_146_1, e_ai, w4, m_ret]
/-- one more unit has gone, or not -/
def GovP (w : Nat → Nat) (u way : Nat) (μ μ' : sm_Mem) : Prop := (match goW w u way 98 with
    | none => WH 147 w μ' ∧ ∀ k, k ≠ 19 → μ'.1 146 k = μ.1 146 k
    | some z => WH 147 z.1 μ' ∧ Same w z.1 ∧ Good z.1 ∧ lead w u = true ∧ μ'.1 146 22 = μ.1 146 22 + nI (if w (190 + 7 * u) = 0 then 1 else 2) ∧ μ'.1 146 23 = μ.1 146 23 + nI (uSum w 2 u) ∧ (∃ m, μ'.1 146 24 = (μ.1 146 24 ||| m) ∧ ∀ p, p < 32 → bt m p = decide (p = u ∨ (w (190 + 7 * u) ≠ 0 ∧ p = w (190 + 7 * u) - 1))) ∧ μ'.1 146 25 = μ.1 146 25 + nI (if 0 < uSum w 3 u then 1 else 0)) ∧ (∀ k, k ≠ 19 → (k < 22 ∨ 26 ≤ k) → μ'.1 146 k = μ.1 146 k) ∧ (∀ a, a ≠ 146 → a ≠ 147 → (a < 153 ∨ 157 ≤ a) → μ'.1 a = μ.1 a) ∧ μ'.2 = μ.2
theorem uSum3_le {w : Nat → Nat} (hG : Good w) {u k : Nat} (hu : u < w 4) (hk : k < 5) : uSum w k u ≤ 198 := by
  have g := hG.2.2.2.2.2.2.2.1 u hu
  have ub : ∀ p, p < w 4 → w (185 + 7 * p + k) ≤ 99 := by
    intro p hp
    have g := hG.2.2.2.2.2.2.2.1 p hp
    have : k = 0 ∨ k = 1 ∨ k = 2 ∨ k = 3 ∨ k = 4 := by omega
    rcases this with rfl | rfl | rfl | rfl | rfl
    · rw [Nat.add_zero]; omega
    · rw [show 185 + 7 * p + 1 = 186 + 7 * p by omega]; omega
    · rw [show 185 + 7 * p + 2 = 187 + 7 * p by omega]; omega
    · rw [show 185 + 7 * p + 3 = 188 + 7 * p by omega]; omega
    · rw [show 185 + 7 * p + 4 = 189 + 7 * p by omega]; omega
  unfold uSum
  have := ub u hu
  rcases hand_cases hG hu with q | ⟨q1, q2, q3, q4⟩
  · rw [if_pos q]
    omega
  · rw [if_neg q1]
    have := ub _ q2
    omega
theorem goesOver_T {w : Nat → Nat} {μ : sm_Mem} (hW : WH 147 w μ) (hG : Good w) {u way : Nat} (hu : u < w 4) (hw : way < 4) : T (fnX12_goesOver 146 (nI u) (nI way)) μ (fun _ μ' => GovP w u way μ μ') := by
  have n := hG.1
  unfold fnX12_goesOver
  rw [li_98, t_bnd]
  refine t_mono (goes_T hW hG hu hw (Or.inl rfl)) ?_
  rintro x μ1 ⟨a1, a2, a3, a4⟩
  unfold GovP
  cases hgo : goW w u way 98 with
  | none =>
    rw [hgo] at a1
    obtain ⟨rfl, b1⟩ := a1
    rw [t_brT (by decide), t_ret]
    exact ⟨⟨b1, a2⟩, fun k h1 _ => a2 k h1, a3, a4⟩
  | some z =>
    rw [hgo] at a1
    obtain ⟨rfl, b1, b2, b3, b4⟩ := a1
    have hu1 : u < z.1 4 := by rw [b3.1 4 (by omega)]; exact hu
    have e5 := b3.2.2 u 5 (by omega) (by omega)
    rw [show 185 + 7 * u + 5 = 190 + 7 * u by omega] at e5
    have s2 := same_sum b3 hG hu (k := 2) (by omega)
    have s3 := same_sum b3 hG hu (k := 3) (by omega)
    have g3 := uSum3_le hG hu (k := 3) (by omega)
    obtain ⟨hl, -⟩ := go_lead hgo
    rw [t_brF (by decide), t_gi, t_bnd, t_eq (manyOf12 b1 b4 hu1), t_si, t_gi, li_2, t_bnd, t_eq (sumOf12 (wh_146 b1) b4 hu1 (by omega)), t_si, t_gi, t_bnd]
    obtain ⟨m, m1, m2⟩ := bitsOf12 (wh_146 (k := 23) (x := (u2 μ1.1 146 22 (μ1.1 146 22 + nI (if z.1 (190 + 7 * u) = 0 then 1 else 2)), μ1.2).1 146 23 + nI (uSum z.1 2 u)) (wh_146 (k := 22) (x := μ1.1 146 22 + nI (if z.1 (190 + 7 * u) = 0 then 1 else 2)) b1)) b4 hu1
    rw [t_eq m1, t_si, t_gi, li_3, t_bnd, t_eq (sumOf12 (wh_146 (wh_146 (wh_146 b1))) b4 hu1 (by omega))]
    by_cases c : uSum w 3 u = 0
    · rw [t_brT (show nI (uSum z.1 3 u) ≤ 0 from nI_le (b := 0) (by omega) (by omega)), t_si, t_ret]
      refine ⟨⟨wh_fr (μ := μ1) (fun i _ => (by simp (disch := omega) only [u2_ne, u2_a, u2_k, u2_at])) b1, b3, b4, hl, ?_, ?_, ⟨m, ?_, ?_⟩, ?_⟩, ?_, ?_, a4⟩
      · rw [← a2 22 (by omega), ← e5]
        simp (disch := omega) only [u2_ne, u2_a, u2_k, u2_at]
      · rw [← a2 23 (by omega), ← s2]
        simp (disch := omega) only [u2_ne, u2_a, u2_k, u2_at]
      · rw [← a2 24 (by omega)]
        simp (disch := omega) only [u2_ne, u2_a, u2_k, u2_at]
      · intro p hp
        rw [m2 p hp, e5]
      · rw [← a2 25 (by omega), if_neg (show ¬ 0 < uSum w 3 u by omega)]
        simp (disch := omega) only [u2_ne, u2_a, u2_k, u2_at]
        rfl
      · intro k h1 h2
        rw [← a2 k h1]
        simp (disch := omega) only [u2_ne, u2_a, u2_k, u2_at]
      · intro a h1 h2 h3
        rw [← a3 a h1 h2 h3]
        simp (disch := omega) only [u2_ne, u2_a, u2_k, u2_at]
    · rw [t_brF (show ¬ nI (uSum z.1 3 u) ≤ 0 from nI_ge (a := 0) (by omega) (by omega)), t_si, t_ret]
      refine ⟨⟨wh_fr (μ := μ1) (fun i _ => (by simp (disch := omega) only [u2_ne, u2_a, u2_k, u2_at])) b1, b3, b4, hl, ?_, ?_, ⟨m, ?_, ?_⟩, ?_⟩, ?_, ?_, a4⟩
      · rw [← a2 22 (by omega), ← e5]
        simp (disch := omega) only [u2_ne, u2_a, u2_k, u2_at]
      · rw [← a2 23 (by omega), ← s2]
        simp (disch := omega) only [u2_ne, u2_a, u2_k, u2_at]
      · rw [← a2 24 (by omega)]
        simp (disch := omega) only [u2_ne, u2_a, u2_k, u2_at]
      · intro p hp
        rw [m2 p hp, e5]
      · rw [← a2 25 (by omega), if_pos (show 0 < uSum w 3 u by omega)]
        simp (disch := omega) only [u2_ne, u2_a, u2_k, u2_at]
        rfl
      · intro k h1 h2
        rw [← a2 k h1]
        simp (disch := omega) only [u2_ne, u2_a, u2_k, u2_at]
      · intro a h1 h2 h3
        rw [← a3 a h1 h2 h3]
        simp (disch := omega) only [u2_ne, u2_a, u2_k, u2_at]
/-- sums over the people of the units that have gone -/
noncomputable def pSum (w : Nat → Nat) (G : Nat → Bool) (v : Nat → Nat) : Nat := fb_sm (fun p => if ppl w G p = true then v p else 0) (w 4)
theorem pSum_ct {w : Nat → Nat} {G : Nat → Bool} : pSum w G (fun _ => 1) = fb_ct (ppl w G) (w 4) := by
  unfold pSum
  have : ∀ n, fb_sm (fun p => if ppl w G p = true then 1 else 0) n = fb_ct (ppl w G) n := by
    intro n
    induction n with
    | zero => rfl
    | succ n ih => rw [fb_sm_succ, fb_ct_succ, ih]
  exact this _
theorem pSum_le {w : Nat → Nat} (hG : Good w) {G : Nat → Bool} {v : Nat → Nat} (hv : ∀ p, p < w 4 → v p ≤ 99) : pSum w G v ≤ 8 * 99 := by
  have n := hG.1
  have h : pSum w G v ≤ w 4 * 99 := by
    apply fb_sm_bound
    intro k hk
    split
    · exact hv k hk
    · omega
  have : w 4 * 99 ≤ 8 * 99 := Nat.mul_le_mul_right _ n.2.1
  omega
def OvP (w : Nat → Nat) (way u : Nat) (μ0 μ : sm_Mem) : Prop := WH 147 (ovr w way u).1 μ ∧ Same w (ovr w way u).1 ∧ Good (ovr w way u).1 ∧ μ.1 146 22 = nI (pSum w (ovr w way u).2 (fun _ => 1)) ∧ μ.1 146 23 = nI (pSum w (ovr w way u).2 (fun p => w (187 + 7 * p))) ∧ (∀ p, p < 32 → bt (μ.1 146 24) p = ppl w (ovr w way u).2 p) ∧ (∀ k, (ovr w way u).2 k = true → k < u) ∧ (∀ k, k ≠ 19 → (k < 22 ∨ 26 ≤ k) → μ.1 146 k = μ0.1 146 k) ∧ (∀ a, a ≠ 146 → a ≠ 147 → (a < 153 ∨ 157 ≤ a) → μ.1 a = μ0.1 a) ∧ μ.2 = μ0.2
theorem allGo_L {w : Nat → Nat} (hG : Good w) {way : Nat} (hw : way < 4) {μ0 : sm_Mem} : ∀ (f u : Nat) (μ : sm_Mem), w 4 - u < f → u ≤ w 4 → OvP w way u μ0 μ → T (fnX12_allGoOver_L6 f 146 (nI way) (nI u)) μ (fun _ μ' => OvP w way (w 4) μ0 μ') := by
  have n := hG.1
  intro f
  induction f with
  | zero =>
    intro u μ h
    omega
  | succ f ih =>
    intro u μ hf hu hP
    obtain ⟨p1, p2, p3, p4, p5, p6, p7, p8, p9, p10⟩ := id hP
    have w4 := p2.1 4 (by omega)
    unfold fnX12_allGoOver_L6
    rw [t_bnd, t_eq (units12 p1), w4]
    by_cases c1 : w 4 ≤ u
    · have : u = w 4 := by omega
      subst this
      rw [t_brT (nI_le c1 (by omega)), t_ret]
      exact hP
    have hu' : u < (ovr w way u).1 4 := by omega
    rw [t_brF (nI_ge (by omega) (by omega)), t_bnd]
    refine t_mono (goesOver_T p1 p3 hu' hw) ?_
    rintro - μ1 ⟨a1, a2, a3, a4⟩
    rw [nI_1]
    refine ih (u + 1) μ1 (by omega) (by omega) ?_
    have e5 := p2.2.2 u 5 (by omega) (by omega)
    rw [show 185 + 7 * u + 5 = 190 + 7 * u by omega] at e5
    have s2 := same_sum p2 hG (show u < w 4 by omega) (k := 2) (by omega)
    cases hgo : goW (ovr w way u).1 u way 98 with
    | none =>
      rw [hgo] at a1
      have e1 : ovr w way (u + 1) = ovr w way u := by
        show (match goW (ovr w way u).1 u way 98 with | none => ovr w way u | some x => (x.1, fun k => (ovr w way u).2 k || decide (k = u))) = _
        rw [hgo]
      unfold OvP
      rw [e1]
      exact ⟨a1.1, p2, p3, (a1.2 22 (by omega)).trans p4, (a1.2 23 (by omega)).trans p5, fun p hp => by rw [a1.2 24 (by omega)]; exact p6 p hp, fun k hk => by have := p7 k hk; omega, fun k h1 h2 => (a2 k h1 h2).trans (p8 k h1 h2), fun a h1 h2 h3 => (a3 a h1 h2 h3).trans (p9 a h1 h2 h3), a4.trans p10⟩
    | some z =>
      rw [hgo] at a1
      obtain ⟨b1, b2, b3, b4, b5, b6, ⟨m, b7, b8⟩, -⟩ := a1
      have e1 : ovr w way (u + 1) = (z.1, fun k => (ovr w way u).2 k || decide (k = u)) := by
        show (match goW (ovr w way u).1 u way 98 with | none => ovr w way u | some x => (x.1, fun k => (ovr w way u).2 k || decide (k = u))) = _
        rw [hgo]
      have hlw : lead w u = true := by
        rw [← same_lead p2 (show u < 8 by omega)]
        exact b4
      have sa := fun v => sum_add hG (show u < w 4 by omega) hlw p7 v
      unfold OvP
      rw [e1]
      refine ⟨b1, same_tr p2 b2, b3, ?_, ?_, ?_, ?_, fun k h1 h2 => (a2 k h1 h2).trans (p8 k h1 h2), fun a h1 h2 h3 => (a3 a h1 h2 h3).trans (p9 a h1 h2 h3), a4.trans p10⟩
      · rw [b5, p4, nI_add]
        congr 1
        unfold pSum
        rw [sa (fun _ => 1), e5]
        rcases hand_cases hG (show u < w 4 by omega) with q | ⟨q, -⟩
        · rw [if_pos q, if_pos q]
        · rw [if_neg q, if_neg q]
      · rw [b6, p5, nI_add, s2]
        congr 1
        unfold pSum
        rw [sa (fun p => w (187 + 7 * p))]
        unfold uSum
        rw [show 185 + 7 * u + 2 = 187 + 7 * u by omega, show 185 + 7 * (w (190 + 7 * u) - 1) + 2 = 187 + 7 * (w (190 + 7 * u) - 1) by omega]
      · intro p hp
        rw [b7, b_or, p6 p hp, b8 p hp, ppl_add hG (show u < w 4 by omega) hlw hp, e5]
        congr 1
        apply decide_eq_decide.mpr
        rcases hand_cases hG (show u < w 4 by omega) with q | ⟨q1, q2, q3, q4⟩
        · omega
        · omega
      · intro k hk
        simp only [Bool.or_eq_true, decide_eq_true_eq] at hk
        rcases hk with hk | hk
        · have := p7 k hk
          omega
        · omega
theorem allGo_T {w : Nat → Nat} (hG : Good w) {way : Nat} (hw : way < 4) {μ : sm_Mem} (hW : WH 147 w μ) : T (fnX12_allGoOver 146 (nI way)) μ (fun _ μ' => OvP w way (w 4) μ μ') := by
  have n := hG.1
  unfold fnX12_allGoOver fnX12_clearsOver
  rw [t_bnd, t_si, t_si, t_si, t_si, t_ret]
  have z : ∀ v, pSum w (fun _ => false) v = 0 := by
    intro v
    unfold pSum
    rw [← sm_0 (w 4)]
    apply fb_sm_cong
    intro k _
    unfold ppl
    rw [Bool.and_false, sm_0]
    rfl
  refine t_mono (allGo_L hG hw (μ0 := (u2 (u2 (u2 (u2 μ.1 146 22 0) 146 23 0) 146 24 0) 146 25 0, μ.2)) 4096 0 _ (by omega) (by omega) ⟨wh_fr (μ := μ) (fun i _ => (by simp (disch := omega) only [u2_ne, u2_a, u2_k, u2_at])) hW, same_rf w, hG, ?_, ?_, ?_, ?_, fun _ _ _ => rfl, fun _ _ _ _ => rfl, rfl⟩) ?_
  · show _ = nI (pSum w (fun _ => false) (fun _ => 1))
    rw [z]
    show u2 (u2 (u2 (u2 μ.1 146 22 0) 146 23 0) 146 24 0) 146 25 0 146 22 = nI 0
    simp (disch := omega) only [u2_ne, u2_a, u2_k, u2_at]
    rfl
  · show _ = nI (pSum w (fun _ => false) _)
    rw [z]
    show u2 (u2 (u2 (u2 μ.1 146 22 0) 146 23 0) 146 24 0) 146 25 0 146 23 = nI 0
    simp (disch := omega) only [u2_ne, u2_a, u2_k, u2_at]
    rfl
  · intro p hp
    show bt (u2 (u2 (u2 (u2 μ.1 146 22 0) 146 23 0) 146 24 0) 146 25 0 146 24) p = ppl w (fun _ => false) p
    rw [show u2 (u2 (u2 (u2 μ.1 146 22 0) 146 23 0) 146 24 0) 146 25 0 146 24 = (0 : Int32) from (by simp (disch := omega) only [u2_ne, u2_a, u2_k, u2_at]), b_0]
    unfold ppl
    rw [Bool.and_false]
  · intro k hk
    have hk : false = true := hk
    cases hk
  · rintro - μ' ⟨p1, p2, p3, p4, p5, p6, p7, p8, p9, p10⟩
    refine ⟨p1, p2, p3, p4, p5, p6, p7, ?_, ?_, p10⟩
    · intro k h1 h2
      rw [p8 k h1 h2]
      simp (disch := omega) only [u2_ne, u2_a, u2_k, u2_at]
    · intro a h1 h2 h3
      rw [p9 a h1 h2 h3]
      simp (disch := omega) only [u2_ne, u2_a, u2_k, u2_at]
/-! what is worth, who is missing -/
theorem worthOf_L {w : Nat → Nat} {μ : sm_Mem} (hR : RH 14 w μ) (hG : Good w) {G : Nat → Bool} {x : Int32} (h : ∀ p, p < w 4 → bt x p = G p) : ∀ f p, w 4 - p < f → p ≤ w 4 → fnX7_worthOf_L4 f 14 x (nI (fb_sm (fun p => if G p = true then w (187 + 7 * p) else 0) p)) (nI p) μ = some (nI (fb_sm (fun p => if G p = true then w (187 + 7 * p) else 0) (w 4)), μ) := by
  have n := hG.1
  have r5 := hR.1.2.2.2.2.2
  have e_22 : ln 22 = 8 := rfl
  intro f
  induction f with
  | zero =>
    intro p h
    omega
  | succ f ih =>
    intro p hf hp
    unfold fnX7_worthOf_L4 fnX7_worthOf_J29
    simp only [m_gi, r5, m_br]
    by_cases c1 : w 4 ≤ p
    · have : p = w 4 := by omega
      subst this
      rw [if_pos (nI_le c1 (by omega))]
      rfl
    · rw [if_neg (nI_ge (by omega) (by omega))]
      have ih' := ih (p + 1) (by omega) (by omega)
      rw [fb_sm_succ] at ih'
      have hx : μ.1 22 p = nI (w (187 + 7 * p)) := (hR.2.2.2.2 p (by omega)).2.2.1
      cases hb : G p
      · rw [if_pos ((k_t0 x (show p < 32 by omega)).mpr (by rw [h p (by omega)]; exact hb)), nI_1]
        rw [hb] at ih'
        exact ih'
      · rw [if_neg (fun z => by rw [k_t0 x (show p < 32 by omega), h p (by omega), hb] at z; cases z), lk_14_15, e_ai (by omega), hx, nI_1]
        rw [hb] at ih'
        simp only [m_nm, nI_add]
        exact ih'
theorem worthOf_eq {w : Nat → Nat} {μ : sm_Mem} (hR : RH 14 w μ) (hG : Good w) {G : Nat → Bool} {x : Int32} (h : ∀ p, p < w 4 → bt x p = G p) : fnX7_worthOf 14 x μ = some (nI (fb_sm (fun p => if G p = true then w (187 + 7 * p) else 0) (w 4)), μ) := by
  have n := hG.1
  unfold fnX7_worthOf
  exact worthOf_L hR hG h 4096 0 (by omega) (by omega)
theorem anyOf7 {w : Nat → Nat} {μ : sm_Mem} (hR : RH 14 w μ) (hG : Good w) {u k : Nat} (hu : u < w 4) (hk : k < 5) {y : Int32} (hy : ∀ p, p < 32 → bt y p = decide (p < w 4 ∧ 0 < w (185 + 7 * p + k))) : ∃ m, fnX7_peopleOf 14 (nI u) μ = some (m, μ) ∧ ((y &&& m) = 0 ↔ ¬ 0 < uSum w k u) := by
  have n := hG.1
  obtain ⟨m, m1, m2⟩ := peopleOf7 hR hG hu
  refine ⟨m, m1, ?_⟩
  rw [k_z]
  unfold uSum
  rcases hand_cases hG hu with q | ⟨q1, q2, q3, q4⟩
  · rw [if_pos q]
    constructor
    · intro h
      have := h u (by omega)
      rw [b_and, hy u (by omega), m2 u (by omega), decide_eq_true (Or.inl rfl), Bool.and_true] at this
      have := of_decide_eq_false this
      omega
    · intro h i hi
      rw [b_and, hy i hi, m2 i hi]
      by_cases c : i = u
      · rw [decide_eq_false (by subst c; omega), Bool.false_and]
      · rw [decide_eq_false (p := i = u ∨ _) (by omega), Bool.and_false]
  · rw [if_neg q1]
    constructor
    · intro h
      have h1 := h u (by omega)
      rw [b_and, hy u (by omega), m2 u (by omega), decide_eq_true (Or.inl rfl), Bool.and_true] at h1
      have h2 := h (w (190 + 7 * u) - 1) (by omega)
      rw [b_and, hy _ (by omega), m2 _ (by omega), decide_eq_true (Or.inr ⟨q1, rfl⟩), Bool.and_true] at h2
      have h1 := of_decide_eq_false h1
      have h2 := of_decide_eq_false h2
      omega
    · intro h i hi
      rw [b_and, hy i hi, m2 i hi]
      by_cases c : i = u
      · rw [decide_eq_false (by subst c; omega), Bool.false_and]
      · by_cases c2 : i = w (190 + 7 * u) - 1
        · rw [decide_eq_false (p := i < w 4 ∧ _) (by rw [c2]; omega), Bool.false_and]
        · rw [decide_eq_false (p := i = u ∨ _) (by omega), Bool.and_false]
theorem mustGo7 {w : Nat → Nat} {μ : sm_Mem} (hR : RH 14 w μ) (hG : Good w) {u : Nat} (hu : u < w 4) : fnX7_mustGo 14 (nI u) μ = some (decide (0 < uSum w 3 u), μ) := by
  obtain ⟨m, m1, m2⟩ := anyOf7 hR hG hu (k := 3) (by omega) (y := μ.1 14 6) (fun p hp => by rw [hR.2.1 p hp, show 185 + 7 * p + 3 = 188 + 7 * p by omega])
  unfold fnX7_mustGo
  simp only [m_gi, m_bnd, m1, m_br]
  by_cases c : 0 < uSum w 3 u
  · rw [if_neg (fun z => m2.mp z c), decide_eq_true c]
    rfl
  · rw [if_pos (m2.mpr c), decide_eq_false c]
    rfl
theorem comesBack7 {w : Nat → Nat} {μ : sm_Mem} (hR : RH 14 w μ) (hG : Good w) {u : Nat} (hu : u < w 4) : fnX7_comesBack 14 (nI u) μ = some (decide (0 < uSum w 4 u), μ) := by
  obtain ⟨m, m1, m2⟩ := anyOf7 hR hG hu (k := 4) (by omega) (y := μ.1 14 7) (fun p hp => by rw [hR.2.2.1 p hp, show 185 + 7 * p + 4 = 189 + 7 * p by omega])
  unfold fnX7_comesBack
  simp only [m_gi, m_bnd, m1, m_br]
  by_cases c : 0 < uSum w 4 u
  · rw [if_neg (fun z => m2.mp z c), decide_eq_true c]
    rfl
  · rw [if_pos (m2.mpr c), decide_eq_false c]
    rfl
theorem e_b {α β : Type} {f : sm_M β} {g : β → sm_M α} {μ μ1 : sm_Mem} {r : β} (h : f μ = some (r, μ1)) : m_bnd f g μ = g r μ1 := by
  unfold m_bnd
  rw [h]
theorem e_T {α : Type} {c : Prop} [Decidable c] {f g : sm_M α} {μ : sm_Mem} (h : c) : m_br c f g μ = f μ := by
  unfold m_br
  rw [if_pos h]
theorem e_F {α : Type} {c : Prop} [Decidable c] {f g : sm_M α} {μ : sm_Mem} (h : ¬ c) : m_br c f g μ = g μ := by
  unfold m_br
  rw [if_neg h]
theorem e_nm' {α β : Type} {x : β} {g : β → sm_M α} {μ : sm_Mem} : m_nm x g μ = g x μ := rfl
theorem e_gi {α : Type} {a k : Nat} {g : Int32 → sm_M α} {μ : sm_Mem} : m_gi a k g μ = g (μ.1 a k) μ := rfl
/-- the units that must, and are not there -/
def misW (w : Nat → Nat) (u : Nat) : Bool := lead w u && (decide (0 < uSum w 3 u) && !uAt w u 99)
theorem missing9_L {c : Nat} (hc : isSc c) {w : Nat → Nat} {μ : sm_Mem} (hR : RH 14 w μ) (hS : SH c w μ) (hG : Good w) : ∀ f u, w 4 - u < f → u ≤ w 4 → fnX9_missing_L4 f c (mk (misW w) u) (nI u) μ = some (mk (misW w) (w 4), μ) := by
  have n := hG.1
  obtain ⟨k0, -, -, -, -, -, -⟩ := sc_lk hc
  have r5 := hR.1.2.2.2.2.2
  intro f
  induction f with
  | zero =>
    intro u h
    omega
  | succ f ih =>
    intro u hf hu
    unfold fnX9_missing_L4 fnX9_missing_J53
    rw [k0, e_gi, r5]
    by_cases c1 : w 4 ≤ u
    · have : u = w 4 := by omega
      subst this
      rw [e_T (nI_le c1 (by omega))]
      rfl
    · have hu' : u < w 4 := by omega
      have ih' := ih (u + 1) (by omega) (by omega)
      rw [mk_succ] at ih'
      rw [e_F (nI_ge (by omega) (by omega)), e_b (isUnit7 hR hG hu'), nI_1]
      cases h1 : lead w u
      · have hm : misW w u = false := by unfold misW; rw [h1]; rfl
        rw [hm, if_neg (by decide)] at ih'
        rw [e_T (by decide)]
        exact ih'
      · rw [e_F (by decide), e_b (mustGo7 hR hG hu')]
        by_cases h2 : 0 < uSum w 3 u
        · rw [decide_eq_true h2, e_F (by decide), li_99, e_b (isAt9 hc hR hS hG hu' (by omega))]
          cases h3 : uAt w u 99
          · have hm : misW w u = true := by unfold misW; rw [h1, decide_eq_true h2, h3]; rfl
            rw [hm, if_pos rfl] at ih'
            rw [e_T (by decide), e_nm']
            exact ih'
          · have hm : misW w u = false := by unfold misW; rw [h1, decide_eq_true h2, h3]; rfl
            rw [hm, if_neg (by decide)] at ih'
            rw [e_F (by decide)]
            exact ih'
        · have hm : misW w u = false := by unfold misW; rw [h1, decide_eq_false h2]; rfl
          rw [hm, if_neg (by decide)] at ih'
          rw [decide_eq_false h2, e_T (by decide)]
          exact ih'
theorem missing9_eq {c : Nat} (hc : isSc c) {w : Nat → Nat} {μ : sm_Mem} (hR : RH 14 w μ) (hS : SH c w μ) (hG : Good w) : fnX9_missing c μ = some (mk (misW w) (w 4), μ) := by
  have n := hG.1
  unfold fnX9_missing
  exact missing9_L hc hR hS hG 4096 0 (by omega) (by omega)
theorem mustNot_L {w : Nat → Nat} {μ : sm_Mem} (hW : WH 147 w μ) (hG : Good w) : ∀ f u, w 4 - u < f → u ≤ w 4 → fnX12_mustAndNot_L4 f 146 (mk (misW w) u) (nI u) μ = some (mk (misW w) (w 4), μ) := by
  have n := hG.1
  intro f
  induction f with
  | zero =>
    intro u h
    omega
  | succ f ih =>
    intro u hf hu
    unfold fnX12_mustAndNot_L4 fnX12_mustAndNot_J46 fnX12_mustAndNot_J47
    rw [e_b (units12 hW)]
    by_cases c1 : w 4 ≤ u
    · have : u = w 4 := by omega
      subst this
      rw [e_T (nI_le c1 (by omega))]
      rfl
    · have hu' : u < w 4 := by omega
      have ih' := ih (u + 1) (by omega) (by omega)
      have g3 := uSum3_le hG hu' (k := 3) (by omega)
      have o0 : ∀ x : Int32, x ||| (0 : Int32) = x := fun x => b_ext (fun i _ => by rw [b_or, b_0, Bool.or_false])
      rw [mk_succ] at ih'
      rw [e_F (nI_ge (by omega) (by omega)), e_b (leads12 hW hG hu'), nI_1]
      cases h1 : lead w u
      · have hm : misW w u = false := by unfold misW; rw [h1]; rfl
        rw [hm, if_neg (by decide)] at ih'
        rw [e_T (by decide), e_nm', o0]
        exact ih'
      · rw [e_F (by decide), li_3, e_b (sumOf12 hW hG hu' (by omega))]
        by_cases h2 : 0 < uSum w 3 u
        · rw [e_F (show ¬ nI (uSum w 3 u) ≤ 0 from nI_ge (a := 0) (by omega) (by omega)), li_99, e_b (isAt12 hW hG hu' (by omega)), h1, Bool.true_and]
          cases h3 : uAt w u 99
          · have hm : misW w u = true := by unfold misW; rw [h1, decide_eq_true h2, h3]; rfl
            rw [hm, if_pos rfl] at ih'
            rw [e_T (by decide), e_nm']
            exact ih'
          · have hm : misW w u = false := by unfold misW; rw [h1, decide_eq_true h2, h3]; rfl
            rw [hm, if_neg (by decide)] at ih'
            rw [e_F (by decide), e_nm', o0]
            exact ih'
        · have hm : misW w u = false := by unfold misW; rw [h1, decide_eq_false h2]; rfl
          rw [hm, if_neg (by decide)] at ih'
          rw [e_T (show nI (uSum w 3 u) ≤ 0 from nI_le (b := 0) (by omega) (by omega)), e_nm', o0]
          exact ih'
theorem mustNot_eq {w : Nat → Nat} {μ : sm_Mem} (hW : WH 147 w μ) (hG : Good w) : fnX12_mustAndNot 146 μ = some (mk (misW w) (w 4), μ) := by
  have n := hG.1
  unfold fnX12_mustAndNot
  exact mustNot_L hW hG 4096 0 (by omega) (by omega)
