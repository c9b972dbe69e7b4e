/-! ===== ALL GO OVER IN ORDER ===== -/
def ldr (w : Nat → Nat) (p : Nat) : Nat := if lead w p = true then p else w (190 + 7 * p) - 1
/-- behind the first units: the world, and which have gone -/
noncomputable def ovr (w : Nat → Nat) (way : Nat) : Nat → (Nat → Nat) × (Nat → Bool)
  | 0 => (w, fun _ => false)
  | u + 1 => match goW (ovr w way u).1 u way 98 with
    | none => ovr w way u
    | some x => (x.1, fun k => (ovr w way u).2 k || decide (k = u))
/-- the people of the units that have gone -/
def ppl (w : Nat → Nat) (G : Nat → Bool) (p : Nat) : Bool := decide (p < w 4) && G (ldr w p)
theorem ldr_iff {w : Nat → Nat} (hG : Good w) {u p : Nat} (hu : u < w 4) (hp : p < w 4) (hl : lead w u = true) : ldr w p = u ↔ p = u ∨ (w (190 + 7 * u) ≠ 0 ∧ p = w (190 + 7 * u) - 1) := by
  have gu := hG.2.2.2.2.2.2.2.2.1 u hu
  have gp := hG.2.2.2.2.2.2.2.2.1 p hp
  unfold ldr
  unfold lead at hl ⊢
  have hl := of_decide_eq_true hl
  by_cases c : w (190 + 7 * p) = 0 ∨ p < w (190 + 7 * p) - 1
  · rw [decide_eq_true c, if_pos rfl]
    constructor
    · intro h
      exact Or.inl h
    · rintro (h | ⟨h1, h2⟩)
      · exact h
      · rcases gu with q | ⟨q, a1, a2, a3, a4⟩
        · exact absurd q h1
        · have : q = p := by omega
          subst this
          omega
  · rw [decide_eq_false c, if_neg (by decide)]
    constructor
    · intro h
      rcases gp with q | ⟨q, a1, a2, a3, a4⟩
      · omega
      · have : q = u := by omega
        subst this
        right
        omega
    · rintro (h | ⟨h1, h2⟩)
      · subst h
        omega
      · rcases gu with q | ⟨q, a1, a2, a3, a4⟩
        · exact absurd q h1
        · have : q = p := by omega
          subst this
          omega
theorem same_lead {w w' : Nat → Nat} (h : Same w w') {u : Nat} (hu : u < 8) : lead w' u = lead w u := by
  have e5 := h.2.2 u 5 (by omega) (by omega)
  rw [show 185 + 7 * u + 5 = 190 + 7 * u by omega] at e5
  unfold lead
  rw [e5]
theorem go_lead {w : Nat → Nat} {u way bank : Nat} {x : (Nat → Nat) × Nat} (h : goW w u way bank = some x) : lead w u = true ∧ uAt w u bank = true := by
  unfold goW at h
  split at h
  · rename_i q
    exact q
  · cases h
theorem peopleOf7 {w : Nat → Nat} {μ : sm_Mem} (hR : RH 14 w μ) (hG : Good w) {u : Nat} (hu : u < w 4) : ∃ m, fnX7_peopleOf 14 (nI u) μ = some (m, μ) ∧ ∀ p, p < 32 → bt m p = decide (p = u ∨ (w (190 + 7 * u) ≠ 0 ∧ p = w (190 + 7 * u) - 1)) := by
  have n := hG.1
  have hh := hand14 hR hu
  have e_23 : ln 23 = 8 := rfl
  unfold fnX7_peopleOf
  rw [lk_14_16, e_ai (by omega), hh]
  simp only [m_br]
  rcases hand_cases hG hu with q | ⟨q1, q2, q3, q4⟩
  · rw [if_pos ((hd_mm (by omega)).mpr q)]
    refine ⟨_, rfl, fun p hp => ?_⟩
    rw [k_1 u (by omega) p hp]
    apply decide_eq_decide.mpr
    omega
  · rw [if_neg (fun z => q1 ((hd_mm (by omega)).mp z)), e_ai (by omega), hh, hd_q q1]
    refine ⟨_, rfl, fun p hp => ?_⟩
    rw [b_or, k_1 u (by omega) p hp, k_1 _ (by omega) p hp]
    by_cases c1 : p = u
    · simp [c1]
    · by_cases c2 : p = w (190 + 7 * u) - 1
      · simp [c2, q1]
      · simp [c1, c2]
/-- one more unit -/
theorem ppl_add {w : Nat → Nat} (hG : Good w) {G : Nat → Bool} {u p : Nat} (hu : u < w 4) (hl : lead w u = true) (hp : p < 32) : ppl w (fun k => G k || decide (k = u)) p = (ppl w G p || decide (p < w 4 ∧ (p = u ∨ (w (190 + 7 * u) ≠ 0 ∧ p = w (190 + 7 * u) - 1)))) := by
  unfold ppl
  by_cases c : p < w 4
  · rw [decide_eq_true c, Bool.true_and, Bool.true_and]
    show (G (ldr w p) || decide (ldr w p = u)) = _
    congr 1
    apply decide_eq_decide.mpr
    rw [ldr_iff hG hu c hl]
    exact ⟨fun h => ⟨c, h⟩, fun h => h.2⟩
  · rw [decide_eq_false c, Bool.false_and, Bool.false_and, decide_eq_false (fun h => c h.1)]
    rfl
theorem sendOver_L {c : Nat} (hc : isSc c) {w : Nat → Nat} (hG : Good w) {way : Nat} (hw : way < 4) {μ0 : sm_Mem} (hR : RH 14 w μ0) (hL : LKS w μ0) :
    ∀ (f u : Nat) (m : Int32) (μ : sm_Mem), w 4 - u < f → u ≤ w 4 → (∀ p, p < 32 → bt m p = ppl w (ovr w way u).2 p) → SH c (ovr w way u).1 μ → Same w (ovr w way u).1 → Good (ovr w way u).1 → (∀ a, (a < 36 ∨ 41 ≤ a) → (a < c ∨ c + 4 ≤ a) → μ.1 a = μ0.1 a) → μ.2 = μ0.2 →
    T (fnX0_sendOver_L5 f 41 c (nI way) m (nI u)) μ (fun x μ' => (∀ p, p < 32 → bt x p = ppl w (ovr w way (w 4)).2 p) ∧ SH c (ovr w way (w 4)).1 μ' ∧ Same w (ovr w way (w 4)).1 ∧ Good (ovr w way (w 4)).1 ∧ (∀ a, (a < 36 ∨ 41 ≤ a) → (a < c ∨ c + 4 ≤ a) → μ'.1 a = μ0.1 a) ∧ μ'.2 = μ0.2) := by
  obtain ⟨k0, -, -, -, -, -, -⟩ := sc_lk hc
  have n := hG.1
  have hcr : (c + 4 ≤ 14 ∨ 24 ≤ c) ∧ (c + 4 ≤ 33 ∨ 36 ≤ c) := by
    unfold isSc at hc
    simp only [List.mem_cons, List.not_mem_nil, or_false] at hc
    omega
  intro f
  induction f with
  | zero =>
    intro u m μ h
    omega
  | succ f ih =>
    intro u m μ hf hu hm hS hs hg ho h2
    have hR1 : RH 14 (ovr w way u).1 μ := same_rh hs hG (rh_fr (fun a q1 q2 => ho a (by omega) (by omega)) hR)
    have hL1 : LKS (ovr w way u).1 μ := same_lks hs hG (lks_fr (fun a q1 q2 => ho a (by omega) (by omega)) hL)
    have w4 := hs.1 4 (by omega)
    have r5 := hR1.1.2.2.2.2.2
    rw [w4] at r5
    unfold fnX0_sendOver_L5
    rw [k0, t_gi, r5]
    by_cases c1 : w 4 ≤ u
    · have : u = w 4 := by omega
      subst this
      rw [t_brT (nI_le c1 (by omega)), t_ret]
      exact ⟨hm, hS, hs, hg, ho, h2⟩
    have hu' : u < (ovr w way u).1 4 := by omega
    have step : ∀ μ1 m1, ovr w way (u + 1) = ovr w way u → m1 = m → SH c (ovr w way u).1 μ1 → (∀ a, (a < 36 ∨ 41 ≤ a) → (a < c ∨ c + 4 ≤ a) → μ1.1 a = μ0.1 a) → μ1.2 = μ0.2 → T (fnX0_sendOver_J63 (fnX0_sendOver_L5 f) 41 c (nI way) m1 (nI u)) μ1 (fun x μ' => (∀ p, p < 32 → bt x p = ppl w (ovr w way (w 4)).2 p) ∧ SH c (ovr w way (w 4)).1 μ' ∧ Same w (ovr w way (w 4)).1 ∧ Good (ovr w way (w 4)).1 ∧ (∀ a, (a < 36 ∨ 41 ≤ a) → (a < c ∨ c + 4 ≤ a) → μ'.1 a = μ0.1 a) ∧ μ'.2 = μ0.2) := by
      intro μ1 m1 e1 e2 e3 e4 e5
      subst e2
      unfold fnX0_sendOver_J63
      rw [nI_1]
      exact ih (u + 1) m1 μ1 (by omega) (by omega) (by rw [e1]; exact hm) (by rw [e1]; exact e3) (by rw [e1]; exact hs) (by rw [e1]; exact hg) e4 e5
    have none_of : ¬ (lead (ovr w way u).1 u = true ∧ uAt (ovr w way u).1 u 98 = true) → ovr w way (u + 1) = ovr w way u := by
      intro h
      have : goW (ovr w way u).1 u way 98 = none := by
        unfold goW
        rw [if_neg h]
      show (match goW (ovr w way u).1 u way 98 with | none => ovr w way u | some x => (x.1, fun k => (ovr w way u).2 k || decide (k = u))) = _
      rw [this]
    rw [t_brF (nI_ge (by omega) (by omega)), t_bnd, t_eq (isUnit7 hR1 hg hu')]
    cases hl : lead (ovr w way u).1 u
    · rw [t_brT (by decide)]
      exact step μ m (none_of (by rw [hl]; simp)) rfl hS ho h2
    rw [t_brF (by decide), li_98, t_bnd, t_eq (isAt9 hc hR1 hS hg hu' (by omega))]
    cases hat : uAt (ovr w way u).1 u 98
    · rw [t_brT (by decide)]
      exact step μ m (none_of (by rw [hat]; simp)) rfl hS ho h2
    rw [t_brF (by decide), t_bnd]
    refine t_mono (send_T hc hR1 hS hL1 hg hu' hw hl) ?_
    rw [hat, if_pos rfl]
    rintro x μ1 ⟨a1, a2, a3⟩
    have fr1 : ∀ a, (a < 36 ∨ 41 ≤ a) → (a < c ∨ c + 4 ≤ a) → μ1.1 a = μ0.1 a := fun a h1 h3 => (a2 a h1 h3).trans (ho a h1 h3)
    cases hgo : goW (ovr w way u).1 u way 98 with
    | none =>
      rw [hgo] at a1
      obtain ⟨rfl, b1⟩ := a1
      rw [t_brT mI_lt0]
      refine step μ1 m ?_ rfl b1 fr1 (a3.trans h2)
      show (match goW (ovr w way u).1 u way 98 with | none => ovr w way u | some x => (x.1, fun k => (ovr w way u).2 k || decide (k = u))) = _
      rw [hgo]
    | some z =>
      rw [hgo] at a1
      obtain ⟨rfl, b1, b2, b3, b4⟩ := a1
      have e1 : ovr w way (u + 1) = (z.1, fun k => (ovr w way u).2 k || decide (k = u)) := by
        show (match goW (ovr w way u).1 u way 98 with | none => ovr w way u | some x => (x.1, fun k => (ovr w way u).2 k || decide (k = u))) = _
        rw [hgo]
      have hR2 : RH 14 w μ1 := rh_fr (fun a q1 q2 => fr1 a (by omega) (by omega)) hR
      obtain ⟨pm, p1, p2⟩ := peopleOf7 hR2 hG (show u < w 4 by omega)
      rw [t_brF (nI_pos (by omega)), t_bnd, t_eq p1, t_nm]
      unfold fnX0_sendOver_J63
      rw [nI_1]
      have hlw : lead w u = true := by
        rw [← same_lead hs (show u < 8 by omega)]
        exact hl
      refine ih (u + 1) (m ||| pm) μ1 (by omega) (by omega) ?_ (by rw [e1]; exact b2) (by rw [e1]; exact same_tr hs b3) (by rw [e1]; exact b4) fr1 (a3.trans h2)
      intro p hp
      rw [e1, ppl_add hG (show u < w 4 by omega) hlw hp, b_or, hm p hp, p2 p hp]
      congr 1
      apply decide_eq_decide.mpr
      rcases hand_cases hG (show u < w 4 by omega) with q | ⟨q1, q2, q3, q4⟩
      · omega
      · omega
theorem sendOver_T {c : Nat} (hc : isSc c) {w : Nat → Nat} (hG : Good w) {way : Nat} (hw : way < 4) {μ : sm_Mem} (hR : RH 14 w μ) (hL : LKS w μ) (hS : SH c w μ) : T (fnX0_sendOver 41 c (nI way)) μ (fun x μ' => (∀ p, p < 32 → bt x p = ppl w (ovr w way (w 4)).2 p) ∧ SH c (ovr w way (w 4)).1 μ' ∧ Same w (ovr w way (w 4)).1 ∧ Good (ovr w way (w 4)).1 ∧ (∀ a, (a < 36 ∨ 41 ≤ a) → (a < c ∨ c + 4 ≤ a) → μ'.1 a = μ.1 a) ∧ μ'.2 = μ.2) := by
  have n := hG.1
  unfold fnX0_sendOver
  refine sendOver_L hc hG hw hR hL 4096 0 0 μ (by omega) (by omega) ?_ hS (same_rf w) hG (fun _ _ _ => rfl) rfl
  intro p hp
  rw [b_0]
  unfold ppl
  show false = (decide (p < w 4) && false)
  simp
/-- the mask is that of a set of people -/
theorem mask_mk {w : Nat → Nat} (hG : Good w) {G : Nat → Bool} {x : Int32} (h : ∀ p, p < 32 → bt x p = ppl w G p) : x = mk (ppl w G) (w 4) := by
  have n := hG.1
  apply b_ext
  intro i hi
  rw [h i hi, bt_mk _ _ (by omega) i hi]
  unfold ppl
  cases decide (i < w 4) <;> simp
/-! the reference's side -/
theorem manyOf12 {w : Nat → Nat} {μ : sm_Mem} (hW : WH 147 w μ) (hG : Good w) {u : Nat} (hu : u < w 4) : fnX12_manyOf 146 (nI u) μ = some (nI (if w (190 + 7 * u) = 0 then 1 else 2), μ) := by
  have n := hG.1
  unfold fnX12_manyOf
  simp only [m_bnd, second12 hW hG hu, m_br]
  rcases hand_cases hG hu with q | ⟨q1, q2, q3, q4⟩
  · rw [if_pos ((hd_m1 (by omega)).mpr q), if_pos q]
    rfl
  · rw [if_neg (fun z => q1 ((hd_m1 (by omega)).mp z)), if_neg q1]
    rfl
theorem bitsOf12 {w : Nat → Nat} {μ : sm_Mem} (hW : WH 147 w μ) (hG : Good w) {u : Nat} (hu : u < w 4) : ∃ m, fnX12_bitsOf 146 (nI u) μ = some (m, μ) ∧ ∀ p, p < 32 → bt m p = decide (p = u ∨ (w (190 + 7 * u) ≠ 0 ∧ p = w (190 + 7 * u) - 1)) := by
  have n := hG.1
  unfold fnX12_bitsOf
  simp only [m_bnd, second12 hW hG hu, m_br]
  rcases hand_cases hG hu with q | ⟨q1, q2, q3, q4⟩
  · rw [if_pos ((hd_m1 (by omega)).mpr q)]
    refine ⟨_, rfl, fun p hp => ?_⟩
    rw [b_or, b_0, Bool.or_false, k_1 u (by omega) p hp]
    apply decide_eq_decide.mpr
    omega
  · rw [if_neg (fun z => q1 ((hd_m1 (by omega)).mp z)), hd_q' q1]
    refine ⟨_, rfl, fun p hp => ?_⟩
    rw [b_or, k_1 u (by omega) p hp, k_1 _ (by omega) p hp]
    by_cases c1 : p = u
    · simp [c1]
    · by_cases c2 : p = w (190 + 7 * u) - 1
      · simp [c2, q1]
      · simp [c1, c2]
/-- sums over the people of the units that have gone: one unit more -/
theorem sum_add {w : Nat → Nat} (hG : Good w) {G : Nat → Bool} {u : Nat} (hu : u < w 4) (hl : lead w u = true) (hn : ∀ k, G k = true → k < u) (v : Nat → Nat) : fb_sm (fun p => if ppl w (fun k => G k || decide (k = u)) p = true then v p else 0) (w 4) = fb_sm (fun p => if ppl w G p = true then v p else 0) (w 4) + (v u + (if w (190 + 7 * u) = 0 then 0 else v (w (190 + 7 * u) - 1))) := by
  have n := hG.1
  have old : ∀ p, p < w 4 → ldr w p = u → ppl w G p = false := by
    intro p hp h
    unfold ppl
    rw [h]
    cases q : G u
    · simp
    · have := hn u q
      omega
  have hu0 : ppl w G u = false := old u hu ((ldr_iff hG hu hu hl).mpr (Or.inl rfl))
  rcases hand_cases hG hu with q | ⟨q1, q2, q3, q4⟩
  · rw [if_pos q, Nat.add_zero]
    have e : fb_sm (fun p => if ppl w (fun k => G k || decide (k = u)) p = true then v p else 0) (w 4) = fb_sm (fun k => if k = u then v u else (if ppl w G k = true then v k else 0)) (w 4) := by
      apply fb_sm_cong
      intro p hp
      rw [ppl_add hG hu hl (by omega)]
      by_cases c : p = u
      · subst c
        rw [if_pos rfl, if_pos (by simp [hp])]
      · rw [if_neg c, decide_eq_false (by omega), Bool.or_false]
    rw [e]
    have := fb_sm_upd (fun k => if ppl w G k = true then v k else 0) (v u) (i := u) hu
    rw [hu0] at this
    simp only [Bool.false_eq_true, if_false, Nat.add_zero] at this
    exact this
  · rw [if_neg q1]
    have hq0 : ppl w G (w (190 + 7 * u) - 1) = false := old _ q2 ((ldr_iff hG hu q2 hl).mpr (Or.inr ⟨q1, rfl⟩))
    have e : fb_sm (fun p => if ppl w (fun k => G k || decide (k = u)) p = true then v p else 0) (w 4) = fb_sm (fun k => if k = w (190 + 7 * u) - 1 then v (w (190 + 7 * u) - 1) else (if k = u then v u else (if ppl w G k = true then v k else 0))) (w 4) := by
      apply fb_sm_cong
      intro p hp
      rw [ppl_add hG hu hl (by omega)]
      by_cases c2 : p = w (190 + 7 * u) - 1
      · rw [if_pos c2, if_pos (by simp [hp, c2, q1]; omega), c2]
      · rw [if_neg c2]
        by_cases c : p = u
        · subst c
          rw [if_pos rfl, if_pos (by simp [hp])]
        · rw [if_neg c, decide_eq_false (by omega), Bool.or_false]
    rw [e]
    have a1 := fb_sm_upd (fun k => if k = u then v u else (if ppl w G k = true then v k else 0)) (v (w (190 + 7 * u) - 1)) (i := w (190 + 7 * u) - 1) q2
    have a2 := fb_sm_upd (fun k => if ppl w G k = true then v k else 0) (v u) (i := u) hu
    rw [hu0] at a2
    rw [if_neg q4, hq0] at a1
    simp only [Bool.false_eq_true, if_false, Nat.add_zero] at a1 a2
    omega
