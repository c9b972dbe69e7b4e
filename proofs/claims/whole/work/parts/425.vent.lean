/-! ===== A DAY WITH CRACKS: the reference ===== -/
def VnR (w : Nat → Nat) (u : Nat) (z : (Nat → Nat) × Bool) (μ0 μ' : sm_Mem) : Prop := WH 147 z.1 μ' ∧ μ'.1 146 22 = (if z.2 = true then μ0.1 146 22 + nI (if w (190 + 7 * u) = 0 then 1 else 2) else μ0.1 146 22) ∧ (∀ k, k ≠ 22 → μ'.1 146 k = μ0.1 146 k) ∧ (∀ a, a ≠ 146 → a ≠ 147 → μ'.1 a = μ0.1 a) ∧ μ'.2 = μ0.2
theorem vent43 {w : Nat → Nat} (hG : GoodQ w) {u : Nat} (hu : u < w 4) {l : List Nat} (hlen : l.length ≤ 24) {cr : Nat → Bool} {cm : Int32} (hcm : ∀ s, s < w 3 → bt cm s = cr s) {wt : Nat} {μ0 : sm_Mem} (h19 : μ0.1 146 19 = nI l.length) (h156 : ∀ i, i < l.length → μ0.1 156 i = nI (l.getD i 0)) :
    ∀ (f i : Nat) (w1 : Nat → Nat) (μ : sm_Mem), l.length - i < f → i ≤ l.length → Same w w1 → GoodQ w1 → (∀ x, x ∈ l.drop i → x < w 3 ∧ w1 (16 + 7 * x) + wt ≤ 9) → (l.drop i).Nodup → WH 147 w1 μ → (∀ a, a ≠ 147 → μ.1 a = μ0.1 a) → μ.2 = μ0.2 →
    T (fnX12_ventures_L43 f 146 (nI u) cm (nI wt) (nI i)) μ (fun _ μ' => VnR w u (rdR u (wkF cr wt (l.drop i) w1)) μ0 μ') := by
  have n := hG.1
  have e_156 : ln 156 = 25 := rfl
  intro f
  induction f with
  | zero =>
    intro i w1 μ h
    omega
  | succ f ih =>
    intro i w1 μ hf hi hs hg hl hn hW ho h2
    have w3 := hs.1 3 (by omega)
    have w4 := hs.1 4 (by omega)
    have h5 := hs.2.2 u 5 (by omega) (by omega)
    rw [show 185 + 7 * u + 5 = 190 + 7 * u by omega] at h5
    have x19 : μ.1 146 19 = nI l.length := by rw [ho 146 (by omega)]; exact h19
    unfold fnX12_ventures_L43
    rw [t_gi, x19]
    by_cases c1 : l.length ≤ i
    · have : i = l.length := by omega
      subst this
      rw [t_brT (nI_le c1 (by omega)), List.drop_length]
      unfold fnX12_ventures_J112
      rw [li_99, t_bnd]
      refine t_mono (puts12Q (b := 99) hW hg (show u < w1 4 by omega)) ?_
      rintro _ μ1 ⟨a1, a2, a3⟩
      have hgp := (good_putQ hg (u := u) (b := 99) (by omega)).2
      have p5 : putW w1 u 99 (190 + 7 * u) = w (190 + 7 * u) := by
        rw [put_ne (fun p => by omega), h5]
      have p4 : putW w1 u 99 4 = w 4 := by
        rw [put_ne (fun p => by omega), w4]
      rw [t_gi, t_bnd, t_eq (manyOf12Q a1 hgp (by omega)), t_si, t_ret, p5]
      refine ⟨wh_fr (μ := μ1) (fun i _ => (by simp (disch := omega) only [u2_ne, u2_a, u2_k, u2_at])) a1, ?_, ?_, ?_, a3.trans h2⟩
      · show u2 μ1.1 146 22 _ 146 22 = _
        rw [u2_at, a2 146 (by omega), ho 146 (by omega)]
        rfl
      · intro k hk
        show u2 μ1.1 146 22 _ 146 k = _
        rw [u2_k hk, a2 146 (by omega), ho 146 (by omega)]
      · intro a h1 h3
        show u2 μ1.1 146 22 _ a = _
        rw [u2_ne h1, a2 a h3, ho a h3]
    · rw [drop_d (show i < l.length by omega)] at hl hn ⊢
      generalize hs0 : l.getD i 0 = s at hl hn ⊢
      obtain ⟨hs1, hs9⟩ := hl s (List.mem_cons_self ..)
      have hn' := List.nodup_cons.mp hn
      have x156 : μ.1 156 i = nI s := by
        rw [ho 156 (by omega), h156 i (by omega), hs0]
      have e6 : 10 + 7 * s + 6 = 16 + 7 * s := by omega
      rw [t_brF (nI_ge (by omega) (by omega)), lk_146_18, t_ai (by omega), x156]
      have go : (cr s && decide (1 < w1 (16 + 7 * s) + wt)) = false → T (fnX12_ventures_J98 (fnX12_ventures_L43 f) 146 (nI u) cm (nI wt) (nI i) (nI s)) μ (fun _ μ' => VnR w u (rdR u (wkF cr wt (s :: l.drop (i + 1)) w1)) μ0 μ') := by
        intro hb
        obtain ⟨s1, g1⟩ := good_upQ hg (s := s) (v := w1 (16 + 7 * s) + wt) (by omega) (by omega)
        unfold fnX12_ventures_J98
        rw [t_bnd, bears_T hW (by omega), nI_1, wkF, if_neg (by rw [hb]; decide)]
        refine ih (i + 1) _ _ (by omega) (by omega) (same_tr hs s1) g1 ?_ hn'.2 (wh_up hW ?_) ?_ h2
        · intro x hx
          have := hl x (List.mem_cons_of_mem _ hx)
          have ne : x ≠ s := fun z => hn'.1 (by rw [← z]; exact hx)
          rw [up_ne (by omega)]
          exact this
        · unfold eI
          rw [if_neg (by omega)]
        · intro a ha
          rw [← ho a ha]
          simp (disch := omega) only [u2_ne, u2_a, u2_k, u2_at]
      cases hb : cr s
      · rw [t_brF (fun z => by rw [k_t1 _ (show s < 32 by omega), hcm s hs1, hb] at z; cases z)]
        exact go (by rw [hb]; rfl)
      · rw [t_brT ((k_t1 _ (by omega)).mpr (by rw [hcm s hs1]; exact hb)), li_6, t_bnd, t_eq (ofStone_eq hW (by omega) (by omega)), e6, nI_add]
        by_cases c2 : w1 (16 + 7 * s) + wt ≤ 1
        · rw [t_brT (show nI (w1 (16 + 7 * s) + wt) ≤ (1 : Int32) from nI_le (b := 1) c2 (by omega))]
          exact go (by rw [decide_eq_false (by omega), Bool.and_false])
        · rw [t_brF (show ¬ nI (w1 (16 + 7 * s) + wt) ≤ (1 : Int32) from nI_ge (a := 1) (by omega) (by omega)), wkF, if_pos (by rw [hb, decide_eq_true (show 1 < w1 (16 + 7 * s) + wt by omega)]; rfl)]
          unfold fnX12_ventures_J86
          rw [t_bnd, li_6, setStone_T (by omega) (by omega), e6, t_ret]
          refine ⟨wh_up (x := (1000 : Int32)) hW ?_, ?_, ?_, ?_, h2⟩
          · unfold eI
            rw [if_neg (by omega)]
            rfl
          · show u2 μ.1 147 (16 + 7 * s) 1000 146 22 = μ0.1 146 22
            rw [u2_ne (by omega), ho 146 (by omega)]
          · intro k hk
            show u2 μ.1 147 (16 + 7 * s) 1000 146 k = _
            rw [u2_ne (by omega), ho 146 (by omega)]
          · intro a h1 h3
            show u2 μ.1 147 (16 + 7 * s) 1000 a = _
            rw [u2_ne h3, ho a h3]
def VnT (w : Nat → Nat) (u : Nat) (z : (Nat → Nat) × Bool) (μ0 μ' : sm_Mem) : Prop := WH 147 z.1 μ' ∧ μ'.1 146 22 = (if z.2 = true then μ0.1 146 22 + nI (if w (190 + 7 * u) = 0 then 1 else 2) else μ0.1 146 22) ∧ (∀ k, k ≠ 19 → k ≠ 22 → μ'.1 146 k = μ0.1 146 k) ∧ (∀ a, a ≠ 146 → a ≠ 147 → (a < 153 ∨ 157 ≤ a) → μ'.1 a = μ0.1 a) ∧ μ'.2 = μ0.2
theorem vent_T {w : Nat → Nat} (hG : GoodQ w) {u way : Nat} (hu : u < w 4) (hw : way < 4) {cr : Nat → Bool} {cm : Int32} (hcm : ∀ s, s < w 3 → bt cm s = cr s) {μ : sm_Mem} (hW : WH 147 w μ) : T (fnX12_ventures 146 (nI u) (nI way) cm) μ (fun _ μ' => VnT w u (rdS cr way w u) μ μ') := by
  have n := hG.1
  obtain ⟨s1, s2⟩ := uStr_rngQ hG hu
  obtain ⟨t1, t2⟩ := uWt_rngQ hG hu
  unfold fnX12_ventures rdS
  rw [li_98, li_1, t_bnd, t_eq (isAt12Q hW hG hu (by omega))]
  by_cases c : lead w u = true ∧ uAt w u 98 = true
  · rw [c.1, c.2, t_brF (by decide), if_pos (by decide), t_bnd, t_eq (strideOf12Q hW hG hu), t_bnd, t_eq (sumOf12Q hW hG hu (by omega)), t_bnd]
    refine t_mono (finds_TQ hG s1 s2 t1 (by omega) hw (Or.inl rfl) hW) ?_
    rintro x μ1 ⟨a1, a2, a3, a4⟩
    have W1 : WH 147 w μ1 := wh_fr (fun i _ => by rw [a3 147 (by omega) (by omega)]) hW
    cases hf : findW w (uStr w u) (uSum w 1 u) way 98 with
    | none =>
      rw [hf] at a1
      have a1 : x = false := a1
      rw [a1, t_brT (by decide), t_ret]
      exact ⟨W1, a2 22 (by omega), fun k h1 _ => a2 k h1, fun a h1 _ h3 => a3 a h1 h3, a4⟩
    | some l =>
      rw [hf] at a1
      obtain ⟨b1, b2, b3, b4, b5, b6⟩ := a1
      rw [b1, t_brF (by decide), t_bnd, t_eq (sumOf12Q W1 hG hu (by omega)), li_0]
      refine t_mono (vent43 hG hu b2 hcm b3 b4 4096 0 w μ1 (by omega) (by omega) (same_rf w) hG ?_ b6 W1 (fun _ _ => rfl) rfl) ?_
      · intro x hx
        have := b5 x hx
        exact ⟨this.1, opn_9 hG t1 this.1 this.2⟩
      · rintro _ μ2 ⟨c1, c2, c3, c4, c5⟩
        refine ⟨c1, ?_, fun k h1 h2 => (c3 k h2).trans (a2 k h1), fun a h1 h2 h3 => (c4 a h1 h2).trans (a3 a h1 h3), c5.trans a4⟩
        rw [← a2 22 (by omega)]
        exact c2
  · have e : (lead w u && uAt w u 98) = false := by
      rw [Bool.and_eq_false_iff]
      cases q1 : lead w u
      · exact Or.inl rfl
      · cases q2 : uAt w u 98
        · exact Or.inr rfl
        · exact absurd ⟨q1, q2⟩ c
    rw [e, t_brT (by decide), t_ret, if_neg c]
    exact ⟨hW, rfl, fun _ _ _ => rfl, fun _ _ _ _ => rfl, rfl⟩
/-- behind the first units, on the reference's side -/
def VdP (w : Nat → Nat) (cr : Nat → Bool) (way u : Nat) (μ0 μ : sm_Mem) : Prop := (∃ wr, EqR u (day cr way w u).1 wr ∧ WH 147 wr μ) ∧ μ.1 146 22 = nI (pSum w (day cr way w u).2 (fun _ => 1)) ∧ (∀ k, k ≠ 19 → k ≠ 22 → μ.1 146 k = μ0.1 146 k) ∧ (∀ a, a ≠ 146 → a ≠ 147 → (a < 153 ∨ 157 ≤ a) → μ.1 a = μ0.1 a) ∧ μ.2 = μ0.2
theorem vd_L {w : Nat → Nat} (hG : Good w) {way : Nat} (hw : way < 4) {cr : Nat → Bool} {cm : Int32} (hcm : ∀ s, s < w 3 → bt cm s = cr s) {Q : Int32 → sm_Mem → Prop} {μ0 : sm_Mem} (ex : ∀ μ, VdP w cr way (w 4) μ0 μ → T (fnX12_runOf_J95 146) μ Q) :
    ∀ (f u : Nat) (μ : sm_Mem), w 4 - u < f → u ≤ w 4 → VdP w cr way u μ0 μ → T (fnX12_runOf_L71 f 146 (nI way) cm (nI u)) μ Q := by
  have n := hG.1
  intro f
  induction f with
  | zero =>
    intro u μ h
    omega
  | succ f ih =>
    intro u μ hf hu hP
    obtain ⟨⟨wr, hE, hW⟩, p2, p3, p4, p5⟩ := id hP
    obtain ⟨hs, hg, h3⟩ := day_good (cr := cr) (way := way) (good_q hG) u hu
    obtain ⟨q1, -, -⟩ := eqR_same hE
    have w4 := hs.1 4 (by omega)
    have w3 := hs.1 3 (by omega)
    have r4 := q1.1 4 (by omega)
    have r3 := q1.1 3 (by omega)
    unfold fnX12_runOf_L71
    rw [t_bnd, t_eq (units12 hW), r4, w4]
    by_cases c1 : w 4 ≤ u
    · have : u = w 4 := by omega
      subst this
      rw [t_brT (nI_le c1 (by omega))]
      exact ex μ hP
    · rw [t_brF (nI_ge (by omega) (by omega)), t_bnd]
      refine t_mono (vent_T (eqR_good hE hg) (show u < wr 4 by omega) hw (cr := cr) (fun s hs' => hcm s (by omega)) hW) ?_
      rintro _ μ1 ⟨a1, a2, a3, a4, a5⟩
      rw [nI_1]
      obtain ⟨e1, e2⟩ := step_rel (cr := cr) (way := way) hE hg (show u < (day cr way w u).1 4 by omega)
      have s5 := (same_tr hs q1).2.2 u 5 (by omega) (by omega)
      rw [show 185 + 7 * u + 5 = 190 + 7 * u by omega] at s5
      refine ih (u + 1) μ1 (by omega) (by omega) ⟨⟨_, e1, a1⟩, ?_, fun k h1 h2 => (a3 k h1 h2).trans (p3 k h1 h2), fun a h1 h2 h4 => (a4 a h1 h2 h4).trans (p4 a h1 h2 h4), a5.trans p5⟩
      rw [a2, s5, ← e2, p2]
      cases hz : (wdS cr way (day cr way w u).1 u).2
      · have e : (day cr way w (u + 1)).2 = (day cr way w u).2 := by
          funext k
          show ((day cr way w u).2 k || (decide (k = u) && (wdS cr way (day cr way w u).1 u).2)) = _
          rw [hz, Bool.and_false, Bool.or_false]
        rw [e]
        rfl
      · have hlw : lead w u = true := by
          rw [← same_lead hs (show u < 8 by omega)]
          cases ql : lead (day cr way w u).1 u
          · unfold wdS at hz
            rw [if_neg (by rw [ql]; simp)] at hz
            cases hz
          · rfl
        have e : (day cr way w (u + 1)).2 = fun k => (day cr way w u).2 k || decide (k = u) := by
          funext k
          show ((day cr way w u).2 k || (decide (k = u) && (wdS cr way (day cr way w u).1 u).2)) = _
          rw [hz, Bool.and_true]
        have sa := sum_add hG (show u < w 4 by omega) hlw h3 (fun _ => 1)
        rw [e, if_pos rfl, nI_add]
        congr 1
        unfold pSum
        rw [sa]
        rcases hand_cases hG (show u < w 4 by omega) with q | ⟨q, -⟩
        · rw [if_pos q, if_pos q]
        · rw [if_neg q, if_neg q]
