/-! ===== A DAY WITH CRACKS: the component ===== -/
theorem drop_d {l : List Nat} {i : Nat} (h : i < l.length) : l.drop i = l.getD i 0 :: l.drop (i + 1) := by
  rw [List.drop_eq_getElem_cons h]
  congr 1
  rw [List.getD_eq_getElem?_getD, List.getElem?_eq_getElem h]
  rfl
theorem wade43 {c : Nat} (hc : isSc c) (hc2 : c + 4 ≤ 36 ∨ 38 ≤ c) {w : Nat → Nat} (hG : GoodQ w) {u : Nat} (hu : u < w 4) {l : List Nat} (hlen : l.length ≤ 24) {cr : Nat → Bool} {cm : Int32} (hcm : ∀ s, s < w 3 → bt cm s = cr s) {wt : Nat} {μ0 : sm_Mem} (hR : RH 14 w μ0) (h37 : ∀ i, i < l.length → μ0.1 37 i = nI (l.getD i 0)) :
    ∀ (f i : Nat) (w1 : Nat → Nat) (μ : sm_Mem), l.length - i < f → i ≤ l.length → Same w w1 → GoodQ w1 → (∀ x, x ∈ l.drop i → x < w 3 ∧ w1 (16 + 7 * x) + wt ≤ 9) → (l.drop i).Nodup → SH c w1 μ → (∀ a, (a < c ∨ c + 4 ≤ a) → μ.1 a = μ0.1 a) → μ.2 = μ0.2 →
    T (fnX0_wade_L43 f 41 c (nI u) cm (nI wt) (nI l.length) (nI i)) μ (fun x μ' => x = (wdR u (wkF cr wt (l.drop i) w1)).2 ∧ SH c (wdR u (wkF cr wt (l.drop i) w1)).1 μ' ∧ (∀ a, (a < c ∨ c + 4 ≤ a) → μ'.1 a = μ0.1 a) ∧ μ'.2 = μ0.2) := by
  obtain ⟨k0, k2, k3, k4, l1, l2, l3⟩ := sc_lk hc
  have n := hG.1
  have e_37 : ln 37 = 24 := rfl
  have e_17 : ln 17 = 24 := rfl
  have hcr : c + 4 ≤ 14 ∨ 24 ≤ c := by
    unfold isSc at hc
    simp only [List.mem_cons, List.not_mem_nil, or_false] at hc
    omega
  intro f
  induction f with
  | zero =>
    intro i w1 μ h
    omega
  | succ f ih =>
    intro i w1 μ hf hi hs hg hl hn hS ho h2
    have hR1 : RH 14 w1 μ := same_rhQ hs hG (rh_fr (fun a q1 q2 => ho a (by omega)) hR)
    have w3 := hs.1 3 (by omega)
    have w4 := hs.1 4 (by omega)
    unfold fnX0_wade_L43
    by_cases c1 : l.length ≤ i
    · have : i = l.length := by omega
      subst this
      rw [t_brT (nI_le c1 (by omega)), List.drop_length]
      unfold fnX0_wade_J123
      rw [li_99, t_bnd]
      refine t_mono (settle9Q (b := 99) hc hR1 hS hg (show u < w1 4 by omega)) ?_
      rintro _ μ1 ⟨a1, a2, a3⟩
      rw [t_ret]
      exact ⟨rfl, a1, fun a ha => (a2 a (by omega)).trans (ho a ha), a3.trans h2⟩
    · rw [drop_d (show i < l.length by omega)] at hl hn ⊢
      generalize hs0 : l.getD i 0 = s at hl hn ⊢
      obtain ⟨hs1, hs9⟩ := hl s (List.mem_cons_self ..)
      have hn' := List.nodup_cons.mp hn
      have g := hg.2.2.2.1 s (by omega)
      have x37 : μ.1 37 i = nI s := by
        rw [ho 37 (by omega), h37 i (by omega), hs0]
      have xb : μ.1 (c + 1) s = nI (w1 (16 + 7 * s)) := hS.2.1 s (by omega)
      have x17 : μ.1 17 s = nI (w1 (12 + 7 * s)) := (hR1.2.2.2.1 s (by omega)).2.2.1
      rw [t_brF (nI_ge (by omega) (by omega)), lk_41_0, lk_36_0, t_ai (by omega), x37, k2]
      have go : (cr s && decide (1 < w1 (16 + 7 * s) + wt)) = false → T (fnX0_wade_J105 (fnX0_wade_L43 f) 41 c (nI u) cm (nI wt) (nI l.length) (nI i) (nI s)) μ (fun x μ' => x = (wdR u (wkF cr wt (s :: l.drop (i + 1)) w1)).2 ∧ SH c (wdR u (wkF cr wt (s :: l.drop (i + 1)) w1)).1 μ' ∧ (∀ a, (a < c ∨ c + 4 ≤ a) → μ'.1 a = μ0.1 a) ∧ μ'.2 = μ0.2) := by
        intro hb
        obtain ⟨s1, g1⟩ := good_upQ hg (s := s) (v := w1 (16 + 7 * s) + wt) (by omega) (by omega)
        unfold fnX0_wade_J105
        rw [k2, t_ai (by omega), xb, nI_add, t_sai (by omega), nI_1, wkF, if_neg (by rw [hb]; decide)]
        refine ih (i + 1) _ _ (by omega) (by omega) (same_tr hs s1) g1 ?_ hn'.2 (sh_up16 (by omega) (by omega) (by omega) hS) ?_ h2
        · intro x hx
          have := hl x (List.mem_cons_of_mem _ hx)
          have ne : x ≠ s := fun z => hn'.1 (by rw [← z]; exact hx)
          rw [up_ne (by omega)]
          exact this
        · intro a ha
          rw [← ho a ha]
          simp (disch := omega) only [u2_ne, u2_a, u2_k, u2_at]
      cases hb : cr s
      · rw [t_brT ((k_t0 _ (by omega)).mpr (by rw [hcm s hs1]; exact hb))]
        exact go (by rw [hb]; rfl)
      · rw [t_brF (fun z => by rw [k_t0 _ (show s < 32 by omega), hcm s hs1, hb] at z; cases z), t_ai (by omega), xb, nI_add]
        by_cases c2 : w1 (16 + 7 * s) + wt ≤ 1
        · rw [t_brT (show nI (w1 (16 + 7 * s) + wt) ≤ (1 : Int32) from nI_le (b := 1) c2 (by omega))]
          exact go (by rw [decide_eq_false (by omega), Bool.and_false])
        · obtain ⟨s1, g1⟩ := good_upQ hg (s := s) (v := w1 (12 + 7 * s)) (by omega) (by omega)
          rw [t_brF (show ¬ nI (w1 (16 + 7 * s) + wt) ≤ (1 : Int32) from nI_ge (a := 1) (by omega) (by omega)), wkF, if_pos (by rw [hb, decide_eq_true (show 1 < w1 (16 + 7 * s) + wt by omega)]; rfl)]
          unfold fnX0_wade_J86
          rw [k0, k2, lk_14_10, t_ai (by omega), x17, t_sai (by omega), t_ret]
          have ho' : ∀ a, (a < c ∨ c + 4 ≤ a) → (u2 μ.1 (c + 1) s (nI (w1 (12 + 7 * s))), μ.2).1 a = μ0.1 a := by
            intro a ha
            rw [← ho a ha]
            simp (disch := omega) only [u2_ne, u2_a, u2_k, u2_at]
          have hSu := sh_up16 (s := s) (v := w1 (12 + 7 * s)) (show s < 24 by omega) (show w1 3 ≤ 24 by omega) (show w1 4 ≤ 8 by omega) hS
          exact ⟨rfl, hSu, ho', h2⟩
theorem wade_T {c : Nat} (hc : isSc c) {w : Nat → Nat} (hG : GoodQ w) {u way : Nat} (hu : u < w 4) (hw : way < 4) (hl : lead w u = true) (ha : uAt w u 98 = true) {cr : Nat → Bool} {cm : Int32} (hcm : ∀ s, s < w 3 → bt cm s = cr s) {μ : sm_Mem} (hR : RH 14 w μ) (hS : SH c w μ) (hL : LKS w μ) :
    T (fnX0_wade 41 c (nI u) (nI way) cm) μ (fun x μ' => x = (wdS cr way w u).2 ∧ SH c (wdS cr way w u).1 μ' ∧ (∀ a, (a < 36 ∨ 41 ≤ a) → (a < c ∨ c + 4 ≤ a) → μ'.1 a = μ.1 a) ∧ μ'.2 = μ.2) := by
  obtain ⟨k0, -⟩ := sc_lk hc
  have n := hG.1
  have hcc : c + 4 ≤ 36 ∨ 41 ≤ c := by
    unfold isSc at hc
    simp only [List.mem_cons, List.not_mem_nil, or_false] at hc
    omega
  have hcr : c + 4 ≤ 14 ∨ 24 ≤ c := by
    unfold isSc at hc
    simp only [List.mem_cons, List.not_mem_nil, or_false] at hc
    omega
  obtain ⟨s1, s2⟩ := uStr_rngQ hG hu
  obtain ⟨t1, t2⟩ := uWt_rngQ hG hu
  unfold fnX0_wade
  rw [k0, lk_41_0, t_bnd, t_eq (weightOf7Q hR hG hu), t_bnd, t_eq (strideOf7Q hR hG hu), li_98, t_bnd]
  refine t_mono (seek_TQ hc hG s1 s2 (by omega) hw (Or.inl rfl) hR hS hL) ?_
  rintro x μ1 ⟨a1, a2, a3⟩
  unfold wdS
  rw [if_pos ⟨hl, ha⟩]
  have S1 : SH c w μ1 := sh_fr (fun a q1 q2 => a2 a (by omega)) hS
  cases hf : findW w (uStr w u) (uSum w 1 u) way 98 with
  | none =>
    rw [hf] at a1
    have a1 : x = mI 1 := a1
    rw [a1, t_brF (by decide), t_ret]
    exact ⟨rfl, S1, fun a q _ => a2 a q, a3⟩
  | some l =>
    rw [hf] at a1
    obtain ⟨b1, b2, b3, b4, b5, b6⟩ := a1
    rw [b1, t_brT (show (0 : Int32) ≤ nI l.length from nI_le (a := 0) (by omega) (by omega)), li_0]
    refine t_mono (wade43 hc (by omega) hG hu b2 hcm (rh_fr (fun a q1 q2 => a2 a (by omega)) hR) b4 4096 0 w μ1 (by omega) (by omega) (same_rf w) hG ?_ b6 S1 (fun _ _ => rfl) rfl) ?_
    · intro x hx
      have := b5 x hx
      exact ⟨this.1, opn_9 hG t1 this.1 this.2⟩
    · rintro y μ2 ⟨c1, c2, c3, c4⟩
      exact ⟨c1, c2, fun a q1 q2 => (c3 a q2).trans (a2 a q1), c4.trans a3⟩
theorem wadeOver_L {c : Nat} (hc : isSc c) {w : Nat → Nat} (hG : Good w) {way : Nat} (hw : way < 4) {cr : Nat → Bool} {cm : Int32} (hcm : ∀ s, s < w 3 → bt cm s = cr s) {μ0 : sm_Mem} (hR : RH 14 w μ0) (hL : LKS w μ0) :
    ∀ (f u : Nat) (m : Int32) (μ : sm_Mem), w 4 - u < f → u ≤ w 4 → (∀ p, p < 32 → bt m p = ppl w (day cr way w u).2 p) → SH c (day cr way w u).1 μ → (∀ a, (a < 36 ∨ 41 ≤ a) → (a < c ∨ c + 4 ≤ a) → μ.1 a = μ0.1 a) → μ.2 = μ0.2 →
    T (fnX0_wadeOver_L6 f 41 c (nI way) cm m (nI u)) μ (fun x μ' => (∀ p, p < 32 → bt x p = ppl w (day cr way w (w 4)).2 p) ∧ SH c (day cr way w (w 4)).1 μ' ∧ (∀ a, (a < 36 ∨ 41 ≤ a) → (a < c ∨ c + 4 ≤ a) → μ'.1 a = μ0.1 a) ∧ μ'.2 = μ0.2) := by
  obtain ⟨k0, -, -, -, -, -, -⟩ := sc_lk hc
  have n := hG.1
  have hcr : (c + 4 ≤ 14 ∨ 24 ≤ c) ∧ (c + 4 ≤ 33 ∨ 36 ≤ c) := by
    unfold isSc at hc
    simp only [List.mem_cons, List.not_mem_nil, or_false] at hc
    omega
  intro f
  induction f with
  | zero =>
    intro u m μ h
    omega
  | succ f ih =>
    intro u m μ hf hu hm hS ho h2
    obtain ⟨hs, hg, -⟩ := day_good (cr := cr) (way := way) (good_q hG) u hu
    have hR1 : RH 14 (day cr way w u).1 μ := same_rh hs hG (rh_fr (fun a q1 q2 => ho a (by omega) (by omega)) hR)
    have hL1 : LKS (day cr way w u).1 μ := same_lks hs hG (lks_fr (fun a q1 q2 => ho a (by omega) (by omega)) hL)
    have w3 := hs.1 3 (by omega)
    have w4 := hs.1 4 (by omega)
    have r5 := hR1.1.2.2.2.2.2
    rw [w4] at r5
    unfold fnX0_wadeOver_L6
    rw [k0, t_gi, r5]
    by_cases c1 : w 4 ≤ u
    · have : u = w 4 := by omega
      subst this
      rw [t_brT (nI_le c1 (by omega)), t_ret]
      exact ⟨hm, hS, ho, h2⟩
    have hu' : u < (day cr way w u).1 4 := by omega
    have no : (wdS cr way (day cr way w u).1 u).2 = false → (day cr way w (u + 1)).2 = (day cr way w u).2 := by
      intro h
      funext k
      show ((day cr way w u).2 k || (decide (k = u) && (wdS cr way (day cr way w u).1 u).2)) = _
      rw [h, Bool.and_false, Bool.or_false]
    have step : ∀ μ1, (wdS cr way (day cr way w u).1 u).2 = false → SH c (wdS cr way (day cr way w u).1 u).1 μ1 → (∀ a, (a < 36 ∨ 41 ≤ a) → (a < c ∨ c + 4 ≤ a) → μ1.1 a = μ0.1 a) → μ1.2 = μ0.2 → T (fnX0_wadeOver_J67 (fnX0_wadeOver_L6 f) 41 c (nI way) cm m (nI u)) μ1 (fun x μ' => (∀ p, p < 32 → bt x p = ppl w (day cr way w (w 4)).2 p) ∧ SH c (day cr way w (w 4)).1 μ' ∧ (∀ a, (a < 36 ∨ 41 ≤ a) → (a < c ∨ c + 4 ≤ a) → μ'.1 a = μ0.1 a) ∧ μ'.2 = μ0.2) := by
      intro μ1 e1 e3 e4 e5
      unfold fnX0_wadeOver_J67
      rw [nI_1]
      exact ih (u + 1) m μ1 (by omega) (by omega) (by rw [no e1]; exact hm) e3 e4 e5
    have none_of : ¬ (lead (day cr way w u).1 u = true ∧ uAt (day cr way w u).1 u 98 = true) → wdS cr way (day cr way w u).1 u = ((day cr way w u).1, false) := by
      intro h
      unfold wdS
      rw [if_neg h]
    rw [t_brF (nI_ge (by omega) (by omega)), t_bnd, t_eq (isUnit7Q hR1 hg hu')]
    cases hl : lead (day cr way w u).1 u
    · have e := none_of (by rw [hl]; simp)
      rw [t_brT (by decide)]
      exact step μ (by rw [e]) (by rw [e]; exact hS) ho h2
    rw [t_brF (by decide), li_98, t_bnd, t_eq (isAt9Q hc hR1 hS hg hu' (by omega))]
    cases hat : uAt (day cr way w u).1 u 98
    · have e := none_of (by rw [hat]; simp)
      rw [t_brT (by decide)]
      exact step μ (by rw [e]) (by rw [e]; exact hS) ho h2
    rw [t_brF (by decide), t_bnd]
    refine t_mono (wade_T hc hg hu' hw hl hat (cr := cr) (cm := cm) (fun s hs' => hcm s (by omega)) hR1 hS hL1) ?_
    rintro x μ1 ⟨a1, a2, a3, a4⟩
    have fr1 : ∀ a, (a < 36 ∨ 41 ≤ a) → (a < c ∨ c + 4 ≤ a) → μ1.1 a = μ0.1 a := fun a h1 h3 => (a3 a h1 h3).trans (ho a h1 h3)
    cases hx : x
    · rw [hx] at a1
      rw [t_brT (by decide)]
      exact step μ1 a1.symm a2 fr1 (a4.trans h2)
    · rw [hx] at a1
      have hR2 : RH 14 w μ1 := rh_fr (fun a q1 q2 => fr1 a (by omega) (by omega)) hR
      obtain ⟨pm, p1, p2⟩ := peopleOf7 hR2 hG (show u < w 4 by omega)
      rw [t_brF (by decide), t_bnd, t_eq p1, t_nm]
      unfold fnX0_wadeOver_J67
      rw [nI_1]
      have hlw : lead w u = true := by
        rw [← same_lead hs (show u < 8 by omega)]
        exact hl
      have e1 : (day cr way w (u + 1)).2 = fun k => (day cr way w u).2 k || decide (k = u) := by
        funext k
        show ((day cr way w u).2 k || (decide (k = u) && (wdS cr way (day cr way w u).1 u).2)) = _
        rw [← a1, Bool.and_true]
      refine ih (u + 1) (m ||| pm) μ1 (by omega) (by omega) ?_ a2 fr1 (a4.trans h2)
      intro p hp
      rw [e1, ppl_add hG (show u < w 4 by omega) hlw hp, b_or, hm p hp, p2 p hp]
      congr 1
      apply decide_eq_decide.mpr
      rcases hand_cases hG (show u < w 4 by omega) with q | ⟨q1, q2, q3, q4⟩
      · omega
      · omega
