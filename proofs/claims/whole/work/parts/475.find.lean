/-! ===== ORDERS: the component finds the best ===== -/
def wtP (w : Nat → Nat) (u : Nat) : Bool := lead w u && uAt w u 98
theorem filt_len {P : Nat → Bool} : ∀ n, ((List.range n).filter P).length = fb_ct P n := by
  intro n
  induction n with
  | zero => rfl
  | succ n ih =>
    rw [List.range_succ, List.filter_append, List.length_append, ih, fb_ct_succ]
    cases h : P n
    · rw [List.filter_cons_of_neg (by rw [h]; decide)]
      rfl
    · rw [List.filter_cons_of_pos h]
      rfl
theorem filt_s {P : Nat → Bool} (n : Nat) : (List.range (n + 1)).filter P = (List.range n).filter P ++ (if P n = true then [n] else []) := by
  rw [List.range_succ, List.filter_append]
  cases h : P n
  · rw [List.filter_cons_of_neg (by rw [h]; decide), if_neg (by decide)]
    rfl
  · rw [List.filter_cons_of_pos h, if_pos rfl]
    rfl
theorem filt_mem {P : Nat → Bool} {n u : Nat} : u ∈ (List.range n).filter P ↔ u < n ∧ P u = true := by
  rw [List.mem_filter, List.mem_range]
theorem filt_sorted {P : Nat → Bool} {n : Nat} : ((List.range n).filter P).Pairwise (· < ·) := List.pairwise_lt_range.filter P
section
variable {w : Nat → Nat} {way : Nat}
theorem wt_sorted : (waiting w).Pairwise (· < ·) := filt_sorted
theorem wt_nodup : (waiting w).Nodup := by
  refine wt_sorted.imp ?_
  intro a b h
  omega
theorem wt_mem {u : Nat} : u ∈ waiting w ↔ u < w 4 ∧ lead w u = true ∧ uAt w u 98 = true := by
  unfold waiting
  rw [filt_mem, Bool.and_eq_true]
theorem wt_uok : Uok w (waiting w) := ⟨wt_nodup, fun u hu => wt_mem.mp hu⟩
theorem wt_len (hG : Good w) : (waiting w).length ≤ 8 := by
  have := hG.1
  unfold waiting
  rw [filt_len]
  have := fb_ct_le (fun u => lead w u && uAt w u 98) (w 4)
  omega
theorem wt_mh (hG : Good w) : MH (waiting w) (mk (wtP w) (w 4)) := by
  have n := hG.1
  intro i hi
  rw [bt_mk _ _ (by omega) i hi]
  show _ = decide (i ∈ (List.range (w 4)).filter (wtP w))
  by_cases c : i < w 4 ∧ wtP w i = true
  · rw [decide_eq_true c.1, c.2, decide_eq_true (filt_mem.mpr c)]
    rfl
  · rw [decide_eq_false (fun z => c (filt_mem.mp z))]
    cases h : decide (i < w 4)
    · rfl
    · cases h2 : wtP w i
      · rfl
      · exact absurd ⟨of_decide_eq_true h, h2⟩ c
theorem perm_ne : ∀ (n : Nat) (L : List Nat), L.length = n → ∃ q, q ∈ permsF n L := by
  intro n
  induction n with
  | zero => intro L _; exact ⟨[], List.mem_singleton.mpr rfl⟩
  | succ n ih =>
    intro L hL
    cases L with
    | nil => cases hL
    | cons x L =>
      obtain ⟨q, hq⟩ := ih ((x :: L).erase x) (by rw [List.length_erase_of_mem (List.mem_cons_self ..)]; omega)
      exact ⟨x :: q, permsF_s.mpr ⟨x, q, List.mem_cons_self .., hq, rfl⟩⟩
theorem fld_mem {S : List (List Nat)} : ∀ (ls : List (List Nat)) (b : Option ((Nat × Nat) × List Nat)), (∀ l, l ∈ ls → l ∈ S) → (∀ y, b = some y → y.2 ∈ S ∧ y.1 = ordOut w way y.2) → ∀ y, fld w way b ls = some y → y.2 ∈ S ∧ y.1 = ordOut w way y.2 := by
  intro ls
  induction ls with
  | nil => intro b _ hb y hy; exact hb y hy
  | cons l ls ih =>
    intro b hs hb y hy
    refine ih (ordPick w way b l) (fun l' h' => hs l' (List.mem_cons_of_mem _ h')) ?_ y hy
    intro y' hy'
    have hl := hs l (List.mem_cons_self ..)
    unfold ordPick at hy'
    cases b with
    | none =>
      cases hy'
      exact ⟨hl, rfl⟩
    | some y0 =>
      have hy' : (if better (ordOut w way l) y0.1 = true then some (ordOut w way l, l) else some y0) = some y' := hy'
      split at hy'
      · cases hy'
        exact ⟨hl, rfl⟩
      · exact hb y' hy'
theorem best_some : ∃ y, ordBest w way = some y ∧ y.2.length = (waiting w).length := by
  obtain ⟨q, hq⟩ := perm_ne (waiting w).length (waiting w) rfl
  obtain ⟨y, h1, _⟩ := fld_ge (w := w) (way := way) (permsF (waiting w).length (waiting w)) none q hq
  have h1 : ordBest w way = some y := h1
  refine ⟨y, h1, ?_⟩
  have := fld_mem (w := w) (way := way) (S := permsF (waiting w).length (waiting w)) (permsF (waiting w).length (waiting w)) none (fun l h => h) (fun y h => by cases h) y h1
  exact (perm_PO _ _ _ wt_nodup rfl this.1).1
/-- what the component holds of the best order -/
def Hld (w : Nat → Nat) (way : Nat) (μ : sm_Mem) : Prop := ∃ y, ordBest w way = some y ∧ y.2.length = (waiting w).length ∧ μ.1 42 0 = nI y.1.1 ∧ μ.1 42 1 = nI y.1.2 ∧ μ.1 42 7 = nI (waiting w).length ∧ μ.1 42 8 = nI way ∧ ∀ i, i < y.2.length → μ.1 45 i = nI (fnL y.2 i)
def FndP (w : Nat → Nat) (way : Nat) (μ : sm_Mem) (r : Bool) (μ' : sm_Mem) : Prop := r = decide ((waiting w).length ≤ 6) ∧ ((waiting w).length ≤ 6 → Hld w way μ') ∧ (¬ (waiting w).length ≤ 6 → μ'.1 42 8 = mI 1) ∧ (∀ a, (a < 36 ∨ 41 ≤ a) → (a < 42 ∨ 74 ≤ a) → μ'.1 a = μ.1 a) ∧ μ'.2 = μ.2
theorem oh_of {μ : sm_Mem} (hw : way < 4) {r : Bool} {μ0 : sm_Mem} (h : FndP w way μ0 r μ) : OH w μ := by
  by_cases c : (waiting w).length ≤ 6
  · obtain ⟨y, h1, h2, h3, h4, h5, h6, h7⟩ := h.2.1 c
    exact Or.inr ⟨way, y.1.1, y.1.2, y.2, hw, h6, c, h1, h2, by rw [h2]; exact h5, h3, h4, h7⟩
  · exact Or.inl (h.2.2.1 c)
theorem find63 (hG : Good w) (hw : way < 4) {μ : sm_Mem} (hR : RH 14 w μ) (hS : SH 24 w μ) (hL : LKS w μ) (h8 : ¬ (waiting w).length ≤ 6 → μ.1 42 8 = mI 1) : T (fnX5_find_J63 42 24 (nI way) (mk (wtP w) (w 4))) μ (fun r μ' => FndP w way μ r μ') := by
  have n := hG.1
  have e_43 : ln 43 = 7 := rfl
  have hlen := wt_len hG
  have ect : fb_ct (wtP w) (w 4) = (waiting w).length := filt_len (P := wtP w) (w 4) |>.symm
  unfold fnX5_find_J63
  rw [t_bnd, t_eq (bitCount_mk (by omega) μ), ect, t_si, t_gi]
  have x7 : (u2 μ.1 42 7 (nI (waiting w).length), μ.2).1 42 7 = nI (waiting w).length := (by simp (disch := omega) only [u2_ne, u2_a, u2_k, u2_at])
  have x8 : (u2 μ.1 42 7 (nI (waiting w).length), μ.2).1 42 8 = μ.1 42 8 := (by simp (disch := omega) only [u2_ne, u2_a, u2_k, u2_at])
  have xa : ∀ a, a ≠ 42 → (u2 μ.1 42 7 (nI (waiting w).length), μ.2).1 a = μ.1 a := fun a ha => (by simp (disch := omega) only [u2_ne, u2_a, u2_k, u2_at])
  have x2 : (u2 μ.1 42 7 (nI (waiting w).length), μ.2).2 = μ.2 := rfl
  rw [x7]
  revert x7 x8 xa x2
  generalize (u2 μ.1 42 7 (nI (waiting w).length), μ.2) = μ1
  intro x7 x8 xa x2
  by_cases c : (waiting w).length ≤ 6
  · rw [t_brT (show nI (waiting w).length ≤ (6 : Int32) from nI_le (b := 6) c (by omega)), t_si, t_si, lk_42_4]
    have H : ∀ μ2 : sm_Mem, μ2.1 42 0 = mI 1 → μ2.1 42 1 = mI 1 → μ2.1 42 7 = nI (waiting w).length → (∀ a, a ≠ 42 → μ2.1 a = μ1.1 a) → μ2.2 = μ1.2 → T (m_ap 43 (0 : Int32) fun x97 => m_bnd (fnX9_takeFrom x97 24) fun _ => m_bnd (fnX5_extend 8 42 (0 : Int32) (mk (wtP w) (w 4)) (nI way) (0 : Int32) (0 : Int32)) fun _ => m_si 42 8 (nI way) <| m_ret true) μ2 (fun r μ' => FndP w way μ r μ') := by
      intro μ2 a0 a1 a7 aa a2
      refine (t_ap (r := 43) (k := 0) (by omega)).mpr ?_
      rw [lk_43_0, t_bnd]
      refine t_mono (takeFrom9 (a := 46) (b := 24) (scK_of (sc_46 (d := 0) (by omega)).1) (scK_of sc_24) (by omega) hG (sh_fr (μ := μ) (fun a q1 q2 => (aa a (by omega)).trans (xa a (by omega))) hS)) ?_
      rintro _ μ3 ⟨b1, b2, b3⟩
      have k3 : ∀ a, a ≠ 42 → (a < 46 ∨ 50 ≤ a) → μ3.1 a = μ.1 a := fun a q1 q2 => (b2 a q2).trans ((aa a q1).trans (xa a q1))
      have hE : Ex w w none [] μ3 := ⟨rh_fr (fun a q1 q2 => k3 a (by omega) (by omega)) hR, lks_fr (fun a q1 q2 => k3 a (by omega) (by omega)) hL, b1, ⟨by rw [b2 42 (by omega)]; exact a0, by rw [b2 42 (by omega)]; exact a1⟩, fun i hi => by cases hi⟩
      rw [t_bnd]
      have X := ext_T hG hw (waiting w).length 8 (by omega) [] (waiting w) w 0 0 none (mk (wtP w) (w 4)) μ3 rfl (by rw [List.length_nil]; omega) wt_sorted (by rw [List.nil_append]; exact wt_uok) rfl (Nat.le_refl _) (Nat.zero_le _) hE (wt_mh hG)
      refine t_mono X ?_
      rintro _ μ4 ⟨c1, c2⟩
      have em : (permsF (waiting w).length (waiting w)).map (fun q => [] ++ q) = permsF (waiting w).length (waiting w) := by
        rw [show (fun q : List Nat => [] ++ q) = id from rfl, List.map_id]
      rw [em] at c1
      have c1 : BH (ordBest w way) μ4 := c1
      rw [t_si, t_ret]
      obtain ⟨y, y1, y2⟩ := best_some (w := w) (way := way)
      rw [y1] at c1
      obtain ⟨d0, d1, _, _, d5⟩ := c1
      refine ⟨(decide_eq_true c).symm, fun _ => ⟨y, y1, y2, ?_, ?_, ?_, ?_, fun i hi => ?_⟩, fun z => absurd c z, fun a q1 q2 => ?_, ?_⟩
      · rw [← d0]
        simp (disch := omega) only [u2_ne, u2_a, u2_k, u2_at]
      · rw [← d1]
        simp (disch := omega) only [u2_ne, u2_a, u2_k, u2_at]
      · rw [← a7, ← b2 42 (by omega), ← c2.1 7 (by omega) (by omega)]
        simp (disch := omega) only [u2_ne, u2_a, u2_k, u2_at]
      · simp (disch := omega) only [u2_ne, u2_a, u2_k, u2_at]
      · rw [← d5 i hi]
        simp (disch := omega) only [u2_ne, u2_a, u2_k, u2_at]
      · show u2 μ4.1 42 8 (nI way) a = _
        rw [u2_ne (show a ≠ 42 by omega), c2.2.2.1 a q1 (by omega) (by omega) (by omega) (by rw [List.length_nil]; omega)]
        exact k3 a (by omega) (by omega)
      · show μ4.2 = μ.2
        rw [c2.2.2.2, b3, a2, x2]
    exact H _ (by simp (disch := omega) only [u2_ne, u2_a, u2_k, u2_at]; rfl) (by simp (disch := omega) only [u2_ne, u2_a, u2_k, u2_at]; rfl) (by rw [← x7]; simp (disch := omega) only [u2_ne, u2_a, u2_k, u2_at]) (fun a ha => (by simp (disch := omega) only [u2_ne, u2_a, u2_k, u2_at])) rfl
  · rw [t_brF (show ¬ nI (waiting w).length ≤ (6 : Int32) from nI_ge (a := 6) (by omega) (by omega)), t_ret]
    refine ⟨(decide_eq_false c).symm, fun z => absurd z c, fun _ => by rw [x8]; exact h8 c, fun a q1 q2 => xa a (by omega), x2⟩
theorem find15 (hG : Good w) (hw : way < 4) {μ : sm_Mem} (hR : RH 14 w μ) (hS : SH 24 w μ) (hL : LKS w μ) (h8 : ¬ (waiting w).length ≤ 6 → μ.1 42 8 = mI 1) : ∀ f u, w 4 - u < f → u ≤ w 4 → T (fnX5_find_L15 f 42 24 (nI way) (mk (wtP w) u) (nI u)) μ (fun r μ' => FndP w way μ r μ') := by
  have n := hG.1
  intro f
  induction f with
  | zero => intro u h; omega
  | succ f ih =>
    intro u hf hu
    unfold fnX5_find_L15
    rw [lk_42_2, t_gi, hR.1.2.2.2.2.2]
    by_cases c : u = w 4
    · subst c
      rw [t_brT (nI_le (Nat.le_refl _) (by omega))]
      exact find63 hG hw hR hS hL h8
    · rw [t_brF (nI_ge (by omega) (by omega)), t_bnd, t_eq (isUnit7 hR hG (show u < w 4 by omega))]
      have next : ∀ x : Int32, x = mk (wtP w) (u + 1) → T (fnX5_find_J57 (fnX5_find_L15 f) 42 24 (nI way) x (nI u)) μ (fun r μ' => FndP w way μ r μ') := by
        intro x hx
        unfold fnX5_find_J57
        rw [nI_1, hx]
        exact ih (u + 1) (by omega) (by omega)
      cases h1 : lead w u
      · rw [t_brT (by decide)]
        refine next _ ?_
        rw [mk_succ, if_neg]
        unfold wtP
        rw [h1, Bool.false_and]
        decide
      · rw [t_brF (by decide), li_98, t_bnd, t_eq (isAt9 sc_24 hR hS hG (show u < w 4 by omega) (by omega))]
        cases h2 : uAt w u 98
        · rw [t_brT (by decide)]
          refine next _ ?_
          rw [mk_succ, if_neg]
          unfold wtP
          rw [h1, h2]
          decide
        · rw [t_brF (by decide), t_nm]
          refine next _ ?_
          rw [mk_succ, if_pos]
          unfold wtP
          rw [h1, h2]
          rfl
theorem find_T (hG : Good w) (hw : way < 4) {μ : sm_Mem} (hR : RH 14 w μ) (hS : SH 24 w μ) (hL : LKS w μ) (hO : OH w μ) : T (fnX5_find 42 24 (nI way)) μ (fun r μ' => FndP w way μ r μ') := by
  unfold fnX5_find
  rw [t_gi]
  have h8 : ¬ (waiting w).length ≤ 6 → μ.1 42 8 = mI 1 := by
    intro z
    rcases hO with h | ⟨y, m, v, l, h1, h2, h3, _⟩
    · exact h
    · exact absurd h3 z
  by_cases c : μ.1 42 8 = nI way
  · rw [t_brT c, t_ret]
    rcases hO with h | ⟨y, m, v, l, h1, h2, h3, h4, h5, h6, h7, h9, h10⟩
    · rw [h] at c
      exact absurd c (by
        intro z
        have := congrArg Int32.toInt z
        rw [nI_toInt (by omega)] at this
        have e : (mI 1).toInt = -1 := by decide
        omega)
    · rw [h2] at c
      have e : y = way := (nI_eq (by omega) (by omega)).mp c
      subst e
      exact ⟨(decide_eq_true h3).symm, fun _ => ⟨((m, v), l), h4, h5, h7, h9, by rw [← h5]; exact h6, h2, h10⟩, fun z => absurd h3 z, fun _ _ _ => rfl, rfl⟩
  · rw [t_brF c]
    exact find15 hG hw hR hS hL h8 4096 0 (by have := hG.1; omega) (Nat.zero_le _)
end
