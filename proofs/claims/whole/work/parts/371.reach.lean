/-! ===== REACH ===== -/
theorem rch_t {w : Nat → Nat} {op : Nat → Bool} {r s : Nat} : rch w op r s = true ↔ s < w 3 ∧ Rch w op r s := by
  unfold rch
  exact @decide_eq_true_iff _ (Classical.propDecidable _)
theorem rch_0 {w : Nat → Nat} {op : Nat → Bool} {r s : Nat} (hs : s < w 3) (ho : op s = true) (h : stp w 98 s r = true) : rch w op r s = true := rch_t.mpr ⟨hs, fun S h1 h2 => h1 s hs ho h⟩
theorem rch_s {w : Nat → Nat} {op : Nat → Bool} {r s t : Nat} (h : rch w op r s = true) (ht : t < w 3) (ho : op t = true) (hst : stp w s t r = true) : rch w op r t = true := by
  obtain ⟨a, b⟩ := rch_t.mp h
  exact rch_t.mpr ⟨ht, fun S h1 h2 => h2 s t (b S h1 h2) a ht ho hst⟩
/-- a set that begins with the near ones and is closed holds all; one of come-to stones no more -/
theorem rch_set {w : Nat → Nat} {op : Nat → Bool} {r : Nat} {R : Nat → Bool} (h1 : ∀ s, R s = true → rch w op r s = true) (h2 : ∀ s, s < w 3 → op s = true → stp w 98 s r = true → R s = true) (h3 : ∀ s t, s < w 3 → R s = true → t < w 3 → op t = true → stp w s t r = true → R t = true) (s : Nat) : R s = rch w op r s := by
  cases hR : R s
  · cases hr : rch w op r s
    · rfl
    · obtain ⟨a, b⟩ := rch_t.mp hr
      have := b (fun a => R a = true) h2 (fun a b ha a1 b1 b2 b3 => h3 a b a1 ha b1 b2 b3)
      rw [hR] at this
      exact this
  · rw [h1 s hR]
theorem openFor_L {c wt : Nat} {w : Nat → Nat} {μ : sm_Mem} (hR : RH 14 w μ) (hS : SH c w μ) (hc : isSc c) (hG : Good w) (hw : wt < 100) : ∀ f s, w 3 - s < f → s ≤ w 3 → fnX9_openFor_L4 f c (nI wt) (mk (opn w wt) s) (nI s) μ = some (mk (opn w wt) (w 3), μ) := by
  obtain ⟨k0, k2, k3, k4, l1, l2, l3⟩ := sc_lk hc
  have n := hG.1
  have r4 := hR.1.2.2.2.2.1
  intro f
  induction f with
  | zero =>
    intro p h
    omega
  | succ f ih =>
    intro s hf hs
    unfold fnX9_openFor_L4 fnX9_openFor_J30
    simp (disch := (first | assumption | omega)) only [m_gi, k0, r4, m_br, nI_leI, m_ret, m_bnd]
    by_cases q : w 3 ≤ s
    · have : s = w 3 := by omega
      rw [if_pos q, this]
    · have lfl := lf_le hG (s := s) (by omega)
      rw [if_neg q, leftOf_eq hR hS hc hG (by omega)]
      have hh := ih (s + 1) (by omega) (by omega)
      rw [mk_succ] at hh
      simp (disch := (first | assumption | omega)) only [m_br, nI_ltI, e_nm, nI_1]
      by_cases c1 : lf w s < wt
      · have : opn w wt s = false := by
          unfold opn
          exact decide_eq_false (by omega)
        rw [this, if_neg (by decide)] at hh
        rw [if_pos c1]
        exact hh
      · have : opn w wt s = true := by
          unfold opn
          exact decide_eq_true (by omega)
        rw [this, if_pos rfl] at hh
        rw [if_neg c1]
        exact hh
theorem openFor_eq {c wt : Nat} {w : Nat → Nat} {μ : sm_Mem} (hR : RH 14 w μ) (hS : SH c w μ) (hc : isSc c) (hG : Good w) (hw : wt < 100) : fnX9_openFor c (nI wt) μ = some (mk (opn w wt) (w 3), μ) := by
  have n := hG.1
  unfold fnX9_openFor
  exact openFor_L hR hS hc hG hw 4096 0 (by omega) (by omega)
theorem flood_L {w : Nat → Nat} {op : Nat → Bool} {r : Nat} {om : Int32} {μ : sm_Mem} (hL : LKS w μ) (hG : Good w) (hr : 1 ≤ r) (hr9 : r ≤ 9) (hom : ∀ i, i < 32 → bt om i = (decide (i < w 3) && op i)) :
    ∀ (f k : Nat) (R D : Int32), 24 - k < f → k ≤ 24 → (∀ i, i < 32 → bt R i = true → rch w op r i = true ∧ op i = true) → (∀ i, i < w 3 → op i = true → stp w 98 i r = true → bt R i = true) → (∀ i, i < 32 → bt D i = true → bt R i = true) → (∀ s t, s < 24 → bt R s = true → bt D s = false → t < w 3 → op t = true → stp w s t r = true → bt R t = true) → fb_ct (fun i => bt R i && !bt D i) 24 = k →
    fnX3_flood_L15 f 32 om (nI r) R D (nI k) μ = some (mk (rch w op r) (w 3), μ) := by
  have n := hG.1
  have e_35 : ln 35 = 240 := rfl
  have fin : ∀ R : Int32, (∀ i, i < 32 → bt R i = true → rch w op r i = true ∧ op i = true) → (∀ i, i < w 3 → op i = true → stp w 98 i r = true → bt R i = true) → (∀ s t, s < 24 → bt R s = true → t < w 3 → op t = true → stp w s t r = true → bt R t = true) → R = mk (rch w op r) (w 3) := by
    intro R h1 h2 h3
    apply b_ext
    intro i hi
    rw [bt_mk _ _ (by omega) i hi]
    have := rch_set (w := w) (op := op) (r := r) (R := fun s => decide (s < 32) && bt R s) (fun s hs => by
      simp only [Bool.and_eq_true, decide_eq_true_eq] at hs
      exact (h1 s hs.1 hs.2).1) (fun s a b c => by
      simp only [Bool.and_eq_true, decide_eq_true_eq]
      exact ⟨by omega, h2 s a b c⟩) (fun s t a b c d e => by
      simp only [Bool.and_eq_true, decide_eq_true_eq] at b ⊢
      exact ⟨by omega, h3 s t (by omega) b.2 c d e⟩) i
    simp only [hi, decide_true, Bool.true_and] at this
    rw [this]
    by_cases q : i < w 3
    · simp [q]
    · have : rch w op r i = false := by
        cases hq : rch w op r i
        · rfl
        · exact absurd (rch_t.mp hq).1 q
      rw [this]
      simp
  intro f
  induction f with
  | zero =>
    intro k R D h
    omega
  | succ f ih =>
    intro k R D hf hk h1 h2 h3 h4 h5
    unfold fnX3_flood_L15
    simp (disch := (first | assumption | omega)) only [m_br, li_24, nI_leI, m_ret]
    by_cases c : 24 ≤ k
    · rw [if_pos c]
      have hall : ∀ i, i < 24 → (bt R i && !bt D i) = true := fb_ct_all.mp (by omega)
      rw [← fin R h1 h2 (fun s t hs hR ht ho hst => h4 s t hs hR (by
        have := hall s hs
        simp only [Bool.and_eq_true, Bool.not_eq_true'] at this
        exact this.2) ht ho hst)]
    · rw [if_neg c]
      by_cases cD : D = 0
      · rw [if_pos cD]
        rw [← fin R h1 h2 (fun s t hs hR ht ho hst => h4 s t hs hR (by rw [cD]; exact b_0 s) ht ho hst)]
      · rw [if_neg cD]
        obtain ⟨s, hs, d1, d2⟩ := k_low cD
        have hRs := h3 s hs d1
        have hsw := (rch_t.mp (h1 s hs hRs).1).1
        simp (disch := (first | assumption | omega)) only [m_bnd, ntz_eq hs d1 d2, lk_32_2, pk_mul, nI_add]
        rw [e_ai (by omega)]
        simp only [e_nm, nI_1]
        have hcome : ∀ i, i < 32 → bt ((μ.1 35 (r * 24 + s) &&& om) &&& (R ^^^ (-1 : Int32))) i = (adw w r s i && op i && !bt R i) := by
          intro i hi
          rw [b_and, b_and, k_not _ hi, hom i hi, show r * 24 + s = 24 * r + s by omega, (hL r hr hr9 i hi).2.2 s (by omega)]
          unfold adw
          by_cases q : i < w 3
          · simp [q, hsw]
          · simp [q]
        generalize ((μ.1 35 (r * 24 + s) &&& om) &&& (R ^^^ (-1 : Int32))) = C at hcome
        have hD' : ∀ i, i < 32 → bt ((D &&& (D - (1 : Int32))) ||| C) i = ((bt D i && decide (i ≠ s)) || bt C i) := by
          intro i hi
          rw [b_or, k_clear hs d1 d2 hi]
        have hC1 : ∀ i, i < 32 → bt C i = true → (i < w 3 ∧ stp w s i r = true) ∧ op i = true ∧ bt R i = false := by
          intro i hi hc
          rw [hcome i hi] at hc
          unfold adw at hc
          simp only [Bool.and_eq_true, decide_eq_true_eq, Bool.not_eq_true'] at hc
          exact ⟨⟨hc.1.1.1.2, hc.1.1.2⟩, hc.1.2, hc.2⟩
        refine ih (k + 1) (R ||| C) _ (by omega) (by omega) ?_ ?_ ?_ ?_ ?_
        · intro i hi hb
          rw [b_or, Bool.or_eq_true] at hb
          rcases hb with hb | hb
          · exact h1 i hi hb
          · obtain ⟨⟨q1, q2⟩, q3, q4⟩ := hC1 i hi hb
            exact ⟨rch_s (h1 s hs hRs).1 q1 q3 q2, q3⟩
        · intro i hi ho hst
          rw [b_or, h2 i hi ho hst]
          rfl
        · intro i hi hb
          rw [hD' i hi, Bool.or_eq_true] at hb
          rw [b_or, Bool.or_eq_true]
          rcases hb with hb | hb
          · simp only [Bool.and_eq_true] at hb
            exact Or.inl (h3 i hi hb.1)
          · exact Or.inr hb
        · intro x t hx hb hd ht ho hst
          rw [hD' x (by omega)] at hd
          simp only [Bool.or_eq_false_iff] at hd
          rw [b_or, hd.2, Bool.or_false] at hb
          rw [b_or, Bool.or_eq_true]
          by_cases e : x = s
          · subst e
            cases hRt : bt R t
            · refine Or.inr ?_
              rw [hcome t (by omega), hRt]
              unfold adw
              simp [hsw, ht, ho, hst]
            · exact Or.inl rfl
          · refine Or.inl (h4 x t hx hb ?_ ht ho hst)
            have := hd.1
            simpa [e] using this
        · have e : fb_ct (fun i => bt (R ||| C) i && !bt ((D &&& (D - (1 : Int32))) ||| C) i) 24 = fb_ct (fun i => if i = s then true else (bt R i && !bt D i)) 24 := by
            apply fb_ct_cong
            intro i hi
            rw [b_or, hD' i (by omega)]
            by_cases e : i = s
            · subst e
              rw [if_pos rfl, hRs]
              have : bt C i = false := by
                cases hq : bt C i
                · rfl
                · have := (hC1 i (by omega) hq).2.2
                  rw [hRs] at this
                  cases this
              simp [this]
            · rw [if_neg e]
              cases hq : bt C i
              · simp [e]
              · have := (hC1 i (by omega) hq).2.2
                simp [this]
          rw [e]
          have u := fb_ct_upd (fun i => bt R i && !bt D i) true (i := s) (n := 24) (by omega)
          rw [h5] at u
          simp only [hRs, d1, Bool.not_true, Bool.and_false, if_true] at u
          simpa using u
theorem flood_eq {w : Nat → Nat} {op : Nat → Bool} {r : Nat} {om : Int32} {μ : sm_Mem} (hL : LKS w μ) (hG : Good w) (hr : 1 ≤ r) (hr9 : r ≤ 9) (hom : ∀ i, i < 32 → bt om i = (decide (i < w 3) && op i)) : fnX3_flood 32 om (nI r) μ = some (mk (rch w op r) (w 3), μ) := by
  have n := hG.1
  have e_33 : ln 33 = 10 := rfl
  have hb : ∀ i, i < 32 → bt (μ.1 33 r &&& om) i = (decide (i < w 3) && (stp w 98 i r && op i)) := by
    intro i hi
    rw [b_and, (hL r hr hr9 i hi).1, hom i hi]
    cases decide (i < w 3) <;> simp
  unfold fnX3_flood
  rw [lk_32_0, e_ai (by omega), e_nm]
  refine flood_L hL hG hr hr9 hom 4096 0 _ _ (by omega) (by omega) ?_ ?_ (fun _ _ h => h) ?_ ?_
  · intro i hi h
    rw [hb i hi] at h
    simp only [Bool.and_eq_true, decide_eq_true_eq] at h
    exact ⟨rch_0 h.1 h.2.2 h.2.1, h.2.2⟩
  · intro i hi ho hst
    rw [hb i (by omega), decide_eq_true hi, hst, ho]
    rfl
  · intro s t hs h1 h2
    rw [h1] at h2
    cases h2
  · apply fb_ct_zero.mpr
    intro k _
    cases bt (μ.1 33 r &&& om) k <;> rfl
theorem opn_hom {w : Nat → Nat} (hG : Good w) (wt : Nat) : ∀ i, i < 32 → bt (mk (opn w wt) (w 3)) i = (decide (i < w 3) && opn w wt i) := fun i hi => bt_mk _ _ (by have := hG.1; omega) i hi
/-! the reference's way of finding them -/
theorem reach60 {w : Nat → Nat} {μ : sm_Mem} (hW : WH 147 w μ) (hG : Good w) {k4 : Nat → Int32 → Int32 → Int32 → sm_M Int32} {k13 : Nat → Int32 → Int32 → Int32 → Int32 → sm_M Int32} {r s : Nat} (hr : r ≤ 9) (hs : s < w 3) {R v3 : Int32} : ∀ (f q : Nat) (b : Bool), w 3 - q < f → q ≤ w 3 → ∃ b', fnX12_reachOf_L60 k4 k13 f 146 (nI r) R v3 (nI s) (bI b) (nI q) μ = fnX12_reachOf_J111 k4 k13 146 (nI r) R v3 (nI s) (bI b') μ ∧ (b' = true ↔ b = true ∨ ∃ q', q ≤ q' ∧ q' < w 3 ∧ bt R q' = true ∧ stp w q' s r = true) := by
  have n := hG.1
  have e_147 : ln 147 = 241 := rfl
  have w3 := wh_lo hW (i := 3) (by omega)
  intro f
  induction f with
  | zero =>
    intro q b h
    omega
  | succ f ih =>
    intro q b hf hq
    unfold fnX12_reachOf_L60
    simp (disch := (first | assumption | omega)) only [lk_146_1, li_3, e_ai, w3, m_br, nI_leI]
    by_cases c : w 3 ≤ q
    · rw [if_pos c]
      exact ⟨b, rfl, fun h => Or.inl h, fun h => by
        rcases h with h | ⟨q', h1, h2, -⟩
        · exact h
        · omega⟩
    · rw [if_neg c]
      cases b
      · rw [if_pos (by decide)]
        simp only [m_br, k_t1 R (show q < 32 by omega)]
        by_cases c1 : bt R q = true
        · rw [if_pos c1]
          simp (disch := (first | assumption | omega)) only [m_bnd, isStep12 hW hG (a := q) (b := s) (r := r) (Or.inl (by omega)) (Or.inl hs) (by omega), m_br, bI_0]
          cases hst : stp w q s r
          · rw [if_pos rfl]
            obtain ⟨b', e, hb⟩ := ih (q + 1) false (by omega) (by omega)
            refine ⟨b', ?_, hb.trans ⟨fun h => ?_, fun h => ?_⟩⟩
            · unfold fnX12_reachOf_J102 fnX12_reachOf_J103
              rw [nI_1]
              exact e
            · rcases h with h | ⟨q', h1, h2, h3⟩
              · exact Or.inl h
              · exact Or.inr ⟨q', by omega, h2, h3⟩
            · rcases h with h | ⟨q', h1, h2, h3, h4⟩
              · exact Or.inl h
              · refine Or.inr ⟨q', ?_, h2, h3, h4⟩
                by_cases e : q' = q
                · subst e
                  rw [hst] at h4
                  cases h4
                · omega
          · rw [if_neg (by decide)]
            obtain ⟨b', e, hb⟩ := ih (q + 1) true (by omega) (by omega)
            refine ⟨b', ?_, hb.trans ⟨fun _ => Or.inr ⟨q, by omega, by omega, c1, hst⟩, fun _ => Or.inl rfl⟩⟩
            unfold fnX12_reachOf_J103
            rw [nI_1]
            exact e
        · rw [if_neg c1]
          obtain ⟨b', e, hb⟩ := ih (q + 1) false (by omega) (by omega)
          refine ⟨b', ?_, hb.trans ⟨fun h => ?_, fun h => ?_⟩⟩
          · unfold fnX12_reachOf_J102 fnX12_reachOf_J103
            rw [nI_1]
            exact e
          · rcases h with h | ⟨q', h1, h2, h3⟩
            · exact Or.inl h
            · exact Or.inr ⟨q', by omega, h2, h3⟩
          · rcases h with h | ⟨q', h1, h2, h3, h4⟩
            · exact Or.inl h
            · refine Or.inr ⟨q', ?_, h2, h3, h4⟩
              by_cases e : q' = q
              · subst e
                exact absurd h3 c1
              · omega
      · rw [if_neg (by decide)]
        exact ⟨true, rfl, fun _ => Or.inl rfl, fun _ => rfl⟩
theorem reach13 {w : Nat → Nat} {μ : sm_Mem} (hW : WH 147 w μ) (hG : Good w) {k4 : Nat → Int32 → Int32 → Int32 → sm_M Int32} {r : Nat} (hr : r ≤ 9) : ∀ (f s : Nat) (R : Int32) (m : Bool), w 3 - s < f → s ≤ w 3 → (∀ i, i < 32 → bt R i = true → rch w (opn w 1) r i = true) →
    ∃ R' m', fnX12_reachOf_L13 k4 f 146 (nI r) R (bI m) (nI s) μ = k4 146 (nI r) R' (bI m') μ ∧ (∀ i, i < 32 → bt R' i = true → rch w (opn w 1) r i = true) ∧ fb_ct (bt R) 24 ≤ fb_ct (bt R') 24 ∧ (m' = false → R' = R ∧ m = false ∧ ∀ t, s ≤ t → t < w 3 → bt R t = false → opn w 1 t = true → stp w 98 t r = false ∧ ∀ q, q < w 3 → bt R q = true → stp w q t r = false) ∧ (m' = true → m = true ∨ fb_ct (bt R) 24 < fb_ct (bt R') 24) := by
  have n := hG.1
  have e_147 : ln 147 = 241 := rfl
  have w3 := wh_lo hW (i := 3) (by omega)
  intro f
  induction f with
  | zero =>
    intro s R m h
    omega
  | succ f ih =>
    intro s R m hf hs hR
    unfold fnX12_reachOf_L13
    simp (disch := (first | assumption | omega)) only [lk_146_1, li_3, e_ai, w3, m_br, nI_leI]
    by_cases c : w 3 ≤ s
    · rw [if_pos c]
      exact ⟨R, m, rfl, hR, Nat.le_refl _, fun h => ⟨rfl, h, fun t h1 h2 => by omega⟩, fun h => Or.inl h⟩
    · rw [if_neg c]
      simp only [k_t1 R (show s < 32 by omega)]
      have i1 : w 3 - (s + 1) < f := by omega
      have i2 : s + 1 ≤ w 3 := by omega
      have skip : (bt R s = true ∨ opn w 1 s = false ∨ (stp w 98 s r = false ∧ ∀ q, q < w 3 → bt R q = true → stp w q s r = false)) → ∃ R' m', fnX12_reachOf_J128 k4 (fnX12_reachOf_L13 k4 f) 146 (nI r) R (bI m) (nI s) μ = k4 146 (nI r) R' (bI m') μ ∧ (∀ i, i < 32 → bt R' i = true → rch w (opn w 1) r i = true) ∧ fb_ct (bt R) 24 ≤ fb_ct (bt R') 24 ∧ (m' = false → R' = R ∧ m = false ∧ ∀ t, s ≤ t → t < w 3 → bt R t = false → opn w 1 t = true → stp w 98 t r = false ∧ ∀ q, q < w 3 → bt R q = true → stp w q t r = false) ∧ (m' = true → m = true ∨ fb_ct (bt R) 24 < fb_ct (bt R') 24) := by
        intro hsk
        obtain ⟨R', m', e, a1, a2, a3, a4⟩ := ih (s + 1) R m (by omega) (by omega) hR
        refine ⟨R', m', ?_, a1, a2, fun h => ?_, a4⟩
        · unfold fnX12_reachOf_J128
          rw [nI_1]
          exact e
        · obtain ⟨b1, b2, b3⟩ := a3 h
          refine ⟨b1, b2, fun t h1 h2 h3 h4 => ?_⟩
          by_cases e : t = s
          · subst e
            rcases hsk with q | q | q
            · rw [h3] at q
              cases q
            · rw [h4] at q
              cases q
            · exact q
          · exact b3 t (by omega) h2 h3 h4
      by_cases c1 : bt R s = true
      · rw [if_pos c1]
        exact skip (Or.inl c1)
      · rw [if_neg c1]
        have lfl := lf_le hG (s := s) (by omega)
        simp (disch := (first | assumption | omega)) only [m_bnd, left12 hW hG (show s < w 3 by omega), m_br, li_0, nI_eq]
        by_cases c2 : lf w s = 0
        · rw [if_pos c2]
          refine skip (Or.inr (Or.inl ?_))
          unfold opn
          exact decide_eq_false (by omega)
        · rw [if_neg c2]
          have hop : opn w 1 s = true := by
            unfold opn
            exact decide_eq_true (by omega)
          simp (disch := (first | assumption | omega)) only [li_98, isStep12 hW hG (a := 98) (b := s) (r := r) (Or.inr (Or.inl rfl)) (Or.inl (show s < w 3 by omega)) (by omega)]
          obtain ⟨b', e', hb'⟩ := reach60 hW hG (k4 := k4) (k13 := fnX12_reachOf_L13 k4 f) hr (show s < w 3 by omega) (R := R) (v3 := bI m) 4096 0 (stp w 98 s r) (by omega) (by omega)
          rw [e']
          unfold fnX12_reachOf_J111
          simp only [m_br, bI_0]
          cases b'
          · rw [if_pos rfl]
            refine skip (Or.inr (Or.inr ⟨?_, ?_⟩))
            · cases hq : stp w 98 s r
              · rfl
              · exact absurd (hb'.mpr (Or.inl hq)) (by decide)
            · intro q hq hRq
              cases hst : stp w q s r
              · rfl
              · exact absurd (hb'.mpr (Or.inr ⟨q, by omega, hq, hRq, hst⟩)) (by decide)
          · rw [if_neg (by decide), e_nm]
            unfold fnX12_reachOf_J128
            rw [nI_1]
            have hnew : ∀ i, i < 32 → bt (R ||| ((1 : Int32) <<< (nI s &&& 31))) i = (bt R i || decide (i = s)) := by
              intro i hi
              rw [b_or, k_1 s (by omega) i hi]
            have hrs : rch w (opn w 1) r s = true := by
              rcases hb'.mp rfl with h | ⟨q, -, hq, hRq, hst⟩
              · exact rch_0 (by omega) hop h
              · exact rch_s (hR q (by omega) hRq) (by omega) hop hst
            obtain ⟨R', m', e, a1, a2, a3, a4⟩ := ih (s + 1) (R ||| ((1 : Int32) <<< (nI s &&& 31))) true i1 i2 (by
              intro i hi hb
              rw [hnew i hi, Bool.or_eq_true, decide_eq_true_eq] at hb
              rcases hb with hb | rfl
              · exact hR i hi hb
              · exact hrs)
            have hct : fb_ct (bt R) 24 < fb_ct (bt (R ||| ((1 : Int32) <<< (nI s &&& 31)))) 24 := by
              have e1 : fb_ct (bt (R ||| ((1 : Int32) <<< (nI s &&& 31)))) 24 = fb_ct (fun i => if i = s then true else bt R i) 24 := by
                apply fb_ct_cong
                intro i hi
                rw [hnew i (by omega)]
                by_cases e : i = s
                · simp [e]
                · simp [e]
              have u := fb_ct_upd (bt R) true (i := s) (n := 24) (by omega)
              have c1' : bt R s = false := by simpa using c1
              rw [c1'] at u
              simp only [Bool.false_eq_true, if_false, if_true, Nat.add_zero] at u
              rw [e1, u]
              exact Nat.lt_succ_self _
            refine ⟨R', m', e, a1, by omega, fun h => ?_, fun h => Or.inr (by omega)⟩
            have := (a3 h).2.1
            cases this
theorem reach4 {w : Nat → Nat} {μ : sm_Mem} (hW : WH 147 w μ) (hG : Good w) {r : Nat} (hr : r ≤ 9) : ∀ (f : Nat) (R : Int32), 25 - fb_ct (bt R) 24 < f → (∀ i, i < 32 → bt R i = true → rch w (opn w 1) r i = true) → fnX12_reachOf_L4 f 146 (nI r) R (bI true) μ = some (mk (rch w (opn w 1) r) (w 3), μ) := by
  have n := hG.1
  intro f
  induction f with
  | zero =>
    intro R h
    omega
  | succ f ih =>
    intro R hf hR
    have hle := fb_ct_le (bt R) 24
    unfold fnX12_reachOf_L4
    simp only [m_br]
    rw [if_neg (by decide)]
    obtain ⟨R', m', e, a1, a2, a3, a4⟩ := reach13 hW hG (k4 := fnX12_reachOf_L4 f) hr 4096 0 R false (by omega) (by omega) hR
    rw [show fnX12_reachOf_L13 (fnX12_reachOf_L4 f) 4096 146 (nI r) R (0 : Int32) (0 : Int32) μ = _ from e]
    cases m'
    · obtain ⟨rfl, -, b3⟩ := a3 rfl
      cases f with
      | zero => omega
      | succ f =>
        unfold fnX12_reachOf_L4
        simp only [m_br]
        rw [if_pos (by decide)]
        have : R' = mk (rch w (opn w 1) r) (w 3) := by
          apply b_ext
          intro i hi
          rw [bt_mk _ _ (by omega) i hi]
          have := rch_set (w := w) (op := opn w 1) (r := r) (R := fun s => decide (s < 32) && bt R' s) (fun s hs => by
            simp only [Bool.and_eq_true, decide_eq_true_eq] at hs
            exact hR s hs.1 hs.2) (fun s a b c => by
            simp only [Bool.and_eq_true, decide_eq_true_eq]
            refine ⟨by omega, ?_⟩
            cases hq : bt R' s
            · have := (b3 s (by omega) a hq b).1
              rw [c] at this
              cases this
            · rfl) (fun s t a b c d e => by
            simp only [Bool.and_eq_true, decide_eq_true_eq] at b ⊢
            refine ⟨by omega, ?_⟩
            cases hq : bt R' t
            · have := (b3 t (by omega) c hq d).2 s a b.2
              rw [e] at this
              cases this
            · rfl) i
          simp only [hi, decide_true, Bool.true_and] at this
          rw [this]
          by_cases q : i < w 3
          · simp [q]
          · have : rch w (opn w 1) r i = false := by
              cases hq : rch w (opn w 1) r i
              · rfl
              · exact absurd (rch_t.mp hq).1 q
            rw [this]
            simp
        rw [this]
        rfl
    · have : fb_ct (bt R) 24 < fb_ct (bt R') 24 := by
        rcases a4 rfl with h | h
        · cases h
        · exact h
      exact ih R' (by omega) a1
theorem reachOf_eq {w : Nat → Nat} {μ : sm_Mem} (hW : WH 147 w μ) (hG : Good w) {r : Nat} (hr : r ≤ 9) : fnX12_reachOf 146 (nI r) μ = some (mk (rch w (opn w 1) r) (w 3), μ) := by
  unfold fnX12_reachOf
  exact reach4 hW hG hr 4096 0 (by omega) (fun i _ h => by rw [b_0] at h; cases h)
theorem op_reach (v : Int32) : op2 Inv (fnX11_reach 0 v) (fnX12_reach 146 v) := by
  apply op_ro
  rintro w μ ⟨hG, hR, hS, hW, hL, -⟩
  unfold fnX11_reach fnX12_reach
  simp only [m_bnd, isStride11 hR hG, isRiver12 hW hG, isStride12, m_br, bI_0, m_ret, lk_0_6, lk_0_8]
  cases h0 : decide (0 < w 0)
  · exact ⟨_, rfl, rfl⟩
  cases hr : rg v 1 9
  · exact ⟨_, rfl, rfl⟩
  obtain ⟨r, h1, h2, rfl⟩ := rg_nat (a := 1) (b := 9) hr (by omega)
  simp (disch := (first | assumption | omega)) only [li_1, openFor_eq hR hS sc_24 hG, flood_eq hL hG h1 h2 (opn_hom hG 1), reachOf_eq hW hG h2]
  exact ⟨_, rfl, rfl⟩
