/-! ===== CHANCES: the reference ===== -/
theorem on12 {w : Nat → Nat} {μ : sm_Mem} (hW : WH 147 w μ) (hG : Good w) {s wt v : Nat} (hs : s < w 3) (hw : wt < 100) (ho : opn w wt s = true) (hv : v ≤ 1000000000) : fnX12_on 146 (nI s) (nI wt) (lN v) μ = some (lN (onv (rkW w wt) (dN w) s v), μ) := by
  have n := hG.1
  have g := hG.2.2.2.1 s hs
  have e6 : 10 + 7 * s + 6 = 16 + 7 * s := by omega
  have e4 : 10 + 7 * s + 4 = 14 + 7 * s := by omega
  unfold fnX12_on
  rw [e_b (isInDoubt12 hW hG hs)]
  cases hd : dbt w s
  · rw [e_T (by decide)]
    have : rkW w wt s = false := by
      unfold rkW
      rw [hd, Bool.false_and, Bool.and_false]
    unfold onv
    rw [this, if_neg (by decide)]
    rfl
  · rw [e_F (by decide), li_6, e_b (ofStone_eq hW (by omega) (by omega)), nI_add, e6]
    by_cases c : w (16 + 7 * s) + wt ≤ 1
    · rw [e_T (show nI (w (16 + 7 * s) + wt) ≤ (1 : Int32) from nI_le (b := 1) c (by omega))]
      have : rkW w wt s = false := by
        unfold rkW
        rw [decide_eq_false (show ¬ 1 < w (16 + 7 * s) + wt by omega), Bool.and_false, Bool.and_false]
      unfold onv
      rw [this, if_neg (by decide)]
      rfl
    · have hr : rkW w wt s = true := by
        unfold rkW
        rw [ho, hd, decide_eq_true (show 1 < w (16 + 7 * s) + wt by omega)]
        rfl
      have bnd : v * (100 - w (14 + 7 * s)) ≤ 1000000000 * 100 := Nat.mul_le_mul hv (by omega)
      rw [e_F (show ¬ nI (w (16 + 7 * s) + wt) ≤ (1 : Int32) from nI_ge (a := 1) (by omega) (by omega)), li_4, e_b (ofStone_eq hW (by omega) (by omega)), e4, li_100, pk_sub (by omega), nI_l (by omega), lN_mul, l100, pk_lDiv (by omega) (by omega) (by omega)]
      unfold onv dN
      rw [hr, if_pos rfl]
      rfl
theorem jmaxl_N {a b : Nat} (ha : a < 2 ^ 62) (hb : b < 2 ^ 62) : jmaxl (lN a) (lN b) = lN (max a b) := by
  unfold jmaxl
  by_cases c : b < a
  · rw [if_pos (by rw [fa_lt64, lN_I ha, lN_I hb]; omega), Nat.max_eq_left (by omega)]
  · rw [if_neg (by rw [fa_lt64, lN_I ha, lN_I hb]; omega), Nat.max_eq_right (by omega)]
/-- the reference's chances, and the rest as it was -/
def LH (w : Nat → Nat) (ch : Nat → Nat) (μ0 μ : sm_Mem) : Prop := μ.1 = μ0.1 ∧ μ.2.2 = μ0.2.2 ∧ (∀ a, a ≠ 167 → μ.2.1 a = μ0.2.1 a) ∧ ∀ s, s < w 3 → μ.2.1 167 s = lN (ch s) ∧ ch s ≤ 1000000000
def FrU (μ0 μ : sm_Mem) : Prop := μ.1 = μ0.1 ∧ μ.2.2 = μ0.2.2 ∧ ∀ a, a ≠ 167 → μ.2.1 a = μ0.2.1 a
theorem frU_rf (μ : sm_Mem) : FrU μ μ := ⟨rfl, rfl, fun _ _ => rfl⟩
theorem frU_tr {μ μ1 μ2 : sm_Mem} (h : FrU μ μ1) (h' : FrU μ1 μ2) : FrU μ μ2 := ⟨h'.1.trans h.1, h'.2.1.trans h.2.1, fun a q => (h'.2.2 a q).trans (h.2.2 a q)⟩
theorem wh_L {w : Nat → Nat} {μ μ1 : sm_Mem} (h : μ1.1 = μ.1) (hW : WH 147 w μ) : WH 147 w μ1 := by
  unfold WH
  rw [h]
  exact hW
theorem sure208 {w : Nat → Nat} (hG : Good w) {r : Nat} (hr9 : r ≤ 9) {ch : Nat → Nat} {μ0 μ : sm_Mem} (hW : WH 147 w μ0) (hH : LH w ch μ0 μ) : ∀ (f s v : Nat), w 3 - s < f → s ≤ w 3 → v ≤ 1000000000 → (∀ t, t < s → stp w t 99 r = true → ch t ≤ v) → (v = 0 ∨ ∃ t, t < w 3 ∧ stp w t 99 r = true ∧ v = ch t) →
    T (fnX12_sureOf_L208 f 146 (nI r) (lN v) (nI s)) μ (fun x μ' => (∃ v, x = lN v ∧ (∀ t, t < w 3 → stp w t 99 r = true → ch t ≤ v) ∧ (v = 0 ∨ ∃ t, t < w 3 ∧ stp w t 99 r = true ∧ v = ch t)) ∧ μ' = μ) := by
  have n := hG.1
  have hW1 : WH 147 w μ := wh_L hH.1 hW
  have w3 := wh_lo hW1 (i := 3) (by omega)
  have e_147 : ln 147 = 241 := rfl
  have e_167 : ln 167 = 25 := rfl
  intro f
  induction f with
  | zero =>
    intro s v h
    omega
  | succ f ih =>
    intro s v hf hs hv h1 h2
    unfold fnX12_sureOf_L208 fnX12_sureOf_J245
    rw [lk_146_1, lk_146_41, li_3, t_ai (by omega), w3]
    by_cases c : w 3 ≤ s
    · have : s = w 3 := by omega
      subst this
      rw [t_brT (nI_le c (by omega)), t_ret]
      exact ⟨⟨v, rfl, h1, h2⟩, rfl⟩
    · rw [t_brF (nI_ge (by omega) (by omega)), li_99, t_bnd, t_eq (isStep12 hW1 hG (Or.inl (by omega)) (Or.inr (Or.inr rfl)) (by omega)), nI_1]
      cases q : stp w s 99 r
      · rw [t_brT (by decide)]
        refine ih (s + 1) v (by omega) (by omega) hv ?_ h2
        intro t ht hst
        by_cases e : t = s
        · rw [e, q] at hst
          cases hst
        · exact h1 t (by omega) hst
      · obtain ⟨x1, x2⟩ := hH.2.2.2 s (by omega)
        rw [t_brF (by decide), t_al (by omega), x1, t_nm, jmaxl_N (by omega) (by omega)]
        refine ih (s + 1) (max v (ch s)) (by omega) (by omega) (by omega) ?_ ?_
        · intro t ht hst
          by_cases e : t = s
          · rw [e]
            omega
          · have := h1 t (by omega) hst
            omega
        · by_cases cm : ch s ≤ v
          · rw [Nat.max_eq_left cm]
            exact h2
          · rw [Nat.max_eq_right (by omega)]
            exact Or.inr ⟨s, by omega, q, rfl⟩
/-- so far no pair is better, or it is noted that one was -/
def DoneS (w : Nat → Nat) (r wt b : Nat) (ch : Nat → Nat) (s q : Nat) : Prop := b = 0 → ∀ s' q', s' < w 3 → q' < w 3 → (s' < s ∨ (s' = s ∧ q' < q)) → opn w wt s' = true → stp w q' s' r = true → onv (rkW w wt) (dN w) s' (ch q') ≤ ch s'
def PhS (w : Nat → Nat) (wt : Nat) (ch : Nat → Nat) : Nat := fb_sm (fun x => rnk (w 3) (rkW w wt) (dN w) (ch x)) (w 3)
def StS (w : Nat → Nat) (r wt : Nat) (ch : Nat → Nat) (μ0 μ : sm_Mem) : Prop := LH w ch μ0 μ ∧ ChI w (opn w wt) (rkW w wt) (dN w) r ch ∧ ∀ s, s < w 3 → opn w wt s = true → stp w 98 s r = true → onv (rkW w wt) (dN w) s 1000000000 ≤ ch s
theorem sm_b {f : Nat → Nat} {b : Nat} (h : ∀ k, f k ≤ b) : ∀ n, fb_sm f n ≤ n * b
  | 0 => Nat.zero_le _
  | n + 1 => by
    rw [fb_sm_succ, Nat.succ_mul]
    exact Nat.add_le_add (sm_b h n) (h n)
theorem phS_le {w : Nat → Nat} (hG : Good w) (wt : Nat) (ch : Nat → Nat) : PhS w wt ch ≤ 384 := by
  have a : PhS w wt ch ≤ w 3 * 16 := sm_b (fun k => fb_ct_le _ 16) (w 3)
  have n := hG.1
  omega
theorem stp_irr (w : Nat → Nat) (s r : Nat) : stp w s s r = false := by
  unfold stp
  exact decide_eq_false (fun z => z.1 rfl)
theorem sure96 {w : Nat → Nat} (hG : Good w) {r wt : Nat} (hr9 : r ≤ 9) (hw2 : wt < 100) {μ0 : sm_Mem} (hW : WH 147 w μ0) {k73 : Nat → Int32 → Int32 → Int32 → sm_M Int64} {k82 : Nat → Int32 → Int32 → Int32 → Int32 → sm_M Int64} {Q : Int64 → sm_Mem → Prop} {P0 s : Nat} (hs : s < w 3)
    (ex : ∀ (b : Nat) (ch : Nat → Nat) (μ : sm_Mem), b ≤ 1 → StS w r wt ch μ0 μ → P0 ≤ PhS w wt ch → (b = 1 → P0 < PhS w wt ch) → DoneS w r wt b ch (s + 1) 0 → T (k82 146 (nI r) (nI wt) (nI b) (nI (s + 1))) μ Q) :
    ∀ (f q b : Nat) (ch : Nat → Nat) (μ : sm_Mem), w 3 - q < f → q ≤ w 3 → b ≤ 1 → StS w r wt ch μ0 μ → P0 ≤ PhS w wt ch → (b = 1 → P0 < PhS w wt ch) → DoneS w r wt b ch s q → T (fnX12_sureOf_L96 k73 k82 f 146 (nI r) (nI wt) (nI b) (nI s) (nI q)) μ Q := by
  have n := hG.1
  have e_147 : ln 147 = 241 := rfl
  have e_167 : ln 167 = 25 := rfl
  have g := hG.2.2.2.1 s hs
  have lf9 : lf w s ≤ 9 := by
    unfold lf
    split
    · omega
    · split <;> omega
  have r4c := rk_4 hG wt
  intro f
  induction f with
  | zero =>
    intro q b ch μ h
    omega
  | succ f ih =>
    intro q b ch μ hf hq hb hH hP hP1 hD
    have hW1 : WH 147 w μ := wh_L hH.1.1 hW
    have w3 := wh_lo hW1 (i := 3) (by omega)
    unfold fnX12_sureOf_L96 fnX12_sureOf_J193 fnX12_sureOf_J187
    rw [lk_146_1, lk_146_41, li_3, t_ai (by omega), w3, nI_1, nI_1]
    by_cases c : w 3 ≤ q
    · rw [t_brT (nI_le c (by omega))]
      refine ex b ch μ hb hH hP hP1 ?_
      intro hb0 s' q' h1 h2 h3 h4 h5
      exact hD hb0 s' q' h1 h2 (by omega) h4 h5
    · rw [t_brF (nI_ge (by omega) (by omega)), t_bnd, t_eq (left12 hW1 hG hs)]
      by_cases c2 : lf w s < wt
      · rw [t_brT (nI_lt c2 (by omega))]
        refine ex b ch μ hb hH hP hP1 ?_
        intro hb0 s' q' h1 h2 h3 h4 h5
        by_cases ce : s' = s
        · rw [ce] at h4
          unfold opn at h4
          have := of_decide_eq_true h4
          omega
        · exact hD hb0 s' q' h1 h2 (by omega) h4 h5
      · have ho : opn w wt s = true := decide_eq_true (by omega)
        have nx : (stp w q s r = true → b = 0 → onv (rkW w wt) (dN w) s (ch q) ≤ ch s) → T (fnX12_sureOf_L96 k73 k82 f 146 (nI r) (nI wt) (nI b) (nI s) (nI (q + 1))) μ Q := by
          intro hh
          refine ih (q + 1) b ch μ (by omega) (by omega) hb hH hP hP1 ?_
          intro hb0 s' q' h1 h2 h3 h4 h5
          by_cases ce : s' = s ∧ q' = q
          · obtain ⟨c3, c4⟩ := ce
            rw [c3, c4]
            rw [c3, c4] at h5
            exact hh h5 hb0
          · exact hD hb0 s' q' h1 h2 (by omega) h4 h5
        rw [t_brF (nI_nlt (by omega) (by omega))]
        by_cases c3 : q = s
        · rw [t_brT (by rw [c3])]
          refine nx (fun z => ?_)
          rw [c3, stp_irr] at z
          cases z
        · rw [t_brF (fun z => c3 ((nI_eq (by omega) (by omega)).mp z)), t_bnd, t_eq (isStep12 hW1 hG (Or.inl (by omega)) (Or.inl hs) (by omega))]
          cases hst : stp w q s r
          · rw [t_brT (by decide)]
            refine nx (fun z => ?_)
            rw [hst] at z
            cases z
          · obtain ⟨x1, x2⟩ := hH.1.2.2.2 q (by omega)
            obtain ⟨y1, y2⟩ := hH.1.2.2.2 s hs
            have ol := on_le (rk := rkW w wt) (N := dN w) (s := s) (v := ch q)
            rw [t_brF (by decide), t_al (by omega), x1, t_bnd, t_eq (on12 hW1 hG hs hw2 ho x2), t_al (by omega), y1]
            by_cases c4 : ch s < onv (rkW w wt) (dN w) s (ch q)
            · rw [t_brT ((cmp_gt (by omega) (by omega)).mpr c4), t_al (by omega), x1, t_bnd, t_eq (on12 hW1 hG hs hw2 ho x2), t_sal (by omega)]
              obtain ⟨z1, z2, z3⟩ := chi_step r4c hH.2.1 hs (show q < w 3 by omega) ho hst c4
              have z2 : PhS w wt ch < PhS w wt (up ch s (onv (rkW w wt) (dN w) s (ch q))) := z2
              refine ih (q + 1) 1 (up ch s (onv (rkW w wt) (dN w) s (ch q))) _ (by omega) (by omega) (by omega) ⟨⟨hH.1.1, hH.1.2.1, ?_, ?_⟩, z1, ?_⟩ (by omega) (fun _ => by omega) (fun z => by omega)
              · intro a ha
                rw [← hH.1.2.2.1 a ha]
                simp (disch := omega) only [u2_ne, u2_a, u2_k, u2_at]
              · intro t ht
                by_cases ce : t = s
                · rw [ce, up_at]
                  exact ⟨(by simp (disch := omega) only [u2_ne, u2_a, u2_k, u2_at]), z3⟩
                · rw [up_ne ce]
                  obtain ⟨q1, q2⟩ := hH.1.2.2.2 t ht
                  refine ⟨?_, q2⟩
                  rw [← q1]
                  simp (disch := omega) only [u2_ne, u2_a, u2_k, u2_at]
              · intro t ht h1 h2
                have b1 := hH.2.2 t ht h1 h2
                by_cases ce : t = s
                · rw [ce] at b1 ⊢
                  rw [up_at]
                  omega
                · rw [up_ne ce]
                  exact b1
            · rw [t_brF (fun z => c4 ((cmp_gt (by omega) (by omega)).mp z))]
              exact nx (fun _ _ => by omega)
def ResS (w : Nat → Nat) (r wt : Nat) (μ0 : sm_Mem) (x : Int64) (μ' : sm_Mem) : Prop := x = lN (sureW w r wt) ∧ FrU μ0 μ'
theorem sure82 {w : Nat → Nat} (hG : Good w) {r wt : Nat} (hr9 : r ≤ 9) (hw2 : wt < 100) {μ0 : sm_Mem} (hW : WH 147 w μ0) {k73 : Nat → Int32 → Int32 → Int32 → sm_M Int64} {Q : Int64 → sm_Mem → Prop} {P0 : Nat}
    (ex : ∀ (b : Nat) (ch : Nat → Nat) (μ : sm_Mem), b ≤ 1 → StS w r wt ch μ0 μ → (b = 1 → P0 < PhS w wt ch) → DoneS w r wt b ch (w 3) 0 → T (k73 146 (nI r) (nI wt) (nI b)) μ Q) :
    ∀ (f s b : Nat) (ch : Nat → Nat) (μ : sm_Mem), w 3 - s < f → s ≤ w 3 → b ≤ 1 → StS w r wt ch μ0 μ → P0 ≤ PhS w wt ch → (b = 1 → P0 < PhS w wt ch) → DoneS w r wt b ch s 0 → T (fnX12_sureOf_L82 k73 f 146 (nI r) (nI wt) (nI b) (nI s)) μ Q := by
  have n := hG.1
  have e_147 : ln 147 = 241 := rfl
  intro f
  induction f with
  | zero =>
    intro s b ch μ h
    omega
  | succ f ih =>
    intro s b ch μ hf hs hb hH hP hP1 hD
    have hW1 : WH 147 w μ := wh_L hH.1.1 hW
    have w3 := wh_lo hW1 (i := 3) (by omega)
    unfold fnX12_sureOf_L82 fnX12_sureOf_J199
    rw [lk_146_1, li_3, t_ai (by omega), w3]
    by_cases c : w 3 ≤ s
    · have : s = w 3 := by omega
      subst this
      rw [t_brT (nI_le c (by omega))]
      exact ex b ch μ hb hH hP1 hD
    · rw [t_brF (nI_ge (by omega) (by omega)), li_0]
      exact sure96 hG hr9 hw2 hW (show s < w 3 by omega) (fun b ch μ h1 h2 h3 h4 h5 => ih (s + 1) b ch μ (by omega) (by omega) h1 h2 h3 h4 h5) 4096 0 b ch μ (by omega) (by omega) hb hH hP hP1 hD
theorem sure73 {w : Nat → Nat} (hG : Good w) {r wt : Nat} (hr9 : r ≤ 9) (hrw : ¬ w 1 ≤ r) (hw2 : wt < 100) {μ0 : sm_Mem} (hW : WH 147 w μ0) :
    ∀ (f b : Nat) (ch : Nat → Nat) (μ : sm_Mem), (if b = 0 then 0 else 386 - PhS w wt ch) < f → b ≤ 1 → StS w r wt ch μ0 μ → DoneS w r wt b ch (w 3) 0 → T (fnX12_sureOf_L73 f 146 (nI r) (nI wt) (nI b)) μ (ResS w r wt μ0) := by
  have n := hG.1
  intro f
  induction f with
  | zero =>
    intro b ch μ h
    omega
  | succ f ih =>
    intro b ch μ hf hb hH hD
    unfold fnX12_sureOf_L73 fnX12_sureOf_J202
    by_cases c : b = 0
    · rw [c, t_brT (show nI 0 = 0 from rfl)]
      refine t_mono (sure208 hG hr9 hW hH.1 4096 0 0 (by omega) (by omega) (by omega) (fun t h => by omega) (Or.inl rfl)) ?_
      rintro x μ1 ⟨⟨v, e, h1, h2⟩, rfl⟩
      have sp := sur_ref (rk_4 hG wt) hH.2.1 hH.2.2 (fun s q a1 a2 a3 a4 => hD c s q a1 a2 (Or.inl a1) a3 a4) h1 h2
      refine ⟨?_, hH.1.1, hH.1.2.1, hH.1.2.2.1⟩
      rw [e, sureW_eq hrw sp]
    · have : b = 1 := by omega
      subst this
      have pl := phS_le hG wt ch
      rw [if_neg (by decide)] at hf
      rw [t_brF (by decide), li_0]
      refine sure82 hG hr9 hw2 hW (P0 := PhS w wt ch) ?_ 4096 0 0 ch μ (by omega) (by omega) (by omega) hH (Nat.le_refl _) (fun z => by omega) (fun _ s' q' _ _ z => by omega)
      intro b' ch' μ' h1 h2 h3 h4
      have pl' := phS_le hG wt ch'
      refine ih b' ch' μ' ?_ h1 h2 h4
      by_cases cb : b' = 1
      · have := h3 cb
        rw [if_neg (by omega)]
        omega
      · rw [if_pos (by omega)]
        omega
theorem sure16 {w : Nat → Nat} (hG : Good w) {r wt : Nat} (hr9 : r ≤ 9) (hrw : ¬ w 1 ≤ r) (hw2 : wt < 100) {μ0 : sm_Mem} (hW : WH 147 w μ0) {ch : Nat → Nat} (hch : ∀ s, s < w 3 → ch s = if (opn w wt s && stp w 98 s r) = true then onv (rkW w wt) (dN w) s 1000000000 else 0) :
    ∀ (f s : Nat) (μ : sm_Mem), w 3 - s < f → s ≤ w 3 → FrU μ0 μ → (∀ t, t < s → μ.2.1 167 t = lN (ch t)) → T (fnX12_sureOf_L16 f 146 (nI r) (nI wt) (nI s)) μ (ResS w r wt μ0) := by
  have n := hG.1
  have e_147 : ln 147 = 241 := rfl
  have e_167 : ln 167 = 25 := rfl
  have e9 : (1000000000 : Int64) = lN 1000000000 := rfl
  have e0 : (0 : Int64) = lN 0 := rfl
  have lf9 : ∀ s, s < w 3 → lf w s ≤ 9 := by
    intro s hs
    have g := hG.2.2.2.1 s hs
    unfold lf
    split
    · omega
    · split <;> omega
  intro f
  induction f with
  | zero =>
    intro s μ h
    omega
  | succ f ih =>
    intro s μ hf hs hU hm
    have hW1 : WH 147 w μ := wh_L hU.1 hW
    have w3 := wh_lo hW1 (i := 3) (by omega)
    unfold fnX12_sureOf_L16 fnX12_sureOf_J71 fnX12_sureOf_J63 fnX12_sureOf_J64
    rw [lk_146_1, lk_146_41, li_3, t_ai (by omega), w3]
    by_cases c : w 3 ≤ s
    · rw [t_brT (nI_le c (by omega)), li_1]
      refine sure73 hG hr9 hrw hw2 hW 4096 1 ch μ ?_ (by omega) ⟨⟨hU.1, hU.2.1, hU.2.2, ?_⟩, chi_0 (rk_4 hG wt) hch, ?_⟩ (fun z => by omega)
      · have := phS_le hG wt ch
        rw [if_neg (by decide)]
        omega
      · intro t ht
        refine ⟨hm t (by omega), ?_⟩
        rw [hch t ht]
        split
        · exact on_le
        · omega
      · intro t ht h1 h2
        rw [hch t ht, h1, h2, if_pos (show (true && true) = true from rfl)]
        exact Nat.le_refl _
    · have hs' : s < w 3 := by omega
      have l9 := lf9 s hs'
      have st : ∀ v, ch s = v → T (m_sal 167 (nI s) (lN v) (fnX12_sureOf_L16 f 146 (nI r) (nI wt) (nI (s + 1)))) μ (ResS w r wt μ0) := by
        intro v hv
        rw [t_sal (by omega)]
        refine ih (s + 1) _ (by omega) (by omega) ⟨hU.1, hU.2.1, ?_⟩ ?_
        · intro a ha
          rw [← hU.2.2 a ha]
          simp (disch := omega) only [u2_ne, u2_a, u2_k, u2_at]
        · intro t ht
          by_cases ce : t = s
          · rw [ce, hv]
            simp (disch := omega) only [u2_ne, u2_a, u2_k, u2_at]
          · rw [← hm t (by omega)]
            simp (disch := omega) only [u2_ne, u2_a, u2_k, u2_at]
      have hc := hch s hs'
      rw [t_brF (nI_ge (by omega) (by omega)), t_bnd, t_eq (left12 hW1 hG hs'), nI_1, e9, e0]
      by_cases c2 : lf w s < wt
      · rw [t_brT (nI_lt c2 (by omega))]
        refine st 0 ?_
        have : opn w wt s = false := decide_eq_false (by omega)
        rw [this, Bool.false_and, if_neg (by decide)] at hc
        exact hc
      · have ho : opn w wt s = true := decide_eq_true (by omega)
        rw [t_brF (nI_nlt (by omega) (by omega)), li_98, t_bnd, t_eq (isStep12 hW1 hG (Or.inr (Or.inl rfl)) (Or.inl hs') (by omega))]
        rw [ho, Bool.true_and] at hc
        cases q : stp w 98 s r
        · rw [t_brT (by decide)]
          rw [q, if_neg (by decide)] at hc
          exact st 0 hc
        · rw [t_brF (by decide), t_bnd, t_eq (on12 hW1 hG hs' hw2 ho (Nat.le_refl _))]
          rw [q, if_pos rfl] at hc
          exact st _ hc
theorem sureOf12_T {w : Nat → Nat} (hG : Good w) {r wt : Nat} (hr9 : r ≤ 9) (hw2 : wt < 100) {μ : sm_Mem} (hW : WH 147 w μ) : T (fnX12_sureOf 146 (nI r) (nI wt)) μ (ResS w r wt μ) := by
  have n := hG.1
  have w1 : w 1 ≤ 12 := by
    rcases Nat.eq_zero_or_pos (w 0) with z | z
    · have := hG.2.1 z
      omega
    · have := hG.2.2.1 z
      omega
  have w1' := wh_lo hW (i := 1) (by omega)
  have e_147 : ln 147 = 241 := rfl
  unfold fnX12_sureOf
  rw [lk_146_1, li_1, t_ai (by omega), w1']
  by_cases c1 : w 1 ≤ r
  · rw [t_brF (nI_nlt c1 (by omega)), t_ret]
    have e : sureW w r wt = 1000000000 := by
      unfold sureW
      rw [if_pos c1]
    refine ⟨?_, frU_rf μ⟩
    rw [e]
    rfl
  · rw [t_brT (nI_lt (by omega) (by omega)), li_0]
    exact sure16 hG hr9 c1 hw2 hW (fun s _ => rfl) 4096 0 μ (by omega) (by omega) (frU_rf μ) (fun t h => by omega)
