/-! ===== THE REFERENCE: costs and what is left to go ===== -/
theorem fill85 {k56 : Nat → Int32 → Int32 → sm_M Unit} {Q : Unit → sm_Mem → Prop} {w : Nat → Nat} (hG : Good w) {p : Nat} {m : Nat → Bool} {b : Nat → Nat} {μ0 : sm_Mem} (hW : WH 147 w μ0) (hb : ∀ x, x < w 3 → b x < 1000)
    (ex : ∀ μ' : sm_Mem, (∀ a, a ≠ 153 → μ'.1 a = μ0.1 a) → μ'.2 = μ0.2 → (∀ x, x < w 3 → μ'.1 153 x = nI (b x + (if m x = true then 1 else 0))) → T (k56 146 (nI 1) (nI (p + 1))) μ' Q) :
    ∀ (f s : Nat) (μ : sm_Mem), w 3 - s < f → s ≤ w 3 → (∀ a, a ≠ 153 → μ.1 a = μ0.1 a) → μ.2 = μ0.2 → (∀ x, x < w 3 → μ.1 153 x = nI (b x + (if m x = true ∧ x < s then 1 else 0))) → T (fnX12_fillCosts_L85 k56 f 146 (nI 1) (nI p) (mk m (w 3)) (nI s)) μ Q := by
  have n := hG.1
  have e_147 : ln 147 = 241 := rfl
  have e_153 : ln 153 = 25 := rfl
  intro f
  induction f with
  | zero =>
    intro s μ h
    omega
  | succ f ih =>
    intro s μ hf hs ho h2 hx
    have w3 : μ.1 147 3 = nI (w 3) := by rw [ho 147 (by omega)]; exact wh_lo hW (by omega)
    unfold fnX12_fillCosts_L85
    rw [lk_146_1, li_3, t_ai (by omega), w3]
    by_cases c : w 3 ≤ s
    · have : s = w 3 := by omega
      subst this
      rw [t_brT (nI_le c (by omega))]
      unfold fnX12_fillCosts_J118
      rw [nI_1]
      refine ex μ ho h2 ?_
      intro x hx'
      rw [hx x hx']
      by_cases q : m x = true
      · rw [if_pos ⟨q, hx'⟩, if_pos q]
      · rw [if_neg (fun z => q z.1), if_neg q]
    · rw [t_brF (nI_ge (by omega) (by omega)), lk_146_15, t_ai (by omega), t_sai (by omega), hx s (by omega), k_test _ (by omega), bt_mk _ _ (by omega) s (by omega), nI_1]
      refine ih (s + 1) _ (by omega) (by omega) ?_ h2 ?_
      · intro a ha
        rw [← ho a ha]
        simp (disch := omega) only [u2_ne, u2_a, u2_k, u2_at]
      · intro x hx'
        by_cases e : x = s
        · subst e
          simp only [u2_at]
          rw [if_neg (by omega), Nat.add_zero, decide_eq_true hx', Bool.true_and]
          cases q : m x
          · rw [if_neg (by simp)]
            exact nI_add _ 0
          · rw [if_pos ⟨rfl, by omega⟩]
            exact nI_add _ 1
        · simp (disch := omega) only [u2_k]
          rw [hx x hx']
          by_cases q : m x = true ∧ x < s
          · rw [if_pos q, if_pos ⟨q.1, by omega⟩]
          · rw [if_neg q, if_neg (fun z => q ⟨z.1, by omega⟩)]
theorem fill56 {w : Nat → Nat} (hG : Good w) {way : Nat} (hw : way < 4) {b : Nat → Nat} (hb : ∀ x, x < w 3 → b x < 100) {μ0 : sm_Mem} (hW : WH 147 w μ0) :
    ∀ (f p : Nat) (μ : sm_Mem), w 4 - p < f → p ≤ w 4 → (∀ a, a ≠ 153 → μ.1 a = μ0.1 a) → μ.2 = μ0.2 → (∀ x, x < w 3 → μ.1 153 x = nI (b x + (if way = 1 then fb_ct (fun p => rch w (opn w 1) (w (185 + 7 * p)) x) p else 0))) →
    T (fnX12_fillCosts_L56 f 146 (nI way) (nI p)) μ (fun _ μ' => (∀ a, a ≠ 153 → μ'.1 a = μ0.1 a) ∧ μ'.2 = μ0.2 ∧ ∀ x, x < w 3 → μ'.1 153 x = nI (b x + (if way = 1 then crowd w x else 0))) := by
  have n := hG.1
  have e_147 : ln 147 = 241 := rfl
  intro f
  induction f with
  | zero =>
    intro p μ h
    omega
  | succ f ih =>
    intro p μ hf hp ho h2 hx
    have hW1 : WH 147 w μ := wh_fr (fun i _ => by rw [ho 147 (by omega)]) hW
    have w4 := wh_lo hW1 (i := 4) (by omega)
    unfold fnX12_fillCosts_L56
    rw [lk_146_1, li_4, t_ai (by omega), w4]
    by_cases c : w 4 ≤ p
    · have : p = w 4 := by omega
      subst this
      rw [t_brT (nI_le c (by omega)), t_ret]
      exact ⟨ho, h2, hx⟩
    · rw [t_brF (nI_ge (by omega) (by omega))]
      by_cases c1 : way = 1
      · subst c1
        have g := hG.2.2.2.2.2.2.2.1 p (by omega)
        have q0 := of_eq hW1 (p := p) (k := 0) (by omega) (by omega) (by omega)
        rw [Nat.add_zero] at q0
        rw [t_brT (show nI 1 = (1 : Int32) from rfl), li_0, t_bnd, t_eq q0, t_bnd, t_eq (reachOf_eq hW1 hG g.2.1)]
        refine fill85 hG (p := p) (m := rch w (opn w 1) (w (185 + 7 * p))) (b := fun x => b x + fb_ct (fun p => rch w (opn w 1) (w (185 + 7 * p)) x) p) (μ0 := μ) hW1 (fun x hx' => by
          have := hb x hx'
          have := fb_ct_le (fun p => rch w (opn w 1) (w (185 + 7 * p)) x) p
          show b x + _ < 1000
          omega) ?_ 4096 0 μ (by omega) (by omega) (fun _ _ => rfl) rfl ?_
        · intro μ1 a1 a2 a3
          refine ih (p + 1) μ1 (by omega) (by omega) (fun a ha => (a1 a ha).trans (ho a ha)) (a2.trans h2) ?_
          intro x hx'
          rw [a3 x hx', if_pos rfl, fb_ct_succ, Nat.add_assoc]
        · intro x hx'
          rw [hx x hx', if_pos rfl, if_neg (by omega), Nat.add_zero]
      · rw [t_brF (show ¬ nI way = (1 : Int32) by rw [li_1, nI_eq (by omega) (by omega)]; exact c1), t_ret]
        refine ⟨ho, h2, ?_⟩
        intro x hx'
        rw [hx x hx', if_neg c1, if_neg c1]
theorem fillCosts_L {w : Nat → Nat} (hG : Good w) {way : Nat} (hw : way < 4) {μ0 : sm_Mem} (hW : WH 147 w μ0) :
    ∀ (f s : Nat) (μ : sm_Mem), w 3 - s < f → s ≤ w 3 → (∀ a, a ≠ 153 → μ.1 a = μ0.1 a) → μ.2 = μ0.2 → (∀ x, x < s → μ.1 153 x = nI (if way = 2 then lf w x else if way = 3 then 10 - lf w x else 1)) →
    T (fnX12_fillCosts_L2 f 146 (nI way) (nI s)) μ (fun _ μ' => (∀ a, a ≠ 153 → μ'.1 a = μ0.1 a) ∧ μ'.2 = μ0.2 ∧ ∀ x, x < w 3 → μ'.1 153 x = nI (costW w way x)) := by
  have n := hG.1
  have e_147 : ln 147 = 241 := rfl
  have e_153 : ln 153 = 25 := rfl
  intro f
  induction f with
  | zero =>
    intro s μ h
    omega
  | succ f ih =>
    intro s μ hf hs ho h2 hx
    have hW1 : WH 147 w μ := wh_fr (fun i _ => by rw [ho 147 (by omega)]) hW
    have w3 := wh_lo hW1 (i := 3) (by omega)
    unfold fnX12_fillCosts_L2
    rw [lk_146_1, li_3, t_ai (by omega), w3]
    by_cases c : w 3 ≤ s
    · have : s = w 3 := by omega
      subst this
      rw [t_brT (nI_le c (by omega))]
      unfold fnX12_fillCosts_J54
      refine t_mono (fill56 hG hw (b := fun x => if way = 2 then lf w x else if way = 3 then 10 - lf w x else 1) (fun x hx' => by
        have := lf_le hG hx'
        repeat' split
        all_goals omega) hW 4096 0 μ (by omega) (by omega) ho h2 ?_) ?_
      · intro x hx'
        rw [hx x hx']
        by_cases c1 : way = 1
        · rw [if_pos c1]
          rfl
        · rw [if_neg c1, Nat.add_zero]
      · rintro - μ' ⟨a1, a2, a3⟩
        refine ⟨a1, a2, ?_⟩
        intro x hx'
        rw [a3 x hx']
        congr 1
        unfold costW
        repeat' split
        all_goals omega
    · have lfl := lf_le hG (s := s) (by omega)
      have lo := left12 hW1 hG (show s < w 3 by omega)
      have J : ∀ v : Nat, v = (if way = 2 then lf w s else if way = 3 then 10 - lf w s else 1) → T (fnX12_fillCosts_J47 (fnX12_fillCosts_L2 f) 146 (nI way) (nI s) (nI v) (nI s) 153) μ (fun _ μ' => (∀ a, a ≠ 153 → μ'.1 a = μ0.1 a) ∧ μ'.2 = μ0.2 ∧ ∀ x, x < w 3 → μ'.1 153 x = nI (costW w way x)) := by
        intro v hv
        unfold fnX12_fillCosts_J47
        rw [t_sai (by omega), nI_1]
        refine ih (s + 1) _ (by omega) (by omega) ?_ h2 ?_
        · intro a ha
          rw [← ho a ha]
          simp (disch := omega) only [u2_ne, u2_a, u2_k, u2_at]
        · intro x hx'
          by_cases e : x = s
          · subst e
            rw [← hv]
            simp (disch := omega) only [u2_ne, u2_a, u2_k, u2_at]
          · rw [← hx x (by omega)]
            simp (disch := omega) only [u2_ne, u2_a, u2_k, u2_at]
      rw [t_brF (nI_ge (by omega) (by omega)), lk_146_15]
      by_cases w2 : way = 2
      · rw [t_brT (by rw [w2]; rfl), t_bnd, t_eq lo]
        exact J _ (by rw [if_pos w2])
      · rw [t_brF (show ¬ nI way = (2 : Int32) by rw [li_2, nI_eq (by omega) (by omega)]; exact w2)]
        by_cases w3 : way = 3
        · rw [t_brT (by rw [w3]), t_bnd, t_eq lo, li_10, pk_sub (by omega)]
          exact J _ (by rw [if_neg w2, if_pos w3])
        · rw [t_brF (show ¬ nI way = nI 3 by rw [nI_eq (by omega) (by omega)]; exact w3), li_1]
          exact J 1 (by rw [if_neg w2, if_neg w3])
theorem fillCosts_T {w : Nat → Nat} (hG : Good w) {way : Nat} (hw : way < 4) {μ : sm_Mem} (hW : WH 147 w μ) : T (fnX12_fillCosts 146 (nI way)) μ (fun _ μ' => (∀ a, a ≠ 153 → μ'.1 a = μ.1 a) ∧ μ'.2 = μ.2 ∧ ∀ x, x < w 3 → μ'.1 153 x = nI (costW w way x)) := by
  have n := hG.1
  unfold fnX12_fillCosts
  exact fillCosts_L hG hw hW 4096 0 μ (by omega) (by omega) (fun _ _ => rfl) rfl (fun x hx => absurd hx (by omega))
theorem isLess_eq {a b c d : Nat} (ha : a < 2 ^ 30) (hb : b < 2 ^ 30) (hc : c < 2 ^ 30) (hd : d < 2 ^ 30) (μ : sm_Mem) : fnX12_isLess (nI a) (nI b) (nI c) (nI d) μ = some (decide (a < c ∨ (a = c ∧ b < d)), μ) := by
  unfold fnX12_isLess
  simp (disch := (first | assumption | omega)) only [m_br, m_ret, nI_ltI, nI_leI, nI_eq]
  by_cases c1 : a < c
  · rw [if_pos c1, decide_eq_true (Or.inl c1)]
  · rw [if_neg c1]
    by_cases c2 : a = c
    · rw [if_pos c2]
      by_cases c3 : d ≤ b
      · rw [if_pos c3, decide_eq_false (by omega)]
      · rw [if_neg c3, decide_eq_true (by omega)]
    · rw [if_neg c2, decide_eq_false (by omega)]
/-- the rows of sums in the memory -/
def CM (n : Nat) (g C M : Nat → Nat) (μ : sm_Mem) : Prop := ∀ x, x < n → μ.1 153 x = nI (g x) ∧ μ.1 154 x = nI (C x) ∧ μ.1 155 x = nI (M x)
theorem cm_up {n : Nat} {g C M : Nat → Nat} {μ : sm_Mem} (h : CM n g C M μ) (s a b : Nat) : CM n g (up C s a) (up M s b) (u2 (u2 μ.1 154 s (nI a)) 155 s (nI b), μ.2) := by
  intro x hx
  obtain ⟨h1, h2, h3⟩ := h x hx
  refine ⟨?_, ?_, ?_⟩
  · rw [← h1]
    simp (disch := omega) only [u2_ne, u2_a, u2_k, u2_at]
  · by_cases e : x = s
    · subst e
      rw [up_at]
      simp (disch := omega) only [u2_ne, u2_a, u2_k, u2_at]
    · rw [up_ne e, ← h2]
      simp (disch := omega) only [u2_ne, u2_a, u2_k, u2_at]
  · by_cases e : x = s
    · subst e
      rw [up_at]
      simp (disch := omega) only [u2_ne, u2_a, u2_k, u2_at]
    · rw [up_ne e, ← h3]
      simp (disch := omega) only [u2_ne, u2_a, u2_k, u2_at]
/-- frame of the passes -/
def FrL (μ0 μ : sm_Mem) : Prop := (∀ a, a ≠ 154 → a ≠ 155 → μ.1 a = μ0.1 a) ∧ μ.2 = μ0.2
/-- the inner loop: one stone over all its neighbours -/
theorem fill120 {k95 : Nat → Int32 → Int32 → Int32 → sm_M Unit} {k106 : Nat → Int32 → Int32 → Int32 → Int32 → sm_M Unit} {Q : Unit → sm_Mem → Prop} {w : Nat → Nat} (hG : Good w) {r wt s : Nat} (hr : r ≤ 9) (hwt : wt < 100) (hs : s < w 3) {goal : Nat → Bool} {g : Nat → Nat} (hg : ∀ x, x < w 3 → opn w wt x = true → 1 ≤ g x ∧ g x ≤ 10) (hg10 : ∀ x, x < w 3 → g x ≤ 10) {μ0 : sm_Mem} (hW : WH 147 w μ0) {C0 M0 : Nat → Nat} {b0 : Bool}
    (ex : ∀ (C M : Nat → Nat) (b : Bool) (μ' : sm_Mem), FrL μ0 μ' → CM (w 3) g C M μ' → BI (w 3) (opn w wt) goal (adw w r) g C M → (∀ x, x < w 3 → x ≠ s → C x = C0 x ∧ M x = M0 x) → (C0 s < 1000000 → C s < 1000000 ∧ 1024 * C s + M s ≤ 1024 * C0 s + M0 s) → (∀ q, q < w 3 → opn w wt s = true → adw w r s q = true → C0 q < 1000000 → C s < 1000000 ∧ 1024 * C s + M s ≤ 1024 * g s + 1 + (1024 * C0 q + M0 q)) → ((b = b0 ∧ C = C0 ∧ M = M0) ∨ (b = true ∧ C s < 1000000 ∧ (C0 s < 1000000 → 1024 * C s + M s < 1024 * C0 s + M0 s))) → T (k106 146 (nI r) (nI wt) (bI b) (nI (s + 1))) μ' Q) :
    ∀ (f q : Nat) (C M : Nat → Nat) (b : Bool) (μ : sm_Mem), w 3 - q < f → q ≤ w 3 → FrL μ0 μ → CM (w 3) g C M μ → BI (w 3) (opn w wt) goal (adw w r) g C M → (∀ x, x < w 3 → x ≠ s → C x = C0 x ∧ M x = M0 x) → (C0 s < 1000000 → C s < 1000000 ∧ 1024 * C s + M s ≤ 1024 * C0 s + M0 s) → (∀ q', q' < q → opn w wt s = true → adw w r s q' = true → C0 q' < 1000000 → C s < 1000000 ∧ 1024 * C s + M s ≤ 1024 * g s + 1 + (1024 * C0 q' + M0 q')) → ((b = b0 ∧ C = C0 ∧ M = M0) ∨ (b = true ∧ C s < 1000000 ∧ (C0 s < 1000000 → 1024 * C s + M s < 1024 * C0 s + M0 s))) →
    T (fnX12_fillLeft_L120 k95 k106 f 146 (nI r) (nI wt) (bI b) (nI s) (nI q)) μ Q := by
  have n := hG.1
  have e_147 : ln 147 = 241 := rfl
  have e_153 : ln 153 = 25 := rfl
  have e_154 : ln 154 = 25 := rfl
  have e_155 : ln 155 = 25 := rfl
  intro f
  induction f with
  | zero =>
    intro q C M b μ h
    omega
  | succ f ih =>
    intro q C M b μ hf hq fr cm bi h1 h2 h3 h4
    have hW1 : WH 147 w μ := wh_fr (fun i _ => by rw [fr.1 147 (by omega) (by omega)]) hW
    have w3 := wh_lo hW1 (i := 3) (by omega)
    have lfl := lf_le hG hs
    unfold fnX12_fillLeft_L120 fnX12_fillLeft_J267
    rw [lk_146_1, li_3, t_ai (by omega), w3, nI_1]
    by_cases c : w 3 ≤ q
    · rw [t_brT (nI_le c (by omega))]
      exact ex C M b μ fr cm bi h1 h2 (fun q' hq' => h3 q' (by omega)) h4
    rw [t_brF (nI_ge (by omega) (by omega)), t_bnd, t_eq (left12 hW1 hG hs)]
    by_cases c1 : lf w s < wt
    · rw [t_brT (nI_lt c1 (by omega))]
      refine ex C M b μ fr cm bi h1 h2 (fun q' hq' ho => ?_) h4
      unfold opn at ho
      have := of_decide_eq_true ho
      omega
    rw [t_brF (nI_nlt (by omega) (by omega))]
    have ho : opn w wt s = true := by
      unfold opn
      exact decide_eq_true ⟨hs, by omega⟩
    have gs := hg s hs ho
    have skip : ¬ (q ≠ s ∧ C q < 1000000 ∧ stp w s q r = true ∧ (g s + C q < C s ∨ (g s + C q = C s ∧ 1 + M q < M s))) → T (fnX12_fillLeft_J261 k95 k106 (fnX12_fillLeft_L120 k95 k106 f) 146 (nI r) (nI wt) (bI b) (nI s) (nI q)) μ Q := by
      intro hn
      unfold fnX12_fillLeft_J261
      rw [nI_1]
      refine ih (q + 1) C M b μ (by omega) (by omega) fr cm bi h1 h2 ?_ h4
      intro q' hq' ho' ha hF
      by_cases e : q' = q
      · subst e
        have hst : stp w s q' r = true := by
          unfold adw at ha
          simp only [Bool.and_eq_true] at ha
          exact ha.2
        have hne : q' ≠ s := by
          intro e
          subst e
          unfold stp at hst
          exact (of_decide_eq_true hst).1 rfl
        obtain ⟨y1, y2⟩ := h1 q' (by omega) hne
        have hFq : C q' < 1000000 := by rw [y1]; exact hF
        have hnl : ¬ (g s + C q' < C s ∨ (g s + C q' = C s ∧ 1 + M q' < M s)) := fun z => hn ⟨hne, hFq, hst, z⟩
        obtain ⟨q1, q2, q3, -⟩ := bi_fin n.1 bi (show q' < w 3 by omega) hFq
        have hFs : C s < 1000000 := by omega
        obtain ⟨s1, s2, s3, -⟩ := bi_fin n.1 bi hs hFs
        refine ⟨hFs, ?_⟩
        rw [← y1, ← y2]
        omega
      · exact h3 q' (by omega) ho' ha hF
    by_cases c2 : q = s
    · rw [t_brT (by rw [c2])]
      exact skip (fun z => z.1 c2)
    rw [t_brF (by rw [nI_eq (by omega) (by omega)]; exact c2), lk_146_16, t_ai (by omega), (cm q (by omega)).2.1]
    have cq : C q ≤ 1000000 := by
      rcases bi.1 q (by omega) with ⟨e, -⟩ | ⟨e, -⟩
      · omega
      · have := fb_ct_le (fun x => decide (C x < 1000000)) (w 3)
        omega
    by_cases c3 : 1000000 ≤ C q
    · rw [t_brT (show (1000000 : Int32) ≤ nI (C q) from nI_le (a := 1000000) c3 (by omega))]
      exact skip (fun z => by have := z.2.1; omega)
    rw [t_brF (show ¬ (1000000 : Int32) ≤ nI (C q) from nI_ge (b := 1000000) (by omega) (by omega)), t_bnd, t_eq (isStep12 hW1 hG (a := s) (b := q) (r := r) (Or.inl hs) (Or.inl (by omega)) (by omega))]
    cases hst : stp w s q r
    · rw [t_brT (by decide)]
      exact skip (fun z => by rw [hst] at z; cases z.2.2.1)
    rw [t_brF (by decide), lk_146_15, lk_146_17]
    rw [t_ai (show s < ln 153 by omega), t_ai (show q < ln 154 by omega), t_ai (show q < ln 155 by omega), t_ai (show s < ln 154 by omega), t_ai (show s < ln 155 by omega), (cm s hs).1, (cm s hs).2.1, (cm s hs).2.2, (cm q (by omega)).2.1, (cm q (by omega)).2.2, li_1, nI_add, nI_add]
    obtain ⟨q1, q2, q3, -⟩ := bi_fin n.1 bi (show q < w 3 by omega) (by omega)
    have cs : C s ≤ 1000000 ∧ M s ≤ 1000000 := by
      rcases bi.1 s hs with ⟨e, e'⟩ | ⟨e, e', -⟩
      · omega
      · have := fb_ct_le (fun x => decide (C x < 1000000)) (w 3)
        omega
    rw [t_bnd, t_eq (isLess_eq (by omega) (by omega) (by omega) (by omega) μ)]
    by_cases c4 : g s + C q < C s ∨ (g s + C q = C s ∧ 1 + M q < M s)
    · rw [decide_eq_true c4, t_brF (by decide), t_ai (show s < ln 153 by omega), t_ai (show q < ln 154 by omega), t_sai (show s < ln 154 by omega), t_ai (show q < ln 155 by omega), t_sai (show s < ln 155 by omega), (cm s hs).1, (cm q (by omega)).2.1]
      have mq : (u2 μ.1 154 s (nI (g s) + nI (C q)), μ.2).1 155 q = nI (M q) := by
        rw [← (cm q (by omega)).2.2]
        simp (disch := omega) only [u2_ne, u2_a, u2_k, u2_at]
      rw [mq, nI_add, nI_add]
      unfold fnX12_fillLeft_J261
      rw [nI_1]
      have ha : adw w r s q = true := by
        unfold adw
        rw [decide_eq_true ⟨hs, show q < w 3 by omega⟩, hst]
        rfl
      have hkey : C s < 1000000 → 1024 * (g s + C q) + (1 + M q) < 1024 * C s + M s := by
        intro hFs
        obtain ⟨s1, s2, s3, -⟩ := bi_fin n.1 bi hs hFs
        omega
      refine ih (q + 1) (up C s (g s + C q)) (up M s (1 + M q)) true _ (by omega) (by omega) ⟨fun a a1 a2 => by rw [← fr.1 a a1 a2]; simp (disch := omega) only [u2_ne, u2_a, u2_k, u2_at], fr.2⟩ (cm_up cm s _ _) (bi_step n.1 hg bi hs (by omega) ho ha (by omega) c4) ?_ ?_ ?_ ?_
      · intro x hx hne
        rw [up_ne hne, up_ne hne]
        exact h1 x hx hne
      · intro hF0
        rw [up_at, up_at]
        obtain ⟨a1, a2⟩ := h2 hF0
        have := hkey a1
        omega
      · intro q' hq' ho' ha' hF'
        rw [up_at, up_at]
        by_cases e : q' = q
        · subst e
          obtain ⟨y1, y2⟩ := h1 q' (by omega) c2
          rw [← y1, ← y2]
          omega
        · obtain ⟨a1, a2⟩ := h3 q' (by omega) ho' ha' hF'
          have := hkey a1
          omega
      · right
        refine ⟨rfl, by rw [up_at]; omega, fun hF0 => ?_⟩
        rw [up_at, up_at]
        obtain ⟨a1, a2⟩ := h2 hF0
        have := hkey a1
        omega
    · rw [decide_eq_false c4, t_brT (by decide)]
      exact skip (fun z => c4 z.2.2.2)
