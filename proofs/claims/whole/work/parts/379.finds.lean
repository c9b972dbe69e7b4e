/-! ===== THE REFERENCE: the row ===== -/
/-- what a search leaves -/
def FindP (w : Nat → Nat) (r wt way bank : Nat) (x : Bool) (μ μ' : sm_Mem) : Prop := (match findW w r wt way bank with
    | none => x = false
    | some l => x = true ∧ l.length ≤ 24 ∧ μ'.1 146 19 = nI l.length ∧ (∀ i, i < l.length → μ'.1 156 i = nI (l.getD i 0)) ∧ (∀ x, x ∈ l → x < w 3 ∧ opn w wt x = true) ∧ l.Nodup) ∧ (∀ k, k ≠ 19 → μ'.1 146 k = μ.1 146 k) ∧ (∀ a, a ≠ 146 → (a < 153 ∨ 157 ≤ a) → μ'.1 a = μ.1 a) ∧ μ'.2 = μ.2
theorem finds174 {k141 : Nat → Int32 → Int32 → Int32 → sm_M Bool} {w : Nat → Nat} (hG : Good w) {r : Nat} (hr : r ≤ 9) {g C M : Nat → Nat} {s : Nat} (hs : s < w 3) (hb : ∀ x, x < w 3 → g x ≤ 10 ∧ C x ≤ 1000000 ∧ M x ≤ 1000000) {v5 : Int32} {μ : sm_Mem} (hW : WH 147 w μ) (cm : CM (w 3) g C M μ) :
    ∀ (f q : Nat) (v7 : Int32), w 3 - q < f → q ≤ w 3 → ((v7 = mI 1 ∧ ∀ x, x < q → 1 < M s → ¬ (x ≠ s ∧ C x < 1000000 ∧ stp w s x r = true ∧ g s + C x = C s ∧ 1 + M x = M s)) ∨ ∃ x, v7 = nI x ∧ x < w 3 ∧ 1 < M s ∧ (x ≠ s ∧ C x < 1000000 ∧ stp w s x r = true ∧ g s + C x = C s ∧ 1 + M x = M s) ∧ ∀ y, y < x → ¬ (y ≠ s ∧ C y < 1000000 ∧ stp w s y r = true ∧ g s + C y = C s ∧ 1 + M y = M s)) →
    ∃ v, fnX12_finds_L174 k141 f 146 (nI r) v5 (nI s) v7 (nI q) μ = k141 146 (nI r) v5 v μ ∧ ((v = mI 1 ∧ ∀ x, x < w 3 → 1 < M s → ¬ (x ≠ s ∧ C x < 1000000 ∧ stp w s x r = true ∧ g s + C x = C s ∧ 1 + M x = M s)) ∨ ∃ x, v = nI x ∧ x < w 3 ∧ 1 < M s ∧ (x ≠ s ∧ C x < 1000000 ∧ stp w s x r = true ∧ g s + C x = C s ∧ 1 + M x = M s) ∧ ∀ y, y < x → ¬ (y ≠ s ∧ C y < 1000000 ∧ stp w s y r = true ∧ g s + C y = C s ∧ 1 + M y = M s)) := by
  have n := hG.1
  have e_147 : ln 147 = 241 := rfl
  have e_153 : ln 153 = 25 := rfl
  have e_154 : ln 154 = 25 := rfl
  have e_155 : ln 155 = 25 := rfl
  have w3 := wh_lo hW (i := 3) (by omega)
  intro f
  induction f with
  | zero =>
    intro q v7 h
    omega
  | succ f ih =>
    intro q v7 hf hq hx
    unfold fnX12_finds_L174 fnX12_finds_J300
    rw [lk_146_1, li_3, e_ai (by omega), w3]
    by_cases c : w 3 ≤ q
    · have : q = w 3 := by omega
      subst this
      simp only [m_br]
      rw [if_pos (nI_le c (by omega))]
      exact ⟨v7, rfl, hx⟩
    have i1 : w 3 - (q + 1) < f := by omega
    have i2 : q + 1 ≤ w 3 := by omega
    simp only [m_br]
    rw [if_neg (nI_ge (by omega) (by omega))]
    rcases hx with ⟨e7, hx⟩ | ⟨x, e7, hx⟩
    · rw [if_pos (show v7 = (-1 : Int32) from e7), lk_146_17, e_ai (by omega), (cm s hs).2.2]
      have ms := (hb s hs).2.2
      simp only [m_br]
      by_cases c1 : M s ≤ 1
      · rw [if_pos (show nI (M s) ≤ (1 : Int32) from nI_le (b := 1) c1 (by omega))]
        exact ⟨v7, rfl, Or.inl ⟨e7, fun x _ h => absurd h (by omega)⟩⟩
      rw [if_neg (show ¬ nI (M s) ≤ (1 : Int32) from nI_ge (a := 1) (by omega) (by omega))]
      have no : ¬ (q ≠ s ∧ C q < 1000000 ∧ stp w s q r = true ∧ g s + C q = C s ∧ 1 + M q = M s) → ∃ v, fnX12_finds_J294 k141 (fnX12_finds_L174 k141 f) 146 (nI r) v5 (nI s) v7 (nI q) μ = k141 146 (nI r) v5 v μ ∧ ((v = mI 1 ∧ ∀ x, x < w 3 → 1 < M s → ¬ (x ≠ s ∧ C x < 1000000 ∧ stp w s x r = true ∧ g s + C x = C s ∧ 1 + M x = M s)) ∨ ∃ x, v = nI x ∧ x < w 3 ∧ 1 < M s ∧ (x ≠ s ∧ C x < 1000000 ∧ stp w s x r = true ∧ g s + C x = C s ∧ 1 + M x = M s) ∧ ∀ y, y < x → ¬ (y ≠ s ∧ C y < 1000000 ∧ stp w s y r = true ∧ g s + C y = C s ∧ 1 + M y = M s)) := by
        intro hn
        unfold fnX12_finds_J294
        rw [nI_1]
        refine ih (q + 1) v7 i1 i2 (Or.inl ⟨e7, fun x hx' hm => ?_⟩)
        by_cases e : x = q
        · subst e
          exact hn
        · exact hx x (by omega) hm
      have J238 : ∀ X, fnX12_finds_J294 k141 (fnX12_finds_L174 k141 f) 146 (nI r) v5 (nI s) v7 (nI q) μ = X → fnX12_finds_J238 k141 (fnX12_finds_L174 k141 f) 146 (nI r) v5 (nI s) v7 (nI q) μ = X := by
        intro X hX
        unfold fnX12_finds_J238 fnX12_finds_J239
        simp only [m_br, if_true]
        exact hX
      by_cases c2 : q = s
      · rw [if_pos (by rw [c2])]
        obtain ⟨v, a, b⟩ := no (fun z => z.1 c2)
        exact ⟨v, J238 _ a, b⟩
      rw [if_neg (by rw [nI_eq (by omega) (by omega)]; exact c2), lk_146_16, e_ai (by omega), (cm q (by omega)).2.1]
      have cq := (hb q (by omega)).2
      simp only [m_br]
      by_cases c3 : 1000000 ≤ C q
      · rw [if_pos (show (1000000 : Int32) ≤ nI (C q) from nI_le (a := 1000000) c3 (by omega))]
        obtain ⟨v, a, b⟩ := no (fun z => by have := z.2.1; omega)
        exact ⟨v, J238 _ a, b⟩
      rw [if_neg (show ¬ (1000000 : Int32) ≤ nI (C q) from nI_ge (b := 1000000) (by omega) (by omega))]
      simp only [m_bnd, isStep12 hW hG (a := s) (b := q) (r := r) (Or.inl hs) (Or.inl (show q < w 3 by omega)) (show r < 100 by omega), m_br, bI_0]
      cases hst : stp w s q r
      · rw [if_pos rfl]
        obtain ⟨v, a, b⟩ := no (fun z => by rw [hst] at z; cases z.2.2.1)
        exact ⟨v, J238 _ a, b⟩
      rw [if_neg (by decide)]
      unfold fnX12_finds_J239
      simp only [m_br]
      rw [if_neg (by decide), lk_146_15, e_ai (show s < ln 153 by omega), lk_146_16, e_ai (show q < ln 154 by omega), e_ai (show s < ln 154 by omega), (cm s hs).1, (cm s hs).2.1, (cm q (by omega)).2.1, nI_add]
      have gs := (hb s hs).1
      have cs := (hb s hs).2.1
      simp only [m_br]
      by_cases c4 : g s + C q = C s
      · rw [if_pos (by rw [c4]), lk_146_17, e_ai (show q < ln 155 by omega), e_ai (show s < ln 155 by omega), (cm q (by omega)).2.2, (cm s hs).2.2, li_1, nI_add]
        simp only [m_br]
        by_cases c5 : 1 + M q = M s
        · rw [if_pos (by rw [c5])]
          unfold fnX12_finds_J294
          rw [nI_1]
          exact ih (q + 1) (nI q) i1 i2 (Or.inr ⟨q, rfl, by omega, by omega, ⟨c2, by omega, hst, c4, c5⟩, fun y hy => hx y hy (by omega)⟩)
        · rw [if_neg (by rw [nI_eq (by omega) (by omega)]; exact c5)]
          exact no (fun z => c5 z.2.2.2.2)
      · rw [if_neg (by rw [nI_eq (by omega) (by omega)]; exact c4)]
        exact no (fun z => c4 z.2.2.2.1)
    · rw [if_neg (by rw [e7]; exact n_m1 (by omega))]
      exact ⟨v7, rfl, Or.inr ⟨x, e7, hx⟩⟩
theorem finds141 {w : Nat → Nat} (hG : Good w) {op goal : Nat → Bool} {r : Nat} (hr : r ≤ 9) {g C M : Nat → Nat} (hg : ∀ s, s < w 3 → op s = true → 1 ≤ g s) (hb : ∀ x, x < w 3 → g x ≤ 10 ∧ C x ≤ 1000000 ∧ M x ≤ 1000000) (bf : BF (w 3) op goal (adw w r) g C M) {b : Nat} (hbb : b < 32) :
    ∀ (f z s : Nat) (μ : sm_Mem), M s < f → WH 147 w μ → CM (w 3) g C M μ → μ.1 146 19 = nI z → z + M s ≤ 24 → s < w 3 → C s < 1000000 →
    T (fnX12_finds_L141 f 146 (nI r) (nI b) (nI s)) μ (fun x μ' => x = true ∧ ∃ l, RowF (w 3) op goal (adw w r) (fun x => 32 * g x + 1) s l ∧ z + 1 + l.length ≤ 24 ∧ μ'.1 146 19 = nI (z + 1 + l.length) ∧ (∀ i, i < z → μ'.1 156 i = μ.1 156 i) ∧ μ'.1 156 z = nI s ∧ (∀ i, i < l.length → μ'.1 156 (z + 1 + i) = nI (l.getD i 0)) ∧ (∀ k, k ≠ 19 → μ'.1 146 k = μ.1 146 k) ∧ (∀ a, a ≠ 146 → a ≠ 156 → μ'.1 a = μ.1 a) ∧ μ'.2 = μ.2) := by
  have n := hG.1
  have e_156 : ln 156 = 25 := rfl
  intro f
  induction f with
  | zero =>
    intro z s μ h
    omega
  | succ f ih =>
    intro z s μ hf hW cm hz hzs hs hF
    obtain ⟨m1, m2, m3, -⟩ := bf.1 s hs hF
    unfold fnX12_finds_L141
    rw [t_brF (show ¬ nI s = (-1 : Int32) from n_m1 (by omega)), t_gi, hz, lk_146_18, t_sai (by omega), t_gi, t_si]
    have y1 : (u2 μ.1 156 z (nI s), μ.2).1 146 19 = nI z := by
      rw [← hz]
      simp (disch := omega) only [u2_ne, u2_a, u2_k, u2_at]
    rw [y1, nI_1]
    have hW1 : WH 147 w (u2 (u2 μ.1 156 z (nI s)) 146 19 (nI (z + 1)), μ.2) := wh_fr (μ := μ) (fun a h1 => (by simp (disch := omega) only [u2_ne, u2_a, u2_k, u2_at])) hW
    have cm1 : CM (w 3) g C M (u2 (u2 μ.1 156 z (nI s)) 146 19 (nI (z + 1)), μ.2) := by
      intro x hx
      obtain ⟨a, b, c⟩ := cm x hx
      rw [← a, ← b, ← c]
      exact ⟨(by simp (disch := omega) only [u2_ne, u2_a, u2_k, u2_at]), (by simp (disch := omega) only [u2_ne, u2_a, u2_k, u2_at]), (by simp (disch := omega) only [u2_ne, u2_a, u2_k, u2_at])⟩
    obtain ⟨v, e, hv⟩ := finds174 (k141 := fnX12_finds_L141 f) hG hr hs hb (v5 := nI b) hW1 cm1 4096 0 (mI 1) (by omega) (by omega) (Or.inl ⟨rfl, fun x hx => absurd hx (by omega)⟩)
    have e' : fnX12_finds_L174 (fnX12_finds_L141 f) 4096 146 (nI r) (nI b) (nI s) (-1 : Int32) (0 : Int32) (u2 (u2 μ.1 156 z (nI s)) 146 19 (nI (z + 1)), μ.2) = fnX12_finds_L141 f 146 (nI r) (nI b) v (u2 (u2 μ.1 156 z (nI s)) 146 19 (nI (z + 1)), μ.2) := e
    have eT : ∀ Q, T (fnX12_finds_L174 (fnX12_finds_L141 f) 4096 146 (nI r) (nI b) (nI s) (-1 : Int32) (0 : Int32)) (u2 (u2 μ.1 156 z (nI s)) 146 19 (nI (z + 1)), μ.2) Q ↔ T (fnX12_finds_L141 f 146 (nI r) (nI b) v) (u2 (u2 μ.1 156 z (nI s)) 146 19 (nI (z + 1)), μ.2) Q := by
      intro Q
      unfold T
      rw [e']
    rw [eT]
    have nxt : ∀ x, x < w 3 → (Nxt (w 3) op goal (adw w r) (fun x => 32 * g x + 1) s x ↔ (x ≠ s ∧ C x < 1000000 ∧ stp w s x r = true ∧ g s + C x = C s ∧ 1 + M x = M s)) := by
      intro x hx
      rw [bf_nxt n.1 hg bf hs hF hx]
      constructor
      · rintro ⟨a1, a2, a3, a4⟩
        unfold adw at a1
        simp only [Bool.and_eq_true] at a1
        refine ⟨fun e => ?_, a2, a1.2, a3, a4⟩
        subst e
        omega
      · rintro ⟨a1, a2, a3, a4, a5⟩
        refine ⟨?_, a2, a4, a5⟩
        unfold adw
        rw [decide_eq_true ⟨hs, hx⟩, a3]
        rfl
    rcases hv with ⟨e1, hv⟩ | ⟨q, e1, hq, hm, hq2, hq3⟩
    · subst e1
      have hms : M s ≤ 1 := by
        rcases Nat.lt_or_ge 1 (M s) with hm | hm
        · exfalso
          obtain ⟨ho, hx⟩ := bf_inv hg bf hs hF
          rcases hx with ⟨-, -, e⟩ | ⟨q, hq, ha, hFq, e2, e3⟩
          · omega
          · have := (nxt q hq).mp ((bf_nxt n.1 hg bf hs hF hq).mpr ⟨ha, hFq, e2.symm, e3.symm⟩)
            exact hv q hq hm this
        · exact hm
      cases f with
      | zero => omega
      | succ f =>
        unfold fnX12_finds_L141 fnX12_finds_J307
        rw [t_brT (show mI 1 = (-1 : Int32) from rfl), t_brF (show ¬ nI b = (-1 : Int32) from n_m1 (by omega)), t_ret]
        refine ⟨rfl, [], (bf_goal hg bf hs hF).mp hms, by simp only [List.length_nil]; omega, (by simp (disch := omega) only [u2_ne, u2_a, u2_k, u2_at, List.length_nil, Nat.add_zero]), fun i hi => (by simp (disch := omega) only [u2_ne, u2_a, u2_k, u2_at]), (by simp (disch := omega) only [u2_ne, u2_a, u2_k, u2_at]), fun i hi => absurd hi (by simp), fun k hk => (by simp (disch := omega) only [u2_ne, u2_a, u2_k, u2_at]), fun a a1 a2 => (by simp (disch := omega) only [u2_ne, u2_a, u2_k, u2_at]), rfl⟩
    · subst e1
      have hg0 : goal s = false := by
        cases q0 : goal s
        · rfl
        · have := (bf_goal hg bf hs hF).mpr q0
          omega
      refine t_mono (ih (z + 1) q (u2 (u2 μ.1 156 z (nI s)) 146 19 (nI (z + 1)), μ.2) (by omega) hW1 cm1 (by simp (disch := omega) only [u2_ne, u2_a, u2_k, u2_at]) (by omega) hq hq2.2.1) ?_
      rintro x μ' ⟨l0, l, l1, l2, l3, l4, l5, l6, l7, l8, l9⟩
      refine ⟨l0, q :: l, ⟨hg0, ⟨(nxt q hq).mpr hq2, fun y hy hN => hq3 y hy ((nxt y (by omega)).mp hN)⟩, l1⟩, by simp only [List.length_cons]; omega, by rw [l3]; congr 1; simp only [List.length_cons]; omega, ?_, ?_, ?_, ?_, ?_, l9⟩
      · intro i hi
        rw [l4 i (by omega)]
        simp (disch := omega) only [u2_ne, u2_a, u2_k, u2_at]
      · rw [l4 z (by omega)]
        simp (disch := omega) only [u2_ne, u2_a, u2_k, u2_at]
      · intro i hi
        cases i with
        | zero =>
          rw [Nat.add_zero, l5]
          rfl
        | succ i =>
          simp only [List.length_cons] at hi
          rw [show z + 1 + (i + 1) = z + 1 + 1 + i by omega, l6 i (by omega)]
          rfl
      · intro k hk
        rw [l7 k hk]
        simp (disch := omega) only [u2_ne, u2_a, u2_k, u2_at]
      · intro a a1 a2
        rw [l8 a a1 a2]
        simp (disch := omega) only [u2_ne, u2_a, u2_k, u2_at]
theorem finds48 {w : Nat → Nat} (hG : Good w) {op goal bg : Nat → Bool} {r bank : Nat} (hr : r ≤ 9) (hbank : bank = 98 ∨ bank = 99) {g C M : Nat → Nat} (hg : ∀ s, s < w 3 → op s = true → 1 ≤ g s) (hb : ∀ x, x < w 3 → g x ≤ 10 ∧ C x ≤ 1000000 ∧ M x ≤ 1000000) (bf : BF (w 3) op goal (adw w r) g C M) (hbg : ∀ x, x < w 3 → bg x = (op x && stp w bank x r)) (hbl : ∀ x, bg x = true → x < w 3) {μ : sm_Mem} (hW : WH 147 w μ) (cm : CM (w 3) g C M μ) (hz : μ.1 146 19 = nI 0) :
    ∀ (f s : Nat) (v5 : Int32), w 3 - s < f → s ≤ w 3 → ((v5 = mI 1 ∧ ∀ x, x < s → C x < 1000000 → stp w bank x r = false) ∨ ∃ b, v5 = nI b ∧ b < s ∧ C b < 1000000 ∧ stp w bank b r = true ∧ (∀ x, x < s → C x < 1000000 → stp w bank x r = true → 32 * C b + M b ≤ 32 * C x + M x) ∧ ∀ x, x < b → C x < 1000000 → stp w bank x r = true → 32 * C b + M b < 32 * C x + M x) →
    T (fnX12_finds_L48 f 146 (nI r) (nI bank) v5 (nI s)) μ (fun x μ' => ∃ l, IsRow (w 3) op goal bg (adw w r) (fun x => 32 * g x + 1) l ∧ l.length ≤ 24 ∧ (x = true ↔ l ≠ []) ∧ (l ≠ [] → μ'.1 146 19 = nI l.length ∧ ∀ i, i < l.length → μ'.1 156 i = nI (l.getD i 0)) ∧ (∀ k, k ≠ 19 → μ'.1 146 k = μ.1 146 k) ∧ (∀ a, a ≠ 146 → a ≠ 156 → μ'.1 a = μ.1 a) ∧ μ'.2 = μ.2) := by
  have n := hG.1
  have e_147 : ln 147 = 241 := rfl
  have e_154 : ln 154 = 25 := rfl
  have e_155 : ln 155 = 25 := rfl
  have w3 := wh_lo hW (i := 3) (by omega)
  have k := bf_32 n.1 hg bf
  intro f
  induction f with
  | zero =>
    intro s v5 h
    omega
  | succ f ih =>
    intro s v5 hf hs hx
    unfold fnX12_finds_L48
    rw [lk_146_1, li_3, t_ai (by omega), w3]
    by_cases c : w 3 ≤ s
    · have : s = w 3 := by omega
      subst this
      rw [t_brT (nI_le c (by omega))]
      unfold fnX12_finds_J137
      rcases hx with ⟨e, hx⟩ | ⟨b, e, b1, b2, b3, b4, b5⟩
      · subst e
        unfold fnX12_finds_L141 fnX12_finds_J307
        rw [t_brT (show mI 1 = (-1 : Int32) from rfl), t_brT (show mI 1 = (-1 : Int32) from rfl), t_ret]
        refine ⟨[], ?_, by simp, by simp, fun h => absurd rfl h, fun _ _ => rfl, fun _ _ _ => rfl, rfl⟩
        intro s v hs' hd
        have hsn := (dm_s hd).1
        have hF := (k s hsn).2 ⟨v, hd⟩
        rw [hbg s hsn, hx s hsn hF] at hs'
        simp at hs'
      · subst e
        obtain ⟨m24, hD⟩ := (k b b1).1 b2
        have hob := (dm_s hD).2
        refine t_mono (finds141 hG hr hg hb bf (b := b) (by omega) 4096 0 b μ (by omega) hW cm hz (by omega) b1 b2) ?_
        rintro x μ' ⟨l0, l, l1, l2, l3, l4, l5, l6, l7, l8, l9⟩
        refine ⟨b :: l, ⟨⟨⟨by rw [hbg b b1, hob, b3]; rfl, 32 * C b + M b, hD, ?_⟩, ?_⟩, l1⟩, by simp only [List.length_cons]; omega, by simp [l0], fun _ => ⟨by rw [l3]; congr 1; simp only [List.length_cons]; omega, ?_⟩, l7, l8, l9⟩
        · intro s' v' hs' hd'
          have hsn := (dm_s hd').1
          have hF := (k s' hsn).2 ⟨v', hd'⟩
          have e := dm_one hd' ((k s' hsn).1 hF).2
          rw [hbg s' hsn] at hs'
          simp only [Bool.and_eq_true] at hs'
          rw [e]
          exact b4 s' hsn hF hs'.2
        · rintro s' hs' ⟨f1, v, f2, f3⟩
          have hsn := (dm_s f2).1
          have hF := (k s' hsn).2 ⟨v, f2⟩
          have e := dm_one f2 ((k s' hsn).1 hF).2
          rw [hbg s' hsn] at f1
          simp only [Bool.and_eq_true] at f1
          have := b5 s' hs' hF f1.2
          have := f3 b _ (by rw [hbg b b1, hob, b3]; rfl) hD
          omega
        · intro i hi
          cases i with
          | zero =>
            rw [l5]
            rfl
          | succ i =>
            simp only [List.length_cons] at hi
            rw [show i + 1 = 0 + 1 + i by omega, l6 i (by omega)]
            rw [show 0 + 1 + i = i + 1 by omega]
            rfl
    have i1 : w 3 - (s + 1) < f := by omega
    have i2 : s + 1 ≤ w 3 := by omega
    have cs := (hb s (by omega)).2
    have skip : ¬ (C s < 1000000 ∧ stp w bank s r = true ∧ (∀ b, v5 = nI b → b < 32 → 32 * C s + M s < 32 * C b + M b)) → T (fnX12_finds_J131 (fnX12_finds_L48 f) 146 (nI r) (nI bank) v5 (nI s)) μ (fun x μ' => ∃ l, IsRow (w 3) op goal bg (adw w r) (fun x => 32 * g x + 1) l ∧ l.length ≤ 24 ∧ (x = true ↔ l ≠ []) ∧ (l ≠ [] → μ'.1 146 19 = nI l.length ∧ ∀ i, i < l.length → μ'.1 156 i = nI (l.getD i 0)) ∧ (∀ k, k ≠ 19 → μ'.1 146 k = μ.1 146 k) ∧ (∀ a, a ≠ 146 → a ≠ 156 → μ'.1 a = μ.1 a) ∧ μ'.2 = μ.2) := by
      intro hn
      unfold fnX12_finds_J131
      rw [nI_1]
      refine ih (s + 1) v5 i1 i2 ?_
      rcases hx with ⟨e, hx⟩ | ⟨b, e, b1, b2, b3, b4, b5⟩
      · left
        refine ⟨e, fun x hx' hF => ?_⟩
        by_cases e' : x = s
        · subst e'
          cases q : stp w bank x r
          · rfl
          · exact absurd ⟨hF, q, fun b hb' hb32 => absurd (hb'.symm.trans e) (n_m1 (by omega))⟩ hn
        · exact hx x (by omega) hF
      · right
        refine ⟨b, e, by omega, b2, b3, fun x hx' hF hst => ?_, b5⟩
        by_cases e' : x = s
        · subst e'
          rcases Nat.lt_or_ge (32 * C x + M x) (32 * C b + M b) with q | q
          · exact absurd ⟨hF, hst, fun b' hb' hb32 => by
              have : b = b' := (nI_eq (by omega) (by omega)).mp (e.symm.trans hb')
              rw [← this]
              exact q⟩ hn
          · exact q
        · exact b4 x (by omega) hF hst
    have take : C s < 1000000 → stp w bank s r = true → (∀ b, v5 = nI b → b < 32 → 32 * C s + M s < 32 * C b + M b) → T (fnX12_finds_J127 (fnX12_finds_L48 f) 146 (nI r) (nI bank) (nI s)) μ (fun x μ' => ∃ l, IsRow (w 3) op goal bg (adw w r) (fun x => 32 * g x + 1) l ∧ l.length ≤ 24 ∧ (x = true ↔ l ≠ []) ∧ (l ≠ [] → μ'.1 146 19 = nI l.length ∧ ∀ i, i < l.length → μ'.1 156 i = nI (l.getD i 0)) ∧ (∀ k, k ≠ 19 → μ'.1 146 k = μ.1 146 k) ∧ (∀ a, a ≠ 146 → a ≠ 156 → μ'.1 a = μ.1 a) ∧ μ'.2 = μ.2) := by
      intro t1 t2 t3
      unfold fnX12_finds_J127 fnX12_finds_J131
      rw [nI_1]
      refine ih (s + 1) (nI s) i1 i2 (Or.inr ⟨s, rfl, by omega, t1, t2, fun x hx' hF hst => ?_, fun x hx' hF hst => ?_⟩)
      · by_cases e' : x = s
        · subst e'
          exact Nat.le_refl _
        · rcases hx with ⟨e, hx⟩ | ⟨b, e, b1, b2, b3, b4, b5⟩
          · have := hx x (by omega) hF
            rw [hst] at this
            cases this
          · have := t3 b e (by omega)
            have := b4 x (by omega) hF hst
            omega
      · rcases hx with ⟨e, hx⟩ | ⟨b, e, b1, b2, b3, b4, b5⟩
        · have := hx x (by omega) hF
          rw [hst] at this
          cases this
        · have := t3 b e (by omega)
          have := b4 x (by omega) hF hst
          omega
    rw [t_brF (nI_ge (by omega) (by omega)), lk_146_16, t_ai (by omega), (cm s (by omega)).2.1]
    by_cases c1 : 1000000 ≤ C s
    · rw [t_brT (show (1000000 : Int32) ≤ nI (C s) from nI_le (a := 1000000) c1 (by omega))]
      exact skip (fun z => by have := z.1; omega)
    rw [t_brF (show ¬ (1000000 : Int32) ≤ nI (C s) from nI_ge (b := 1000000) (by omega) (by omega)), t_bnd, t_eq (isStep12 hW hG (a := bank) (b := s) (r := r) (Or.inr hbank) (Or.inl (show s < w 3 by omega)) (by omega))]
    cases hst : stp w bank s r
    · rw [t_brT (by decide)]
      exact skip (fun z => by rw [hst] at z; cases z.2.1)
    rw [t_brF (by decide)]
    rcases hx with ⟨e, hx⟩ | ⟨b, e, b1, b2, b3, b4, b5⟩
    · rw [t_brT (show v5 = (-1 : Int32) from e)]
      exact take (by omega) hst (fun b hb' hb32 => absurd (hb'.symm.trans e) (n_m1 (by omega)))
    · subst e
      have cb := (hb b (by omega)).2
      obtain ⟨mb, -⟩ := (k b (by omega)).1 b2
      obtain ⟨ms, -⟩ := (k s (by omega)).1 (by omega)
      rw [t_brF (show ¬ nI b = (-1 : Int32) from n_m1 (by omega)), lk_146_17, t_ai (show s < ln 154 by omega), t_ai (show s < ln 155 by omega), t_ai (show b < ln 154 by omega), t_ai (show b < ln 155 by omega), (cm s (by omega)).2.1, (cm s (by omega)).2.2, (cm b (by omega)).2.1, (cm b (by omega)).2.2, t_bnd, t_eq (isLess_eq (by omega) (by omega) (by omega) (by omega) μ)]
      by_cases c4 : C s < C b ∨ (C s = C b ∧ M s < M b)
      · rw [decide_eq_true c4, t_brF (by decide)]
        exact take (by omega) hst (fun b' hb' hb32 => by
          have : b = b' := (nI_eq (by omega) (by omega)).mp hb'
          rw [← this]
          omega)
      · rw [decide_eq_false c4, t_brT (by decide)]
        exact skip (fun z => by
          have := z.2.2 b rfl (by omega)
          omega)
theorem finds_T {w : Nat → Nat} (hG : Good w) {r wt way bank : Nat} (hr : 1 ≤ r) (hr9 : r ≤ 9) (hw1 : 1 ≤ wt) (hwt : wt < 100) (hw : way < 4) (hbank : bank = 98 ∨ bank = 99) {μ : sm_Mem} (hW : WH 147 w μ) : T (fnX12_finds 146 (nI r) (nI wt) (nI way) (nI bank)) μ (fun x μ' => FindP w r wt way bank x μ μ') := by
  have n := hG.1
  have gw := good_wide hG
  have e_147 : ln 147 = 241 := rfl
  have hW0 : WH 147 w (u2 μ.1 146 19 (nI 0), μ.2) := wh_fr (μ := μ) (fun a h1 => (by simp (disch := omega) only [u2_ne, u2_a, u2_k, u2_at])) hW
  have x1 := wh_lo hW0 (i := 1) (by omega)
  unfold fnX12_finds
  rw [li_0, t_si, lk_146_1, li_1, t_ai (by omega), x1]
  by_cases c1 : r < w 1
  · rw [t_brT (nI_lt c1 (by omega)), t_bnd]
    refine t_mono (fillCosts_T hG hw hW0) ?_
    rintro - μ1 ⟨a1, a2, a3⟩
    have hW1 : WH 147 w μ1 := wh_fr (fun i _ => by rw [a1 147 (by omega)]) hW0
    have hg : ∀ x, x < w 3 → opn w wt x = true → 1 ≤ costW w way x ∧ costW w way x ≤ 10 := fun x hx ho => ⟨(cost_rng hG hx hw1).2 ho, (cost_rng hG (wt := wt) hx hw1).1⟩
    have hg10 : ∀ x, x < w 3 → costW w way x ≤ 10 := fun x hx => (cost_rng hG (wt := wt) hx hw1).1
    have J : ∀ to : Nat, to = 197 - bank → T (fnX12_finds_J39 146 (nI r) (nI bank) (nI to) (nI wt) (nI r) 146) μ1 (fun x μ' => FindP w r wt way bank x μ μ') := by
      intro to hto
      unfold fnX12_finds_J39
      rw [t_bnd]
      refine t_mono (fillLeft_T hG hr9 hwt (to := to) (by omega) hg hg10 hW1 a3) ?_
      rintro - μ2 ⟨fr, C, M, cm, bf, hcm⟩
      subst hto
      have hb : ∀ x, x < w 3 → costW w way x ≤ 10 ∧ C x ≤ 1000000 ∧ M x ≤ 1000000 := by
        intro x hx
        exact ⟨hg10 x hx, hcm x hx⟩
      have hW2 : WH 147 w μ2 := wh_fr (fun i _ => by rw [fr.1 147 (by omega) (by omega)]) hW1
      refine t_mono (finds48 hG hr9 hbank (bg := fun s => opn w wt s && stp w bank s r) (fun s hs ho => (hg s hs ho).1) hb bf (fun x hx => rfl) (fun x h => by
        simp only [Bool.and_eq_true] at h
        exact opn_lt h.1) hW2 cm (by rw [fr.1 146 (by omega) (by omega), a1 146 (by omega)]; simp (disch := omega) only [u2_ne, u2_a, u2_k, u2_at]) 4096 0 (mI 1) (by omega) (by omega) (Or.inl ⟨rfl, fun x hx => absurd hx (by omega)⟩)) ?_
      rintro x μ3 ⟨l, l1, l2, l3, l4, l5, l6, l7⟩
      have fw := findW_row (by omega) l1
      refine ⟨?_, ?_, ?_, ?_⟩
      · rw [fw]
        by_cases c0 : l = []
        · rw [if_pos c0]
          simp only
          cases x
          · rfl
          · exact absurd c0 (l3.mp rfl)
        · rw [if_neg c0]
          exact ⟨l3.mpr c0, l2, (l4 c0).1, (l4 c0).2, isRow_facts (fun s _ => by show 1 ≤ 32 * costW w way s + 1; omega) l1⟩
      · intro k hk
        rw [l5 k hk, fr.1 146 (by omega) (by omega), a1 146 (by omega)]
        simp (disch := omega) only [u2_ne, u2_a, u2_k, u2_at]
      · intro a z1 z2
        rw [l6 a z1 (by omega), fr.1 a (by omega) (by omega), a1 a (by omega)]
        simp (disch := omega) only [u2_ne, u2_a, u2_k, u2_at]
      · exact l7.trans (fr.2.trans a2)
    rcases hbank with rfl | rfl
    · rw [t_brT (show nI 98 = (98 : Int32) from rfl), li_99]
      exact J 99 rfl
    · rw [t_brF (by decide), li_98]
      exact J 98 rfl
  · rw [t_brF (nI_nlt (by omega) (by omega)), t_ret]
    refine ⟨?_, fun k hk => (by simp (disch := omega) only [u2_ne, u2_a, u2_k, u2_at]), fun a a1 a2 => (by simp (disch := omega) only [u2_ne, u2_a, u2_k, u2_at]), rfl⟩
    unfold findW
    rw [if_pos (by omega)]
    exact ⟨rfl, by simp, (by simp (disch := omega) only [u2_ne, u2_a, u2_k, u2_at, List.length_nil]), fun i hi => absurd hi (by simp), fun x hx => absurd hx (by simp), List.nodup_nil⟩
