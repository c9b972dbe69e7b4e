/-! ===== THE REFERENCE: passes to the end ===== -/
theorem fill106 {k95 : Nat → Int32 → Int32 → Int32 → sm_M Unit} {Q : Unit → sm_Mem → Prop} {w : Nat → Nat} (hG : Good w) {r wt : Nat} (hr : r ≤ 9) (hwt : wt < 100) {goal : Nat → Bool} {g : Nat → Nat} (hg : ∀ x, x < w 3 → opn w wt x = true → 1 ≤ g x ∧ g x ≤ 10) (hg10 : ∀ x, x < w 3 → g x ≤ 10) {μ0 : sm_Mem} (hW : WH 147 w μ0) {C0 M0 : Nat → Nat}
    (ex : ∀ (C M : Nat → Nat) (b : Bool) (μ' : sm_Mem), FrL μ0 μ' → CM (w 3) g C M μ' → Pass (w 3) (opn w wt) goal (adw w r) g C0 M0 C M b → (b = false → C = C0 ∧ M = M0 ∧ ∀ s q, s < w 3 → q < w 3 → opn w wt s = true → adw w r s q = true → C0 q < 1000000 → C0 s < 1000000 ∧ 1024 * C0 s + M0 s ≤ 1024 * g s + 1 + (1024 * C0 q + M0 q)) → T (k95 146 (nI r) (nI wt) (bI b)) μ' Q) :
    ∀ (f s : Nat) (C M : Nat → Nat) (b : Bool) (μ : sm_Mem), w 3 - s < f → s ≤ w 3 → FrL μ0 μ → CM (w 3) g C M μ → BI (w 3) (opn w wt) goal (adw w r) g C M → (∀ x, x < w 3 → C0 x < 1000000 → C x < 1000000 ∧ 1024 * C x + M x ≤ 1024 * C0 x + M0 x) →
    (∀ s' q u, s' < s → q < w 3 → opn w wt s' = true → adw w r s' q = true → Dm (w 3) (opn w wt) goal (adw w r) (fun x => 1024 * g x + 1) q u → C0 q < 1000000 → 1024 * C0 q + M0 q = u → C s' < 1000000 ∧ 1024 * C s' + M s' ≤ 1024 * g s' + 1 + u) →
    ((b = false ∧ C = C0 ∧ M = M0 ∧ ∀ s' q, s' < s → q < w 3 → opn w wt s' = true → adw w r s' q = true → C0 q < 1000000 → C0 s' < 1000000 ∧ 1024 * C0 s' + M0 s' ≤ 1024 * g s' + 1 + (1024 * C0 q + M0 q)) ∨ (b = true ∧ ∃ s', s' < w 3 ∧ C s' < 1000000 ∧ (C0 s' < 1000000 → 1024 * C s' + M s' < 1024 * C0 s' + M0 s'))) →
    T (fnX12_fillLeft_L106 k95 f 146 (nI r) (nI wt) (bI b) (nI s)) μ Q := by
  have n := hG.1
  have e_147 : ln 147 = 241 := rfl
  intro f
  induction f with
  | zero =>
    intro s C M b μ h
    omega
  | succ f ih =>
    intro s C M b μ hf hs fr cm bi h1 h2 h3
    have hW1 : WH 147 w μ := wh_fr (fun i _ => by rw [fr.1 147 (by omega) (by omega)]) hW
    have w3 := wh_lo hW1 (i := 3) (by omega)
    unfold fnX12_fillLeft_L106 fnX12_fillLeft_J273
    rw [lk_146_1, li_3, t_ai (by omega), w3]
    by_cases c : w 3 ≤ s
    · have : s = w 3 := by omega
      subst this
      rw [t_brT (nI_le c (by omega))]
      refine ex C M b μ fr cm ⟨bi, h1, fun s q u a b => h2 s q u a b, fun hb => ?_⟩ (fun hb => ?_)
      · rcases h3 with ⟨e, -⟩ | ⟨-, e⟩
        · rw [e] at hb
          cases hb
        · exact e
      · rcases h3 with ⟨-, e⟩ | ⟨e, -⟩
        · exact e
        · rw [e] at hb
          cases hb
    rw [t_brF (nI_ge (by omega) (by omega))]
    have i1 : w 3 - (s + 1) < f := by omega
    have i2 : s + 1 ≤ w 3 := by omega
    have hsn : s < w 3 := by omega
    refine fill120 hG hr hwt hsn hg hg10 (μ0 := μ) hW1 (C0 := C) (M0 := M) (b0 := b) ?_ 4096 0 C M b μ (by omega) (by omega) ⟨fun _ _ _ => rfl, rfl⟩ cm bi (fun _ _ _ => ⟨rfl, rfl⟩) (fun h => ⟨h, Nat.le_refl _⟩) (fun q' hq' => absurd hq' (by omega)) (Or.inl ⟨rfl, rfl, rfl⟩)
    intro C' M' b' μ' fr' cm' bi' a1 a2 a3 a4
    refine ih (s + 1) C' M' b' μ' i1 i2 ⟨fun a z1 z2 => (fr'.1 a z1 z2).trans (fr.1 a z1 z2), fr'.2.trans fr.2⟩ cm' bi' ?_ ?_ ?_
    · intro x hx hF
      obtain ⟨y1, y2⟩ := h1 x hx hF
      by_cases e : x = s
      · subst e
        obtain ⟨z1, z2⟩ := a2 y1
        exact ⟨z1, by omega⟩
      · obtain ⟨z1, z2⟩ := a1 x hx e
        rw [z1, z2]
        exact ⟨y1, y2⟩
    · intro s' q u hs' hq ho ha hd hF he
      by_cases e : s' = s
      · subst e
        obtain ⟨y1, y2⟩ := h1 q hq hF
        obtain ⟨z1, z2⟩ := a3 q hq ho ha y1
        exact ⟨z1, by omega⟩
      · obtain ⟨z1, z2⟩ := a1 s' (by omega) e
        rw [z1, z2]
        exact h2 s' q u (by omega) hq ho ha hd hF he
    · rcases a4 with ⟨e1, e2, e3⟩ | ⟨e1, e2, e3⟩
      · subst e1 e2 e3
        rcases h3 with ⟨f1, f2, f3, f4⟩ | f
        · left
          refine ⟨f1, f2, f3, ?_⟩
          intro s' q hs' hq ho ha hF
          by_cases e : s' = s
          · subst e
            have := a3 q hq ho ha (by rw [f2]; exact hF)
            rw [f2, f3] at this
            exact this
          · exact f4 s' q (by omega) hq ho ha hF
        · exact Or.inr f
      · right
        refine ⟨e1, s, hsn, e2, fun hF => ?_⟩
        obtain ⟨y1, y2⟩ := h1 s hsn hF
        have := e3 y1
        omega
theorem fill95 {w : Nat → Nat} (hG : Good w) {r wt : Nat} (hr : r ≤ 9) (hwt : wt < 100) {goal : Nat → Bool} {g : Nat → Nat} (hg : ∀ x, x < w 3 → opn w wt x = true → 1 ≤ g x ∧ g x ≤ 10) (hg10 : ∀ x, x < w 3 → g x ≤ 10) {μ0 : sm_Mem} (hW : WH 147 w μ0) :
    ∀ (f : Nat) (C M : Nat → Nat) (μ : sm_Mem), nfl (w 3) (opn w wt) goal (adw w r) g C M + 1 < f → FrL μ0 μ → CM (w 3) g C M μ → BI (w 3) (opn w wt) goal (adw w r) g C M →
    T (fnX12_fillLeft_L95 f 146 (nI r) (nI wt) (bI true)) μ (fun _ μ' => FrL μ0 μ' ∧ ∃ C M, CM (w 3) g C M μ' ∧ BF (w 3) (opn w wt) goal (adw w r) g C M ∧ ∀ x, x < w 3 → C x ≤ 1000000 ∧ M x ≤ 1000000) := by
  have n := hG.1
  intro f
  induction f with
  | zero =>
    intro C M μ h
    omega
  | succ f ih =>
    intro C M μ hf fr cm bi
    have hW1 : WH 147 w μ := wh_fr (fun i _ => by rw [fr.1 147 (by omega) (by omega)]) hW
    unfold fnX12_fillLeft_L95
    rw [t_brF (by decide)]
    refine fill106 hG hr hwt hg hg10 (goal := goal) (μ0 := μ) hW1 (C0 := C) (M0 := M) ?_ 4096 0 C M false μ (by omega) (by omega) ⟨fun _ _ _ => rfl, rfl⟩ cm bi (fun x _ h => ⟨h, Nat.le_refl _⟩) (fun s' q u h => absurd h (by omega)) (Or.inl ⟨rfl, rfl, rfl, fun s' q h => absurd h (by omega)⟩)
    intro C' M' b' μ' fr' cm' ps cl
    have fr2 : FrL μ0 μ' := ⟨fun a z1 z2 => (fr'.1 a z1 z2).trans (fr.1 a z1 z2), fr'.2.trans fr.2⟩
    cases b'
    · obtain ⟨e1, e2, e3⟩ := cl rfl
      subst e1 e2
      cases f with
      | zero => omega
      | succ f =>
        unfold fnX12_fillLeft_L95
        rw [t_brT (by decide), t_ret]
        refine ⟨fr2, C', M', cm', bi_done n.1 bi e3, fun x hx => ?_⟩
        rcases bi.1 x hx with ⟨y1, y2⟩ | ⟨y1, y2, -⟩
        · omega
        · have := fb_ct_le (fun x => decide (C' x < 1000000)) (w 3)
          omega
    · have := pass_less n.1 bi ps
      exact ih C' M' μ' (by omega) fr2 cm' ps.1
theorem fillLeft_L {w : Nat → Nat} (hG : Good w) {r wt to : Nat} (hr : r ≤ 9) (hwt : wt < 100) (hto : to = 98 ∨ to = 99) {g : Nat → Nat} (hg : ∀ x, x < w 3 → opn w wt x = true → 1 ≤ g x ∧ g x ≤ 10) (hg10 : ∀ x, x < w 3 → g x ≤ 10) {μ0 : sm_Mem} (hW : WH 147 w μ0) (h153 : ∀ x, x < w 3 → μ0.1 153 x = nI (g x)) :
    ∀ (f s : Nat) (μ : sm_Mem), w 3 - s < f → s ≤ w 3 → FrL μ0 μ → (∀ x, x < s → μ.1 154 x = nI (if (opn w wt x && stp w x to r) = true then g x else 1000000) ∧ μ.1 155 x = nI (if (opn w wt x && stp w x to r) = true then 1 else 1000000)) →
    T (fnX12_fillLeft_L3 f 146 (nI r) (nI wt) (nI to) (nI s)) μ (fun _ μ' => FrL μ0 μ' ∧ ∃ C M, CM (w 3) g C M μ' ∧ BF (w 3) (opn w wt) (fun s => opn w wt s && stp w s to r) (adw w r) g C M ∧ ∀ x, x < w 3 → C x ≤ 1000000 ∧ M x ≤ 1000000) := by
  have n := hG.1
  have e_147 : ln 147 = 241 := rfl
  have e_153 : ln 153 = 25 := rfl
  have e_154 : ln 154 = 25 := rfl
  have e_155 : ln 155 = 25 := rfl
  intro f
  induction f with
  | zero =>
    intro s μ h
    omega
  | succ f ih =>
    intro s μ hf hs fr hx
    have hW1 : WH 147 w μ := wh_fr (fun i _ => by rw [fr.1 147 (by omega) (by omega)]) hW
    have w3 := wh_lo hW1 (i := 3) (by omega)
    unfold fnX12_fillLeft_L3
    rw [lk_146_1, li_3, t_ai (by omega), w3]
    by_cases c : w 3 ≤ s
    · have : s = w 3 := by omega
      subst this
      rw [t_brT (nI_le c (by omega))]
      unfold fnX12_fillLeft_J92
      have cm : CM (w 3) g (fun x => if (opn w wt x && stp w x to r) = true then g x else 1000000) (fun x => if (opn w wt x && stp w x to r) = true then 1 else 1000000) μ := by
        intro x hx'
        exact ⟨by rw [fr.1 153 (by omega) (by omega)]; exact h153 x hx', (hx x hx').1, (hx x hx').2⟩
      have bi : BI (w 3) (opn w wt) (fun s => opn w wt s && stp w s to r) (adw w r) g (fun x => if (opn w wt x && stp w x to r) = true then g x else 1000000) (fun x => if (opn w wt x && stp w x to r) = true then 1 else 1000000) := by
        refine ⟨?_, ?_⟩
        · intro x hx'
          by_cases q : (opn w wt x && stp w x to r) = true
          · right
            simp only [q, if_true]
            have qo : opn w wt x = true := by
              simp only [Bool.and_eq_true] at q
              exact q.1
            have gx := hg x hx' qo
            refine ⟨?_, gx.1, Nat.le_refl _, 0, hx', qo, q, rfl⟩
            have : 0 < fb_ct (fun x => decide ((if (opn w wt x && stp w x to r) = true then g x else 1000000) < 1000000)) (w 3) := fb_ct_pos.mpr ⟨x, hx', by
              rw [q]
              simp only [if_true]
              exact decide_eq_true (by omega)⟩
            omega
          · left
            have q' : (opn w wt x && stp w x to r) = false := by simpa using q
            simp only [q']
            exact ⟨rfl, rfl⟩
        · intro x hx' ho' hg'
          have q : (opn w wt x && stp w x to r) = true := hg'
          simp only [q, if_true]
          have gx := hg10 x hx'
          omega
      exact fill95 hG hr hwt hg hg10 hW 4096 _ _ μ (by have := nfl_le (n := w 3) (op := opn w wt) (goal := fun s => opn w wt s && stp w s to r) (adj := adw w r) (g := g) (fun x => if (opn w wt x && stp w x to r) = true then g x else 1000000) (fun x => if (opn w wt x && stp w x to r) = true then 1 else 1000000); omega) fr cm bi
    rw [t_brF (nI_ge (by omega) (by omega))]
    have lfl := lf_le hG (s := s) (by omega)
    have J85 : ∀ a b : Nat, a = (if (opn w wt s && stp w s to r) = true then g s else 1000000) → b = (if (opn w wt s && stp w s to r) = true then 1 else 1000000) → T (fnX12_fillLeft_J85 (fnX12_fillLeft_L3 f) 146 (nI r) (nI wt) (nI to) (nI s) (nI b) (nI s) 155) (u2 μ.1 154 s (nI a), μ.2) (fun _ μ' => FrL μ0 μ' ∧ ∃ C M, CM (w 3) g C M μ' ∧ BF (w 3) (opn w wt) (fun s => opn w wt s && stp w s to r) (adw w r) g C M ∧ ∀ x, x < w 3 → C x ≤ 1000000 ∧ M x ≤ 1000000) := by
      intro a b ha hb
      unfold fnX12_fillLeft_J85
      rw [t_sai (by omega), nI_1]
      refine ih (s + 1) _ (by omega) (by omega) ⟨fun z z1 z2 => by rw [← fr.1 z z1 z2]; simp (disch := omega) only [u2_ne, u2_a, u2_k, u2_at], fr.2⟩ ?_
      intro x hx'
      by_cases e : x = s
      · subst e
        rw [← ha, ← hb]
        exact ⟨(by simp (disch := omega) only [u2_ne, u2_a, u2_k, u2_at]), (by simp (disch := omega) only [u2_ne, u2_a, u2_k, u2_at])⟩
      · obtain ⟨y1, y2⟩ := hx x (by omega)
        rw [← y1, ← y2]
        exact ⟨(by simp (disch := omega) only [u2_ne, u2_a, u2_k, u2_at]), (by simp (disch := omega) only [u2_ne, u2_a, u2_k, u2_at])⟩
    have no : (opn w wt s && stp w s to r) = false → T (fnX12_fillLeft_J39 (fnX12_fillLeft_L3 f) 146 (nI r) (nI wt) (nI to) (nI s)) μ (fun _ μ' => FrL μ0 μ' ∧ ∃ C M, CM (w 3) g C M μ' ∧ BF (w 3) (opn w wt) (fun s => opn w wt s && stp w s to r) (adw w r) g C M ∧ ∀ x, x < w 3 → C x ≤ 1000000 ∧ M x ≤ 1000000) := by
      intro q
      unfold fnX12_fillLeft_J39 fnX12_fillLeft_J40
      rw [t_brT rfl]
      unfold fnX12_fillLeft_J66
      rw [lk_146_16, t_sai (by omega), t_brT rfl, lk_146_17, li_1000000]
      exact J85 1000000 1000000 (by rw [q]; rfl) (by rw [q]; rfl)
    rw [t_bnd, t_eq (left12 hW1 hG (show s < w 3 by omega))]
    by_cases c1 : lf w s < wt
    · rw [t_brT (nI_lt c1 (by omega))]
      refine no ?_
      have : opn w wt s = false := by
        unfold opn
        exact decide_eq_false (by omega)
      rw [this]
      rfl
    · rw [t_brF (nI_nlt (by omega) (by omega)), t_bnd, t_eq (isStep12 hW1 hG (a := s) (b := to) (r := r) (Or.inl (by omega)) (Or.inr hto) (by omega))]
      cases hst : stp w s to r
      · rw [t_brT (by decide)]
        exact no (by rw [hst]; simp)
      · have ho : opn w wt s = true := by
          unfold opn
          exact decide_eq_true (by omega)
        have q : (opn w wt s && stp w s to r) = true := by rw [ho, hst]; rfl
        rw [t_brF (by decide)]
        unfold fnX12_fillLeft_J40
        rw [t_brF (by decide), lk_146_15, t_ai (by omega), fr.1 153 (by omega) (by omega), h153 s (by omega)]
        unfold fnX12_fillLeft_J66
        rw [lk_146_16, t_sai (by omega), t_brF (by decide), lk_146_17, li_1]
        exact J85 (g s) 1 (by rw [q]; rfl) (by rw [q]; rfl)
theorem fillLeft_T {w : Nat → Nat} (hG : Good w) {r wt to : Nat} (hr : r ≤ 9) (hwt : wt < 100) (hto : to = 98 ∨ to = 99) {g : Nat → Nat} (hg : ∀ x, x < w 3 → opn w wt x = true → 1 ≤ g x ∧ g x ≤ 10) (hg10 : ∀ x, x < w 3 → g x ≤ 10) {μ : sm_Mem} (hW : WH 147 w μ) (h153 : ∀ x, x < w 3 → μ.1 153 x = nI (g x)) :
    T (fnX12_fillLeft 146 (nI r) (nI wt) (nI to)) μ (fun _ μ' => FrL μ μ' ∧ ∃ C M, CM (w 3) g C M μ' ∧ BF (w 3) (opn w wt) (fun s => opn w wt s && stp w s to r) (adw w r) g C M ∧ ∀ x, x < w 3 → C x ≤ 1000000 ∧ M x ≤ 1000000) := by
  have n := hG.1
  unfold fnX12_fillLeft
  exact fillLeft_L hG hr hwt hto hg hg10 hW h153 4096 0 μ (by omega) (by omega) ⟨fun _ _ _ => rfl, rfl⟩ (fun x hx => absurd hx (by omega))
