/-! ===== THE REFERENCE'S LEAST SUMS: pairs (cost, many) that can't be bettered (no machine in it) ===== -/
section
variable {n : Nat} {op goal : Nat → Bool} {adj : Nat → Nat → Bool}
theorem fix_min {c : Nat → Nat} {F : Nat → Prop} {d : Nat → Nat} (b0 : ∀ s, s < n → F s → ∃ k, Wk n op goal adj c k s (d s))
    (b1 : ∀ s, s < n → op s = true → goal s = true → F s ∧ d s ≤ c s)
    (b2 : ∀ s q, s < n → op s = true → q < n → adj s q = true → F q → F s ∧ d s ≤ c s + d q) :
    ∀ s, s < n → (F s → Dm n op goal adj c s (d s)) ∧ ((∃ v, Dm n op goal adj c s v) → F s) := by
  have low : ∀ k s v, Wk n op goal adj c k s v → F s ∧ d s ≤ v := by
    intro k
    induction k with
    | zero =>
      intro s v h
      have := b1 s h.1 h.2.1 h.2.2.1
      exact ⟨this.1, by rw [h.2.2.2]; exact this.2⟩
    | succ k ih =>
      intro s v h
      obtain ⟨h1, h2, q, u, h3, h4, h5⟩ := h
      have i := ih q u h4
      have := b2 s q h1 h2 (wk_s h4).1 h3 i.1
      exact ⟨this.1, by omega⟩
  intro s hs
  refine ⟨fun hF => ⟨b0 s hs hF, fun k v' h => (low k s v' h).2⟩, ?_⟩
  rintro ⟨v, ⟨k, h⟩, -⟩
  exact (low k s v h).1
/-- what the reference's rows hold at the end -/
def BF (n : Nat) (op goal : Nat → Bool) (adj : Nat → Nat → Bool) (g C M : Nat → Nat) : Prop :=
  (∀ s, s < n → C s < 1000000 → C s ≤ 240 ∧ M s ≤ C s ∧ 1 ≤ M s ∧ Dm n op goal adj (fun x => 1024 * g x + 1) s (1024 * C s + M s)) ∧ (∀ s v, s < n → Dm n op goal adj (fun x => 1024 * g x + 1) s v → C s < 1000000)
theorem bf_inv {g C M : Nat → Nat} (hg : ∀ s, s < n → op s = true → 1 ≤ g s) (h : BF n op goal adj g C M) {s : Nat} (hs : s < n) (hF : C s < 1000000) : op s = true ∧ ((goal s = true ∧ C s = g s ∧ M s = 1) ∨ ∃ q, q < n ∧ adj s q = true ∧ C q < 1000000 ∧ C s = g s + C q ∧ M s = 1 + M q) := by
  obtain ⟨h1, h2⟩ := h
  obtain ⟨a1, a2, a3, a4⟩ := h1 s hs hF
  have hso := (dm_s a4).2
  refine ⟨hso, ?_⟩
  rcases dm_inv a4 with ⟨g0, e⟩ | ⟨q, u, a, d, e⟩
  · left
    have : g s = C s := by omega
    exact ⟨g0, by omega, by omega⟩
  · right
    have hq := dm_s d
    have hFq := h2 q u hq.1 d
    obtain ⟨c1, c2, c3, c4⟩ := h1 q hq.1 hFq
    have eu := dm_one d c4
    subst eu
    have : C s = g s + C q := by omega
    exact ⟨q, hq.1, a, hFq, this, by omega⟩
theorem bf_many {g C M : Nat → Nat} (hg : ∀ s, s < n → op s = true → 1 ≤ g s) (h : BF n op goal adj g C M) : ∀ v s, s < n → C s < 1000000 → C s = v → M s ≤ fb_ct (fun x => decide (C x ≤ C s)) n := by
  intro v
  induction v using Nat.strongRecOn with
  | ind v ih =>
    intro s hs hF e
    obtain ⟨ho, hx⟩ := bf_inv hg h hs hF
    have gs := hg s hs ho
    rcases hx with ⟨-, -, m1⟩ | ⟨q, hq, -, hFq, e1, e2⟩
    · rw [m1]
      exact fb_ct_pos.mpr ⟨s, hs, decide_eq_true (Nat.le_refl _)⟩
    · have i := ih (C q) (by omega) q hq hFq rfl
      have u := fb_ct_upd (fun x => decide (C x ≤ C q)) true (i := s) (n := n) hs
      have z : decide (C s ≤ C q) = false := decide_eq_false (by omega)
      simp only [z, Bool.false_eq_true, if_false, if_true, Nat.add_zero] at u
      have l : fb_ct (fun k => if k = s then true else decide (C k ≤ C q)) n ≤ fb_ct (fun x => decide (C x ≤ C s)) n := by
        apply fb_ct_sub
        intro k hk hh
        by_cases e3 : k = s
        · subst e3
          exact decide_eq_true (Nat.le_refl _)
        · rw [if_neg e3] at hh
          have hh := of_decide_eq_true hh
          exact decide_eq_true (by omega)
      omega
theorem bf_32 {g C M : Nat → Nat} (hn : n ≤ 24) (hg : ∀ s, s < n → op s = true → 1 ≤ g s) (h : BF n op goal adj g C M) : ∀ s, s < n → (C s < 1000000 → M s ≤ 24 ∧ Dm n op goal adj (fun x => 32 * g x + 1) s (32 * C s + M s)) ∧ ((∃ v, Dm n op goal adj (fun x => 32 * g x + 1) s v) → C s < 1000000) := by
  have hm : ∀ s, s < n → C s < 1000000 → M s ≤ 24 := by
    intro s hs hF
    have a := bf_many hg h _ s hs hF rfl
    have b := fb_ct_le (fun x => decide (C x ≤ C s)) n
    omega
  have key := bell_min (n := n) (op := op) (goal := goal) (adj := adj) (c := fun x => 32 * g x + 1) (F := fun s => C s < 1000000) (d := fun s => 32 * C s + M s) (fun s _ => by show 1 ≤ 32 * g s + 1; omega) ?_ ?_ ?_
  · intro s hs
    exact ⟨fun hF => ⟨hm s hs hF, (key s hs).1 hF⟩, (key s hs).2⟩
  · intro s hs ho hg0
    have hd := dm_goal (n := n) (op := op) (goal := goal) (adj := adj) (c := fun x => 1024 * g x + 1) hs ho hg0
    have hF := h.2 s _ hs hd
    obtain ⟨a1, a2, a3, a4⟩ := h.1 s hs hF
    have e := dm_one hd a4
    have e : 1024 * g s + 1 = 1024 * C s + M s := e
    refine ⟨hF, ?_⟩
    show 32 * C s + M s ≤ 32 * g s + 1
    omega
  · intro s q hs ho hq ha hF
    obtain ⟨a1, a2, a3, a4⟩ := h.1 q hq hF
    obtain ⟨v, d, l⟩ := dm_step (n := n) (op := op) (goal := goal) (adj := adj) (c := fun x => 1024 * g x + 1) hs ho ha a4
    have hFs := h.2 s v hs d
    obtain ⟨b1, b2, b3, b4⟩ := h.1 s hs hFs
    have e := dm_one d b4
    have m1 := hm s hs hFs
    have m2 := hm q hq hF
    refine ⟨hFs, ?_⟩
    have l : v ≤ 1024 * g s + 1 + (1024 * C q + M q) := l
    show 32 * C s + M s ≤ 32 * g s + 1 + (32 * C q + M q)
    omega
  · intro s hs hF
    obtain ⟨ho, hx⟩ := bf_inv hg h hs hF
    refine ⟨ho, ?_⟩
    rcases hx with ⟨g0, e1, e2⟩ | ⟨q, hq, ha, hFq, e1, e2⟩
    · left
      refine ⟨g0, ?_⟩
      show 32 * C s + M s = 32 * g s + 1
      omega
    · right
      refine ⟨q, hq, ha, hFq, ?_⟩
      show 32 * C s + M s = 32 * g s + 1 + (32 * C q + M q)
      omega
/-- the next stone, as the reference tests it -/
theorem bf_nxt {g C M : Nat → Nat} (hn : n ≤ 24) (hg : ∀ s, s < n → op s = true → 1 ≤ g s) (h : BF n op goal adj g C M) {s q : Nat} (hs : s < n) (hF : C s < 1000000) (hq : q < n) : Nxt n op goal adj (fun x => 32 * g x + 1) s q ↔ adj s q = true ∧ C q < 1000000 ∧ g s + C q = C s ∧ 1 + M q = M s := by
  have k := bf_32 hn hg h
  obtain ⟨m1, d1⟩ := (k s hs).1 hF
  constructor
  · rintro ⟨a, u, d2, d3⟩
    have hFq := (k q hq).2 ⟨u, d2⟩
    obtain ⟨m2, d4⟩ := (k q hq).1 hFq
    have e1 := dm_one d2 d4
    have e2 := dm_one d3 d1
    have e2 : 32 * g s + 1 + u = 32 * C s + M s := e2
    exact ⟨a, hFq, by omega, by omega⟩
  · rintro ⟨a, hFq, e1, e2⟩
    obtain ⟨m2, d4⟩ := (k q hq).1 hFq
    refine ⟨a, 32 * C q + M q, d4, ?_⟩
    have : 32 * g s + 1 + (32 * C q + M q) = 32 * C s + M s := by omega
    show Dm n op goal adj (fun x => 32 * g x + 1) s (32 * g s + 1 + (32 * C q + M q))
    rw [this]
    exact d1
theorem bf_goal {g C M : Nat → Nat} (hg : ∀ s, s < n → op s = true → 1 ≤ g s) (h : BF n op goal adj g C M) {s : Nat} (hs : s < n) (hF : C s < 1000000) : (M s ≤ 1 ↔ goal s = true) := by
  obtain ⟨ho, hx⟩ := bf_inv hg h hs hF
  constructor
  · intro hm
    rcases hx with ⟨g0, -, -⟩ | ⟨q, hq, -, hFq, -, e2⟩
    · exact g0
    · have := (h.1 q hq hFq).2.2.1
      omega
  · intro g0
    have hd := dm_goal (n := n) (op := op) (goal := goal) (adj := adj) (c := fun x => 1024 * g x + 1) hs ho g0
    obtain ⟨a1, a2, a3, a4⟩ := h.1 s hs hF
    have e : 1024 * g s + 1 = 1024 * C s + M s := dm_one hd a4
    omega
end
/-! one pass, and how many of them -/
section
variable {n : Nat} {op goal : Nat → Bool} {adj : Nat → Nat → Bool} {g : Nat → Nat}
/-- the rows between passes -/
def BI (n : Nat) (op goal : Nat → Bool) (adj : Nat → Nat → Bool) (g C M : Nat → Nat) : Prop :=
  (∀ s, s < n → (C s = 1000000 ∧ M s = 1000000) ∨ (C s ≤ 10 * fb_ct (fun x => decide (C x < 1000000)) n ∧ M s ≤ C s ∧ 1 ≤ M s ∧ ∃ k, Wk n op goal adj (fun x => 1024 * g x + 1) k s (1024 * C s + M s))) ∧
  (∀ s, s < n → op s = true → goal s = true → C s < 1000000 ∧ 1024 * C s + M s ≤ 1024 * g s + 1)
theorem bi_fin (hn : n ≤ 24) {C M : Nat → Nat} (h : BI n op goal adj g C M) {s : Nat} (hs : s < n) (hF : C s < 1000000) : C s ≤ 240 ∧ M s ≤ C s ∧ 1 ≤ M s ∧ ∃ k, Wk n op goal adj (fun x => 1024 * g x + 1) k s (1024 * C s + M s) := by
  rcases h.1 s hs with ⟨e, -⟩ | ⟨a, b, c, d⟩
  · omega
  · have := fb_ct_le (fun x => decide (C x < 1000000)) n
    exact ⟨by omega, b, c, d⟩
/-- a bettering keeps all that -/
theorem bi_step (hn : n ≤ 24) (hg : ∀ s, s < n → op s = true → 1 ≤ g s ∧ g s ≤ 10) {C M : Nat → Nat} (h : BI n op goal adj g C M) {s q : Nat} (hs : s < n) (hq : q < n) (ho : op s = true) (ha : adj s q = true) (hFq : C q < 1000000) (hl : g s + C q < C s ∨ (g s + C q = C s ∧ 1 + M q < M s)) : BI n op goal adj g (up C s (g s + C q)) (up M s (1 + M q)) := by
  obtain ⟨q1, q2, q3, kq, q4⟩ := bi_fin hn h hq hFq
  have gs := hg s hs ho
  have cnt : fb_ct (fun x => decide (C x < 1000000)) n ≤ fb_ct (fun x => decide (up C s (g s + C q) x < 1000000)) n := by
    apply fb_ct_sub
    intro k hk hh
    have hh := of_decide_eq_true hh
    apply decide_eq_true
    by_cases e : k = s
    · subst e
      rw [up_at]
      omega
    · rw [up_ne e]
      exact hh
  refine ⟨?_, ?_⟩
  · intro x hx
    by_cases e : x = s
    · subst e
      right
      rw [up_at, up_at]
      refine ⟨?_, by omega, by omega, kq + 1, hx, ho, q, 1024 * C q + M q, ha, q4, by show _ = 1024 * g x + 1 + _; omega⟩
      rcases h.1 q hq with ⟨e', -⟩ | ⟨a, -⟩
      · omega
      · rcases h.1 x hx with ⟨e', -⟩ | ⟨a', -⟩
        · have u := fb_ct_upd (fun x => decide (C x < 1000000)) true (i := x) (n := n) hx
          have z : decide (C x < 1000000) = false := decide_eq_false (by omega)
          simp only [z, Bool.false_eq_true, if_false, if_true, Nat.add_zero] at u
          have l : fb_ct (fun k => if k = x then true else decide (C k < 1000000)) n = fb_ct (fun k => decide (up C x (g x + C q) k < 1000000)) n := by
            apply fb_ct_cong
            intro k hk
            by_cases e2 : k = x
            · subst e2
              rw [if_pos rfl, up_at]
              exact (decide_eq_true (by omega)).symm
            · rw [if_neg e2, up_ne e2]
          omega
        · omega
    · rw [up_ne e, up_ne e]
      rcases h.1 x hx with a | ⟨a, b⟩
      · exact Or.inl a
      · exact Or.inr ⟨by omega, b⟩
  · intro x hx ho' hg'
    obtain ⟨a, b⟩ := h.2 x hx ho' hg'
    by_cases e : x = s
    · subst e
      rw [up_at, up_at]
      obtain ⟨x1, x2, x3, -⟩ := bi_fin hn h hx a
      omega
    · rw [up_ne e, up_ne e]
      exact ⟨a, b⟩
/-- a stone whose sum is the least already -/
def Fnl (n : Nat) (op goal : Nat → Bool) (adj : Nat → Nat → Bool) (g C M : Nat → Nat) (s : Nat) : Prop := ∀ v, Dm n op goal adj (fun x => 1024 * g x + 1) s v → C s < 1000000 ∧ 1024 * C s + M s = v
noncomputable def nfl (n : Nat) (op goal : Nat → Bool) (adj : Nat → Nat → Bool) (g C M : Nat → Nat) : Nat := fb_ct (fun s => @decide (¬ Fnl n op goal adj g C M s) (Classical.propDecidable _)) n
/-- what a pass does -/
def Pass (n : Nat) (op goal : Nat → Bool) (adj : Nat → Nat → Bool) (g C M C' M' : Nat → Nat) (b : Bool) : Prop :=
  BI n op goal adj g C' M' ∧ (∀ x, x < n → C x < 1000000 → C' x < 1000000 ∧ 1024 * C' x + M' x ≤ 1024 * C x + M x) ∧
  (∀ s q u, s < n → q < n → op s = true → adj s q = true → Dm n op goal adj (fun x => 1024 * g x + 1) q u → C q < 1000000 → 1024 * C q + M q = u → C' s < 1000000 ∧ 1024 * C' s + M' s ≤ 1024 * g s + 1 + u) ∧
  (b = true → ∃ s, s < n ∧ C' s < 1000000 ∧ (C s < 1000000 → 1024 * C' s + M' s < 1024 * C s + M s))
theorem pass_less (hn : n ≤ 24) {C M C' M' : Nat → Nat} (h0 : BI n op goal adj g C M) (h : Pass n op goal adj g C M C' M' true) : nfl n op goal adj g C' M' < nfl n op goal adj g C M := by
  obtain ⟨h1, h2, h3, h4⟩ := h
  have stay : ∀ s, s < n → Fnl n op goal adj g C M s → Fnl n op goal adj g C' M' s := by
    intro s hs hF v hv
    obtain ⟨a, b⟩ := hF v hv
    obtain ⟨c, d⟩ := h2 s hs a
    obtain ⟨-, -, -, k, wk⟩ := bi_fin hn h1 hs c
    have := hv.2 k _ wk
    exact ⟨c, by omega⟩
  have some : ∃ s, s < n ∧ ¬ Fnl n op goal adj g C M s := by
    obtain ⟨s, hs, c1, c2⟩ := h4 rfl
    refine ⟨s, hs, fun hF => ?_⟩
    obtain ⟨-, -, -, k, wk⟩ := bi_fin hn h1 hs c1
    obtain ⟨v0, d0, l0⟩ := dm_ex wk
    obtain ⟨a, b⟩ := hF v0 d0
    have := c2 a
    omega
  have pick : ∃ s v, s < n ∧ Dm n op goal adj (fun x => 1024 * g x + 1) s v ∧ ¬ Fnl n op goal adj g C M s ∧ ∀ s' v', s' < n → Dm n op goal adj (fun x => 1024 * g x + 1) s' v' → ¬ Fnl n op goal adj g C M s' → v ≤ v' := by
    have ex : ∀ v s, s < n → Dm n op goal adj (fun x => 1024 * g x + 1) s v → ¬ Fnl n op goal adj g C M s → ∃ s v, s < n ∧ Dm n op goal adj (fun x => 1024 * g x + 1) s v ∧ ¬ Fnl n op goal adj g C M s ∧ ∀ s' v', s' < n → Dm n op goal adj (fun x => 1024 * g x + 1) s' v' → ¬ Fnl n op goal adj g C M s' → v ≤ v' := by
      intro v
      induction v using Nat.strongRecOn with
      | ind v ih =>
        intro s hs hd hf
        by_cases c : ∀ s' v', s' < n → Dm n op goal adj (fun x => 1024 * g x + 1) s' v' → ¬ Fnl n op goal adj g C M s' → v ≤ v'
        · exact ⟨s, v, hs, hd, hf, c⟩
        · have : ∃ s' v', s' < n ∧ Dm n op goal adj (fun x => 1024 * g x + 1) s' v' ∧ ¬ Fnl n op goal adj g C M s' ∧ v' < v := by
            refine Classical.byContradiction (fun hn' => c ?_)
            intro s' v' a1 a2 a3
            refine Classical.byContradiction (fun hl => hn' ⟨s', v', a1, a2, a3, by omega⟩)
          obtain ⟨s', v', a1, a2, a3, a4⟩ := this
          exact ih v' a4 s' a1 a2 a3
    obtain ⟨s, hs, hf⟩ := some
    have : ∃ v, Dm n op goal adj (fun x => 1024 * g x + 1) s v := by
      refine Classical.byContradiction (fun hn' => hf ?_)
      intro v hv
      exact absurd ⟨v, hv⟩ hn'
    obtain ⟨v, hv⟩ := this
    exact ex v s hs hv hf
  obtain ⟨s, v, hs, hd, hf, hmin⟩ := pick
  have now : Fnl n op goal adj g C' M' s := by
    intro v' hv'
    have e := dm_one hd hv'
    subst e
    have hso := (dm_s hd).2
    have up' : C' s < 1000000 ∧ 1024 * C' s + M' s ≤ v := by
      rcases dm_inv hd with ⟨g0, e⟩ | ⟨q, u, a, dq, e⟩
      · have := h1.2 s hs hso g0
        exact ⟨this.1, by rw [e]; exact this.2⟩
      · have hq := dm_s dq
        have hFq : Fnl n op goal adj g C M q := by
          refine Classical.byContradiction (fun hn' => ?_)
          have := hmin q u hq.1 dq hn'
          have e : v = 1024 * g s + 1 + u := e
          omega
        obtain ⟨a1, a2⟩ := hFq u dq
        have := h3 s q u hs hq.1 hso a dq a1 a2
        exact ⟨this.1, by have e : v = 1024 * g s + 1 + u := e; omega⟩
    obtain ⟨-, -, -, k, wk⟩ := bi_fin hn h1 hs up'.1
    have := hd.2 k _ wk
    exact ⟨up'.1, by omega⟩
  have sub : fb_ct (fun x => if x = s then true else @decide (¬ Fnl n op goal adj g C' M' x) (Classical.propDecidable _)) n ≤ nfl n op goal adj g C M := by
    apply fb_ct_sub
    intro k hk hh
    by_cases e : k = s
    · subst e
      exact @decide_eq_true _ (Classical.propDecidable _) hf
    · rw [if_neg e] at hh
      have hh := @of_decide_eq_true _ (Classical.propDecidable _) hh
      exact @decide_eq_true _ (Classical.propDecidable _) (fun z => hh (stay k hk z))
  have u := fb_ct_upd (fun x => @decide (¬ Fnl n op goal adj g C' M' x) (Classical.propDecidable _)) true (i := s) (n := n) hs
  have z : @decide (¬ Fnl n op goal adj g C' M' s) (Classical.propDecidable _) = false := @decide_eq_false _ (Classical.propDecidable _) (fun q => q now)
  simp only [z, Bool.false_eq_true, if_false, if_true, Nat.add_zero] at u
  have : nfl n op goal adj g C' M' = fb_ct (fun x => @decide (¬ Fnl n op goal adj g C' M' x) (Classical.propDecidable _)) n := rfl
  omega
theorem nfl_le (C M : Nat → Nat) : nfl n op goal adj g C M ≤ n := fb_ct_le _ _
/-- when nothing can be bettered, all is the least -/
theorem bi_done (hn : n ≤ 24) {C M : Nat → Nat} (h : BI n op goal adj g C M) (hs : ∀ s q, s < n → q < n → op s = true → adj s q = true → C q < 1000000 → C s < 1000000 ∧ 1024 * C s + M s ≤ 1024 * g s + 1 + (1024 * C q + M q)) : BF n op goal adj g C M := by
  have key := fix_min (n := n) (op := op) (goal := goal) (adj := adj) (c := fun x => 1024 * g x + 1) (F := fun s => C s < 1000000) (d := fun s => 1024 * C s + M s) (fun s hs' hF => (bi_fin hn h hs' hF).2.2.2) h.2 (fun s q a b c d e => hs s q a c b d e)
  refine ⟨fun s hs' hF => ?_, fun s v hs' hv => (key s hs').2 ⟨v, hv⟩⟩
  obtain ⟨a, b, c, -⟩ := bi_fin hn h hs' hF
  exact ⟨a, b, c, (key s hs').1 hF⟩
end
