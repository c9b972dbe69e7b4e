/-! ===== LEAST SUMS OVER WALKS TO A GOAL (no machine in it) ===== -/
def Wk (n : Nat) (op goal : Nat → Bool) (adj : Nat → Nat → Bool) (c : Nat → Nat) : Nat → Nat → Nat → Prop
  | 0, s, v => s < n ∧ op s = true ∧ goal s = true ∧ v = c s
  | k + 1, s, v => s < n ∧ op s = true ∧ ∃ q u, adj s q = true ∧ Wk n op goal adj c k q u ∧ v = c s + u
def Dm (n : Nat) (op goal : Nat → Bool) (adj : Nat → Nat → Bool) (c : Nat → Nat) (s v : Nat) : Prop := (∃ k, Wk n op goal adj c k s v) ∧ ∀ k v', Wk n op goal adj c k s v' → v ≤ v'
section
variable {n : Nat} {op goal : Nat → Bool} {adj : Nat → Nat → Bool} {c : Nat → Nat}
theorem wk_s {k s v : Nat} (h : Wk n op goal adj c k s v) : s < n ∧ op s = true := by
  cases k with
  | zero => exact ⟨h.1, h.2.1⟩
  | succ k => exact ⟨h.1, h.2.1⟩
theorem wk_c {k s v : Nat} (h : Wk n op goal adj c k s v) : c s ≤ v := by
  cases k with
  | zero => exact Nat.le_of_eq h.2.2.2.symm
  | succ k =>
    obtain ⟨-, -, q, u, -, -, e⟩ := h
    omega
theorem dm_ex : ∀ {v k s : Nat}, Wk n op goal adj c k s v → ∃ v0, Dm n op goal adj c s v0 ∧ v0 ≤ v := by
  intro v
  induction v using Nat.strongRecOn with
  | ind v ih =>
    intro k s h
    by_cases hm : ∀ k v', Wk n op goal adj c k s v' → v ≤ v'
    · exact ⟨v, ⟨⟨k, h⟩, hm⟩, Nat.le_refl _⟩
    · have : ∃ k v', Wk n op goal adj c k s v' ∧ v' < v := by
        refine Classical.byContradiction (fun hn => hm ?_)
        intro k' v' hw
        refine Classical.byContradiction (fun hl => hn ⟨k', v', hw, by omega⟩)
      obtain ⟨k', v', hw, hl⟩ := this
      obtain ⟨v0, a, b⟩ := ih v' hl hw
      exact ⟨v0, a, by omega⟩
theorem dm_one {s v v' : Nat} (h : Dm n op goal adj c s v) (h' : Dm n op goal adj c s v') : v = v' := by
  obtain ⟨⟨k, a⟩, b⟩ := h
  obtain ⟨⟨k', a'⟩, b'⟩ := h'
  have := b _ _ a'
  have := b' _ _ a
  omega
theorem dm_s {s v : Nat} (h : Dm n op goal adj c s v) : s < n ∧ op s = true := by
  obtain ⟨⟨k, a⟩, -⟩ := h
  exact wk_s a
theorem dm_c {s v : Nat} (h : Dm n op goal adj c s v) : c s ≤ v := by
  obtain ⟨⟨k, a⟩, -⟩ := h
  exact wk_c a
theorem dm_goal {s : Nat} (hs : s < n) (ho : op s = true) (hg : goal s = true) : Dm n op goal adj c s (c s) := by
  refine ⟨⟨0, hs, ho, hg, rfl⟩, ?_⟩
  intro k v' h
  exact wk_c h
theorem dm_step {s q u : Nat} (hs : s < n) (ho : op s = true) (ha : adj s q = true) (hq : Dm n op goal adj c q u) : ∃ v, Dm n op goal adj c s v ∧ v ≤ c s + u := by
  obtain ⟨⟨k, a⟩, -⟩ := hq
  exact dm_ex (k := k + 1) (v := c s + u) ⟨hs, ho, q, u, ha, a, rfl⟩
theorem dm_inv {s v : Nat} (h : Dm n op goal adj c s v) : (goal s = true ∧ v = c s) ∨ ∃ q u, adj s q = true ∧ Dm n op goal adj c q u ∧ v = c s + u := by
  obtain ⟨⟨k, a⟩, b⟩ := h
  cases k with
  | zero => exact Or.inl ⟨a.2.2.1, a.2.2.2⟩
  | succ k =>
    obtain ⟨h1, h2, q, u, h3, h4, h5⟩ := a
    obtain ⟨u0, d, l⟩ := dm_ex h4
    obtain ⟨⟨k0, w0⟩, m0⟩ := id d
    have := b (k0 + 1) (c s + u0) ⟨h1, h2, q, u0, h3, w0, rfl⟩
    have : u0 = u := by omega
    subst this
    exact Or.inr ⟨q, u0, h3, d, h5⟩
/-- values that can't be bettered and that are come by are the least ones -/
theorem bell_min (hc : ∀ s, s < n → 1 ≤ c s) {F : Nat → Prop} {d : Nat → Nat}
    (b1 : ∀ s, s < n → op s = true → goal s = true → F s ∧ d s ≤ c s)
    (b2 : ∀ s q, s < n → op s = true → q < n → adj s q = true → F q → F s ∧ d s ≤ c s + d q)
    (b3 : ∀ s, s < n → F s → op s = true ∧ ((goal s = true ∧ d s = c s) ∨ ∃ q, q < n ∧ adj s q = true ∧ F q ∧ d s = c s + d q)) :
    ∀ s, s < n → (F s → Dm n op goal adj c s (d s)) ∧ ((∃ v, Dm n op goal adj c s v) → F s) := by
  have low : ∀ k s v, Wk n op goal adj c k s v → F s ∧ d s ≤ v := by
    intro k
    induction k with
    | zero =>
      intro s v h
      have := b1 s h.1 h.2.1 h.2.2.1
      exact ⟨this.1, by rw [h.2.2.2]; exact this.2⟩
    | succ k ih =>
      intro s v h
      obtain ⟨h1, h2, q, u, h3, h4, h5⟩ := h
      have i := ih q u h4
      have := b2 s q h1 h2 (wk_s h4).1 h3 i.1
      exact ⟨this.1, by omega⟩
  have got : ∀ v s, s < n → F s → d s = v → ∃ k, Wk n op goal adj c k s v := by
    intro v
    induction v using Nat.strongRecOn with
    | ind v ih =>
      intro s hs hF e
      obtain ⟨ho, h⟩ := b3 s hs hF
      rcases h with ⟨g, e2⟩ | ⟨q, hq, ha, hFq, e2⟩
      · exact ⟨0, hs, ho, g, by omega⟩
      · have := hc s hs
        obtain ⟨k, w⟩ := ih (d q) (by omega) q hq hFq rfl
        exact ⟨k + 1, hs, ho, q, d q, ha, w, by omega⟩
  intro s hs
  refine ⟨fun hF => ⟨got _ s hs hF rfl, fun k v' h => (low k s v' h).2⟩, ?_⟩
  rintro ⟨v, ⟨k, h⟩, -⟩
  exact (low k s v h).1
/-- the settled ones have their least sums; the others' are walks' sums, and no greater than over a settled one -/
def Dj (n : Nat) (op goal : Nat → Bool) (adj : Nat → Nat → Bool) (c : Nat → Nat) (B : Nat) (S : Nat → Bool) (t : Nat → Nat) : Prop :=
  (∀ s, s < n → S s = true → Dm n op goal adj c s (t s)) ∧
  (∀ s, s < n → S s = false → t s < B → ∃ k, Wk n op goal adj c k s (t s)) ∧
  (∀ s, s < n → op s = true → S s = false → goal s = true → t s ≤ c s) ∧
  (∀ s q, s < n → op s = true → S s = false → q < n → S q = true → adj s q = true → t s ≤ c s + t q)
theorem dj_claim {B : Nat} {S : Nat → Bool} {t : Nat → Nat} (h : Dj n op goal adj c B S t) : ∀ k s v, Wk n op goal adj c k s v → S s = false → ∃ u, u < n ∧ op u = true ∧ S u = false ∧ t u ≤ v := by
  obtain ⟨d1, d2, d3, d4⟩ := h
  intro k
  induction k with
  | zero =>
    intro s v a hS
    exact ⟨s, a.1, a.2.1, hS, by rw [a.2.2.2]; exact d3 s a.1 a.2.1 hS a.2.2.1⟩
  | succ k ih =>
    intro s v a hS
    obtain ⟨h1, h2, q, u, h3, h4, h5⟩ := a
    cases hq : S q
    · obtain ⟨u', a1, a2, a3, a4⟩ := ih q u h4 hq
      exact ⟨u', a1, a2, a3, by omega⟩
    · have hqn := (wk_s h4).1
      have e := d4 s q h1 h2 hS hqn hq h3
      have e2 := (d1 q hqn hq).2 k u h4
      exact ⟨s, h1, h2, hS, by omega⟩
theorem dj_pick {B : Nat} {S : Nat → Bool} {t : Nat → Nat} (h : Dj n op goal adj c B S t) {s : Nat} (hs : s < n) (hS : S s = false) (hB : t s < B) (hl : ∀ u, u < n → op u = true → S u = false → t s ≤ t u) : Dm n op goal adj c s (t s) := by
  refine ⟨h.2.1 s hs hS hB, ?_⟩
  intro k v a
  obtain ⟨u, a1, a2, a3, a4⟩ := dj_claim h k s v a hS
  have := hl u a1 a2 a3
  omega
theorem dj_relax (hsym : ∀ a b, adj a b = adj b a) {B : Nat} {S S' : Nat → Bool} {t t' : Nat → Nat} (h : Dj n op goal adj c B S t) {s : Nat} (hs : s < n) (hd : Dm n op goal adj c s (t s))
    (hS' : ∀ x, x < n → S' x = (S x || decide (x = s)))
    (ht' : ∀ x, x < n → t' x = if op x = true ∧ S' x = false ∧ adj s x = true then min (t x) (t s + c x) else t x) : Dj n op goal adj c B S' t' := by
  obtain ⟨d1, d2, d3, d4⟩ := h
  have keep : ∀ x, x < n → S' x = true → t' x = t x := by
    intro x hx hx'
    rw [ht' x hx, if_neg (fun q => by rw [hx'] at q; exact absurd q.2.1 (by decide))]
  have le : ∀ x, x < n → t' x ≤ t x := by
    intro x hx
    rw [ht' x hx]
    split
    · exact Nat.min_le_left _ _
    · exact Nat.le_refl _
  have hs' : S' s = true := by rw [hS' s hs]; simp
  refine ⟨?_, ?_, ?_, ?_⟩
  · intro x hx hx'
    rw [keep x hx hx']
    rw [hS' x hx] at hx'
    by_cases e : x = s
    · rw [e]
      exact hd
    · exact d1 x hx (by simpa [e] using hx')
  · intro x hx hx' hB
    have hSx : S x = false ∧ x ≠ s := by
      rw [hS' x hx] at hx'
      simpa using hx'
    rw [ht' x hx] at hB ⊢
    by_cases cnd : op x = true ∧ S' x = false ∧ adj s x = true
    · rw [if_pos cnd] at hB ⊢
      rcases Nat.le_total (t x) (t s + c x) with q | q
      · rw [Nat.min_eq_left q] at hB ⊢
        exact d2 x hx hSx.1 hB
      · rw [Nat.min_eq_right q] at hB ⊢
        obtain ⟨⟨k, a⟩, -⟩ := hd
        exact ⟨k + 1, hx, cnd.1, s, t s, by rw [hsym]; exact cnd.2.2, a, by omega⟩
    · rw [if_neg cnd] at hB ⊢
      exact d2 x hx hSx.1 hB
  · intro x hx ho hx' hg
    have hSx : S x = false ∧ x ≠ s := by
      rw [hS' x hx] at hx'
      simpa using hx'
    exact Nat.le_trans (le x hx) (d3 x hx ho hSx.1 hg)
  · intro x q hx ho hx' hq hq' ha
    have hSx : S x = false ∧ x ≠ s := by
      rw [hS' x hx] at hx'
      simpa using hx'
    rw [keep q hq hq']
    by_cases e : q = s
    · subst e
      rw [ht' x hx, if_pos ⟨ho, hx', by rw [hsym]; exact ha⟩]
      have := Nat.min_le_right (t x) (t q + c x)
      omega
    · rw [hS' q hq] at hq'
      have := d4 x q hx ho hSx.1 hq (by simpa [e] using hq') ha
      have := le x hx
      omega
/-- where the least sum is no more than the unsettled ones', the sum at hand is it -/
theorem dj_small (hc : ∀ s, s < n → 1 ≤ c s) {B : Nat} {S : Nat → Bool} {t : Nat → Nat} (h : Dj n op goal adj c B S t) {m : Nat} (hm : ∀ u, u < n → op u = true → S u = false → m ≤ t u) (hmB : m < B) {b v : Nat} (hd : Dm n op goal adj c b v) (hv : v ≤ m) : t b = v := by
  obtain ⟨hb, hob⟩ := dm_s hd
  cases hS : S b
  · have up : t b ≤ v := by
      rcases dm_inv hd with ⟨g, e⟩ | ⟨q, u, a, dq, e⟩
      · rw [e]
        exact h.2.2.1 b hb hob hS g
      · have hq := dm_s dq
        cases hSq : S q
        · exfalso
          obtain ⟨⟨k, wq⟩, -⟩ := dq
          obtain ⟨u', a1, a2, a3, a4⟩ := dj_claim h k q u wq hSq
          have := hm u' a1 a2 a3
          have := hc b hb
          omega
        · have := h.2.2.2 b q hb hob hS hq.1 hSq a
          have := dm_one dq (h.1 q hq.1 hSq)
          omega
    obtain ⟨k, wb⟩ := h.2.1 b hb hS (by omega)
    have := hd.2 k _ wb
    omega
  · exact dm_one (h.1 b hb hS) hd
/-- and any sum at hand is no less than the least -/
theorem dj_low {B : Nat} {S : Nat → Bool} {t : Nat → Nat} (h : Dj n op goal adj c B S t) {s : Nat} (hs : s < n) (hB : t s < B) : ∃ v, Dm n op goal adj c s v ∧ v ≤ t s := by
  cases hS : S s
  · obtain ⟨k, a⟩ := h.2.1 s hs hS hB
    exact dm_ex a
  · exact ⟨t s, h.1 s hs hS, Nat.le_refl _⟩
end
/-! the row of stones: the first of the least, and on by the first that gives the least -/
def Nxt (n : Nat) (op goal : Nat → Bool) (adj : Nat → Nat → Bool) (c : Nat → Nat) (s q : Nat) : Prop := adj s q = true ∧ ∃ u, Dm n op goal adj c q u ∧ Dm n op goal adj c s (c s + u)
def RowF (n : Nat) (op goal : Nat → Bool) (adj : Nat → Nat → Bool) (c : Nat → Nat) : Nat → List Nat → Prop
  | s, [] => goal s = true
  | s, q :: l => goal s = false ∧ (Nxt n op goal adj c s q ∧ ∀ q', q' < q → ¬ Nxt n op goal adj c s q') ∧ RowF n op goal adj c q l
def Fst (n : Nat) (op goal bg : Nat → Bool) (adj : Nat → Nat → Bool) (c : Nat → Nat) (s : Nat) : Prop := bg s = true ∧ ∃ v, Dm n op goal adj c s v ∧ ∀ s' v', bg s' = true → Dm n op goal adj c s' v' → v ≤ v'
def IsRow (n : Nat) (op goal bg : Nat → Bool) (adj : Nat → Nat → Bool) (c : Nat → Nat) : List Nat → Prop
  | [] => ∀ s v, bg s = true → ¬ Dm n op goal adj c s v
  | s :: l => (Fst n op goal bg adj c s ∧ ∀ s', s' < s → ¬ Fst n op goal bg adj c s') ∧ RowF n op goal adj c s l
theorem first_one {P : Nat → Prop} {a b : Nat} (ha : P a) (ha' : ∀ x, x < a → ¬ P x) (hb : P b) (hb' : ∀ x, x < b → ¬ P x) : a = b := by
  rcases Nat.lt_or_ge a b with h | h
  · exact absurd ha (hb' a h)
  · rcases Nat.lt_or_ge b a with h2 | h2
    · exact absurd hb (ha' b h2)
    · omega
theorem rowF_one {n : Nat} {op goal : Nat → Bool} {adj : Nat → Nat → Bool} {c : Nat → Nat} : ∀ {l l' : List Nat} {s : Nat}, RowF n op goal adj c s l → RowF n op goal adj c s l' → l = l'
  | [], [], _, _, _ => rfl
  | [], q :: l, s, h, h' => by
    have a : goal s = true := h
    have b := h'.1
    rw [a] at b
    cases b
  | q :: l, [], s, h, h' => by
    have a : goal s = true := h'
    have b := h.1
    rw [a] at b
    cases b
  | q :: l, q' :: l', s, h, h' => by
    have e : q = q' := first_one h.2.1.1 h.2.1.2 h'.2.1.1 h'.2.1.2
    subst e
    rw [rowF_one h.2.2 h'.2.2]
theorem isRow_one {n : Nat} {op goal bg : Nat → Bool} {adj : Nat → Nat → Bool} {c : Nat → Nat} {l l' : List Nat} (h : IsRow n op goal bg adj c l) (h' : IsRow n op goal bg adj c l') : l = l' := by
  cases l with
  | nil =>
    cases l' with
    | nil => rfl
    | cons s l =>
      obtain ⟨⟨a, v, d, -⟩, -⟩ := h'.1
      exact absurd d (h s v a)
  | cons s l =>
    cases l' with
    | nil =>
      obtain ⟨⟨a, v, d, -⟩, -⟩ := h.1
      exact absurd d (h' s v a)
    | cons s' l' =>
      have e : s = s' := first_one h.1.1 h.1.2 h'.1.1 h'.1.2
      subst e
      rw [rowF_one h.2 h'.2]
