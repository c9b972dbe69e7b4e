/-! ===== MORE ON LEAST SUMS: bounds, no goal, rows ===== -/
section
variable {n : Nat} {op goal : Nat → Bool} {adj : Nat → Nat → Bool} {c : Nat → Nat}
theorem dj_claim2 {B : Nat} {S : Nat → Bool} {t : Nat → Nat} (h : Dj n op goal adj c B S t) (h0 : ∀ u, u < n → c u < B) (h1 : ∀ u q, u < n → q < n → S q = true → c u + t q < B) : ∀ k s v, Wk n op goal adj c k s v → S s = false → ∃ u, u < n ∧ op u = true ∧ S u = false ∧ t u ≤ v ∧ t u < B := by
  obtain ⟨d1, d2, d3, d4⟩ := h
  intro k
  induction k with
  | zero =>
    intro s v a hS
    have e := d3 s a.1 a.2.1 hS a.2.2.1
    have := h0 s a.1
    exact ⟨s, a.1, a.2.1, hS, by rw [a.2.2.2]; exact e, by omega⟩
  | succ k ih =>
    intro s v a hS
    obtain ⟨a1, a2, q, u, a3, a4, a5⟩ := a
    cases hq : S q
    · obtain ⟨u', b1, b2, b3, b4, b5⟩ := ih q u a4 hq
      exact ⟨u', b1, b2, b3, by omega, b5⟩
    · have hqn := (wk_s a4).1
      have e := d4 s q a1 a2 hS hqn hq a3
      have e2 := (d1 q hqn hq).2 k u a4
      have e3 := h1 s q a1 hqn hq
      exact ⟨s, a1, a2, hS, by omega, by omega⟩
theorem no_goal (h : ∀ s, s < n → op s = true → goal s = false) : ∀ k s v, ¬ Wk n op goal adj c k s v := by
  intro k
  induction k with
  | zero =>
    intro s v a
    have := h s a.1 a.2.1
    rw [a.2.2.1] at this
    cases this
  | succ k ih =>
    intro s v a
    obtain ⟨-, -, q, u, -, a4, -⟩ := a
    exact ih q u a4
/-- what is known when the spreading ends -/
def Spr (n : Nat) (op goal : Nat → Bool) (adj : Nat → Nat → Bool) (c : Nat → Nat) (B : Nat) (bg : Nat → Bool) (t : Nat → Nat) : Prop :=
  ∃ S : Nat → Bool, Dj n op goal adj c B S t ∧ (∀ u, u < n → c u < B) ∧ (∀ u q, u < n → q < n → S q = true → c u + t q < B) ∧ (∀ x, x < n → S x = true → bg x = false) ∧
  ((∀ x, x < n → op x = true → S x = false → B ≤ t x) ∨ ∃ s0, s0 < n ∧ op s0 = true ∧ S s0 = false ∧ bg s0 = true ∧ t s0 < B ∧ (∀ u, u < n → op u = true → S u = false → t s0 ≤ t u) ∧ ∀ u, u < s0 → op u = true → S u = false → t s0 < t u)
/-- the least of some places, the first of several: how the search tells it -/
def Lst (B : Nat) (m : Nat → Bool) (t : Nat → Nat) (r : Int32) : Prop := (r = mI 1 ∧ ∀ s, m s = true → B ≤ t s) ∨ ∃ b, r = nI b ∧ b < 32 ∧ m b = true ∧ t b < B ∧ (∀ s, m s = true → t b ≤ t s) ∧ ∀ s, s < b → m s = true → t b < t s
/-- where to begin -/
theorem spr_begin (hc : ∀ s, s < n → 1 ≤ c s) {B : Nat} {bg : Nat → Bool} {t : Nat → Nat} (hbg : ∀ s, bg s = true → s < n ∧ op s = true) (h : Spr n op goal adj c B bg t) {r : Int32} (hr : Lst B bg t r) :
    (r = mI 1 ∧ IsRow n op goal bg adj c []) ∨ ∃ s0, r = nI s0 ∧ s0 < n ∧ (Fst n op goal bg adj c s0 ∧ ∀ s', s' < s0 → ¬ Fst n op goal bg adj c s') ∧ Dm n op goal adj c s0 (t s0) ∧ t s0 < B ∧ ∀ b v, Dm n op goal adj c b v → v ≤ t s0 → t b = v := by
  obtain ⟨S, hd, h0, h1, hS, hx⟩ := h
  have un : ∀ s, bg s = true → S s = false := by
    intro s hs
    cases q : S s
    · rfl
    · have := hS s (hbg s hs).1 q
      rw [hs] at this
      cases this
  rcases hx with hx | ⟨s0, x1, x2, x3, x4, x5, x6, x7⟩
  · left
    refine ⟨?_, ?_⟩
    · rcases hr with ⟨e, -⟩ | ⟨b, e, b1, b2, b3, -⟩
      · exact e
      · have := hx b (hbg b b2).1 (hbg b b2).2 (un b b2)
        omega
    · intro s v hs hd'
      obtain ⟨⟨k, a⟩, -⟩ := hd'
      obtain ⟨u, u1, u2, u3, u4, u5⟩ := dj_claim2 hd h0 h1 k s v a (un s hs)
      have := hx u u1 u2 u3
      omega
  · right
    have hsm : ∀ b v, Dm n op goal adj c b v → v ≤ t s0 → t b = v := fun b v hb hv => dj_small hc hd (m := t s0) x6 x5 hb hv
    have hD : Dm n op goal adj c s0 (t s0) := dj_pick hd x1 x3 x5 x6
    have hmin : ∀ s' v', bg s' = true → Dm n op goal adj c s' v' → t s0 ≤ v' := by
      intro s' v' hs hd'
      obtain ⟨⟨k, a⟩, -⟩ := hd'
      obtain ⟨u, u1, u2, u3, u4⟩ := dj_claim hd k s' v' a (un s' hs)
      have := x6 u u1 u2 u3
      omega
    have he : r = nI s0 := by
      rcases hr with ⟨-, e⟩ | ⟨b, e, b1, b2, b3, b4, b5⟩
      · have := e s0 x4
        omega
      · have y1 := b4 s0 x4
        have y2 := x6 b (hbg b b2).1 (hbg b b2).2 (un b b2)
        rcases Nat.lt_trichotomy b s0 with q | q | q
        · have := x7 b q (hbg b b2).2 (un b b2)
          omega
        · rw [e, q]
        · have := b5 s0 q x4
          omega
    refine ⟨s0, he, x1, ⟨⟨x4, t s0, hD, hmin⟩, ?_⟩, hD, x5, hsm⟩
    rintro s' hs' ⟨f1, v, f2, f3⟩
    have l1 := f3 s0 (t s0) x4 hD
    have l2 := hsm s' v f2 l1
    have l3 := x7 s' hs' (hbg s' f1).2 (un s' f1)
    omega
/-- how to go on -/
theorem spr_next (hc : ∀ s, s < n → 1 ≤ c s) {B : Nat} {bg : Nat → Bool} {t : Nat → Nat} (h : Spr n op goal adj c B bg t) {s : Nat} (hs : Dm n op goal adj c s (t s)) (hB : t s < B) (hsm : ∀ b v, Dm n op goal adj c b v → v ≤ t s → t b = v) :
    (t s ≤ c s → goal s = true) ∧ (c s < t s → goal s = false ∧ ∀ r, Lst B (fun x => adj s x && (decide (x < n) && op x)) t r → ∃ b, r = nI b ∧ b < n ∧ (Nxt n op goal adj c s b ∧ ∀ q, q < b → ¬ Nxt n op goal adj c s q) ∧ Dm n op goal adj c b (t b) ∧ t b < t s) := by
  obtain ⟨S, hd, h0, h1, hS, hx⟩ := h
  obtain ⟨hsn, hso⟩ := dm_s hs
  have cs := hc s hsn
  refine ⟨?_, ?_⟩
  · intro hle
    rcases dm_inv hs with ⟨g, -⟩ | ⟨q, u, a, b, e⟩
    · exact g
    · have := dm_c b
      have := hc q (dm_s b).1
      omega
  · intro hlt
    refine ⟨?_, ?_⟩
    · cases g : goal s
      · rfl
      · have := dm_one hs (dm_goal hsn hso g)
        omega
    · intro r hr
      rcases dm_inv hs with ⟨g, e⟩ | ⟨q, u, a, b, e⟩
      · omega
      · have hq := dm_s b
        have tq : t q = u := hsm q u b (by omega)
        have hqm : (adj s q && (decide (q < n) && op q)) = true := by simp [a, hq.1, hq.2]
        have low : ∀ x, (adj s x && (decide (x < n) && op x)) = true → t x < B → ∃ v, Dm n op goal adj c x v ∧ v ≤ t x ∧ u ≤ v := by
          intro x hx' hxB
          simp only [Bool.and_eq_true, decide_eq_true_eq] at hx'
          obtain ⟨v, d, l⟩ := dj_low hd hx'.2.1 hxB
          obtain ⟨v', d', l'⟩ := dm_step (s := s) hsn hso hx'.1 d
          have := dm_one hs d'
          exact ⟨v, d, l, by omega⟩
        rcases hr with ⟨-, e2⟩ | ⟨b', e2, b1, b2, b3, b4, b5⟩
        · have := e2 q hqm
          omega
        · obtain ⟨v, d, l1, l2⟩ := low b' b2 b3
          have l3 := b4 q hqm
          have ev : v = u := by omega
          have et : t b' = u := by omega
          have b2' := b2
          simp only [Bool.and_eq_true, decide_eq_true_eq] at b2'
          refine ⟨b', e2, b2'.2.1, ⟨⟨b2'.1, u, by rw [← ev]; exact d, by rw [← e]; exact hs⟩, ?_⟩, by rw [et, ← ev]; exact d, by omega⟩
          rintro x hx' ⟨x1, u', x2, x3⟩
          have e4 := dm_one hs x3
          have hu : u' = u := by omega
          subst hu
          have tx := hsm x u' x2 (by omega)
          have hxs := dm_s x2
          have := b5 x hx' (by simp [x1, hxs.1, hxs.2])
          omega
end
theorem rowW_eq {w : Nat → Nat} {r wt way bank : Nat} {l : List Nat} (h : IsRow (w 3) (opn w wt) (fun s => opn w wt s && stp w s (197 - bank) r) (fun s => opn w wt s && stp w bank s r) (adw w r) (fun s => 32 * costW w way s + 1) l) : rowW w r wt way bank = l := by
  unfold rowW
  exact isRow_one (Classical.epsilon_spec (p := fun l => IsRow (w 3) (opn w wt) (fun s => opn w wt s && stp w s (197 - bank) r) (fun s => opn w wt s && stp w bank s r) (adw w r) (fun s => 32 * costW w way s + 1) l) ⟨l, h⟩) h
theorem findW_row {w : Nat → Nat} {r wt way bank : Nat} {l : List Nat} (hr : ¬ w 1 ≤ r) (h : IsRow (w 3) (opn w wt) (fun s => opn w wt s && stp w s (197 - bank) r) (fun s => opn w wt s && stp w bank s r) (adw w r) (fun s => 32 * costW w way s + 1) l) : findW w r wt way bank = if l = [] then none else some l := by
  unfold findW
  rw [if_neg hr, rowW_eq h]
theorem cost_rng {w : Nat → Nat} (hG : Good w) {way wt s : Nat} (hs : s < w 3) (hw : 1 ≤ wt) : costW w way s ≤ 10 ∧ (opn w wt s = true → 1 ≤ costW w way s) := by
  have n := hG.1
  have l := lf_le hG hs
  have cr : crowd w s ≤ w 4 := fb_ct_le _ _
  unfold costW opn
  constructor
  · repeat' split
    all_goals omega
  · intro h
    have h := of_decide_eq_true h
    repeat' split
    all_goals omega
theorem rowF_facts {n : Nat} {op goal : Nat → Bool} {adj : Nat → Nat → Bool} {c : Nat → Nat} (hc : ∀ s, s < n → 1 ≤ c s) : ∀ (l : List Nat) (s v : Nat), Dm n op goal adj c s v → RowF n op goal adj c s l → (∀ x, x ∈ l → ∃ u, Dm n op goal adj c x u ∧ u < v) ∧ l.Nodup
  | [], s, v, _, _ => ⟨fun x hx => absurd hx (by simp), List.nodup_nil⟩
  | q :: l, s, v, hd, h => by
    obtain ⟨-, ⟨⟨-, u, h2, h3⟩, -⟩, h4⟩ := h
    have e := dm_one hd h3
    have hs := hc s (dm_s hd).1
    obtain ⟨a, b⟩ := rowF_facts hc l q u h2 h4
    refine ⟨fun x hx => ?_, ?_⟩
    · rcases List.mem_cons.mp hx with rfl | hx
      · exact ⟨u, h2, by omega⟩
      · obtain ⟨u', d, l'⟩ := a x hx
        exact ⟨u', d, by omega⟩
    · refine List.nodup_cons.mpr ⟨fun hq => ?_, b⟩
      obtain ⟨u', d, l'⟩ := a q hq
      have := dm_one d h2
      omega
theorem isRow_facts {n : Nat} {op goal bg : Nat → Bool} {adj : Nat → Nat → Bool} {c : Nat → Nat} (hc : ∀ s, s < n → 1 ≤ c s) {l : List Nat} (h : IsRow n op goal bg adj c l) : (∀ x, x ∈ l → x < n ∧ op x = true) ∧ l.Nodup := by
  cases l with
  | nil => exact ⟨fun x hx => absurd hx (by simp), List.nodup_nil⟩
  | cons s l =>
    obtain ⟨⟨⟨-, v, hd, -⟩, -⟩, h2⟩ := h
    obtain ⟨a, b⟩ := rowF_facts hc l s v hd h2
    refine ⟨fun x hx => ?_, ?_⟩
    · rcases List.mem_cons.mp hx with rfl | hx
      · exact dm_s hd
      · obtain ⟨u', d, l'⟩ := a x hx
        exact dm_s d
    · refine List.nodup_cons.mpr ⟨fun hq => ?_, b⟩
      obtain ⟨u', d, l'⟩ := a s hq
      have := dm_one d hd
      omega
