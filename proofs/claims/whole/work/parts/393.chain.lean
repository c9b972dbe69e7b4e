/-! ===== THE COMPONENT'S SEARCH AND PUSH (no machine in it) ===== -/
/-- codes: an entry s, an exit 32 + s -/
def vd (c : Nat) : Prop := c < 25 ∨ (32 ≤ c ∧ c < 57)
/-- one more may go from a to c -/
def ed (b : Nat → Nat) (adj : Nat → Nat → Bool) (g : Nat → Nat) (h : Nat → Nat → Nat) (a c : Nat) : Prop :=
  (a < 25 ∧ 32 ≤ c ∧ c < 57 ∧ ((c = 32 + a ∧ g a < b a) ∨ (c ≠ 32 + a ∧ 0 < h (c - 32) a))) ∨
  (32 ≤ a ∧ a < 57 ∧ c < 25 ∧ ((a = 32 + c ∧ 0 < g c) ∨ (a ≠ 32 + c ∧ adj (a - 32) c = true)))
def Sb (near : Nat → Bool) (ed : Nat → Nat → Prop) (q : Nat → Nat) (vis : Nat → Bool) (par rk : Nat → Nat) (e : Nat) : Prop :=
  (∀ i, i < e → vd (q i) ∧ vis (q i) = true ∧ rk (q i) = i) ∧
  (∀ c, vd c → vis c = true → rk c < e ∧ q (rk c) = c ∧ ((par c = 64 ∧ c < 25 ∧ near c = true) ∨ (vd (par c) ∧ vis (par c) = true ∧ rk (par c) < rk c ∧ ed (par c) c))) ∧
  ∀ X : Nat → Bool, (∀ c, c < 25 → near c = true → X c = true) → (∀ a c, vd a → vd c → X a = true → ed a c → X c = true) → ∀ c, vd c → vis c = true → X c = true
theorem sb_le {near : Nat → Bool} {ed : Nat → Nat → Prop} {q : Nat → Nat} {vis : Nat → Bool} {par rk : Nat → Nat} {e : Nat} (h : Sb near ed q vis par rk e) : e ≤ 50 := by
  refine fb_holes 50 e (fun i => if q i < 25 then q i else q i - 7) ?_ ?_
  · intro i hi
    have := (h.1 i hi).1
    unfold vd at this
    show (if q i < 25 then q i else q i - 7) < 50
    split <;> omega
  · intro i j hij hj
    show (if q i < 25 then q i else q i - 7) ≠ (if q j < 25 then q j else q j - 7)
    intro z
    have v1 := (h.1 i (by omega)).1
    have v2 := (h.1 j hj).1
    unfold vd at v1 v2
    have : q i = q j := by
      split at z <;> split at z <;> omega
    have a1 := (h.1 i (by omega)).2.2
    have a2 := (h.1 j hj).2.2
    rw [this] at a1
    omega
theorem sb_lt {near : Nat → Bool} {ed : Nat → Nat → Prop} {q : Nat → Nat} {vis : Nat → Bool} {par rk : Nat → Nat} {e : Nat} (h : Sb near ed q vis par rk e) {b : Nat} (hb : vd b) (hv : vis b = false) : e < 50 := by
  have := fb_holes 50 (e + 1) (fun i => if (if i < e then q i else b) < 25 then (if i < e then q i else b) else (if i < e then q i else b) - 7) (by
    intro i hi
    show (if (if i < e then q i else b) < 25 then (if i < e then q i else b) else (if i < e then q i else b) - 7) < 50
    have : vd (if i < e then q i else b) := by
      split
      · rename_i c
        exact (h.1 i c).1
      · exact hb
    unfold vd at this
    generalize (if i < e then q i else b) = z at *
    split <;> omega) (by
    intro i j hij hj
    show (if (if i < e then q i else b) < 25 then (if i < e then q i else b) else (if i < e then q i else b) - 7) ≠ (if (if j < e then q j else b) < 25 then (if j < e then q j else b) else (if j < e then q j else b) - 7)
    rw [if_pos (show i < e by omega)]
    intro z
    have v1 := (h.1 i (by omega)).1
    have v2 : vd (if j < e then q j else b) := by
      split
      · rename_i c
        exact (h.1 j c).1
      · exact hb
    unfold vd at v1 v2
    have eq : q i = (if j < e then q j else b) := by
      generalize (if j < e then q j else b) = y at *
      split at z <;> split at z <;> omega
    by_cases c : j < e
    · rw [if_pos c] at eq
      have a1 := (h.1 i (by omega)).2.2
      have a2 := (h.1 j c).2.2
      rw [eq] at a1
      omega
    · rw [if_neg c] at eq
      have a1 := (h.1 i (by omega)).2.1
      rw [eq, hv] at a1
      cases a1)
  omega
theorem sb_add {near : Nat → Bool} {ed : Nat → Nat → Prop} {q : Nat → Nat} {vis : Nat → Bool} {par rk : Nat → Nat} {e : Nat} (h : Sb near ed q vis par rk e) {a b : Nat} (hb : vd b) (hvb : vis b = false) (hR : (a = 64 ∧ b < 25 ∧ near b = true) ∨ (vd a ∧ vis a = true ∧ ed a b)) : Sb near ed (up q e b) (fun x => vis x || decide (x = b)) (up par b a) (up rk b e) (e + 1) := by
  obtain ⟨h1, h2, h4⟩ := h
  have nb : ∀ x, vis x = true → x ≠ b := fun x hx z => by rw [z, hvb] at hx; cases hx
  refine ⟨?_, ?_, ?_⟩
  · intro i hi
    by_cases c : i = e
    · subst c
      rw [up_at]
      exact ⟨hb, by simp, up_at⟩
    · obtain ⟨x1, x2, x3⟩ := h1 i (by omega)
      rw [up_ne c, up_ne (nb _ x2)]
      exact ⟨x1, (by show (vis (q i) || decide (q i = b)) = true; rw [x2]; rfl), x3⟩
  · intro x hx hv
    by_cases c : x = b
    · subst c
      rw [up_at, up_at, up_at]
      refine ⟨by omega, rfl, ?_⟩
      rcases hR with z | ⟨z1, z2, z3⟩
      · exact Or.inl z
      · rw [up_ne (nb a z2)]
        exact Or.inr ⟨z1, (by show (vis a || decide (a = x)) = true; rw [z2]; rfl), (h2 a z1 z2).1, z3⟩
    · have hv' : vis x = true := by simpa [c] using hv
      obtain ⟨x1, x2, x3⟩ := h2 x hx hv'
      rw [up_ne c, up_ne c, up_ne (show rk x ≠ e by omega)]
      refine ⟨by omega, x2, ?_⟩
      rcases x3 with x3 | ⟨y1, y2, y3, y4⟩
      · exact Or.inl x3
      · rw [up_ne (nb _ y2)]
        exact Or.inr ⟨y1, (by show (vis (par x) || decide (par x = b)) = true; rw [y2]; rfl), y3, y4⟩
  · intro X x1 x2 x hx hv
    by_cases c : x = b
    · subst c
      rcases hR with ⟨-, z2, z3⟩ | ⟨z1, z2, z3⟩
      · exact x1 x z2 z3
      · exact x2 a x z1 hx (h4 X x1 x2 a z1 z2) z3
    · exact h4 X x1 x2 x hx (by simpa [c] using hv)
/-- where one more can't be found, the search is the least cut -/
theorem sb_done {b : Nat → Nat} {near far : Nat → Bool} {adj : Nat → Nat → Bool} {g src snk : Nat → Nat} {h : Nat → Nat → Nat} (F : Fl 25 b near far adj g src snk h) (hA : ∀ s, adj s s = false) {q : Nat → Nat} {vis : Nat → Bool} {par rk : Nat → Nat} {e : Nat} (B : Sb near (ed b adj g h) q vis par rk e)
    (st : ∀ s, s < 25 → near s = true → vis s = true) (cl : ∀ a c, vd a → vd c → vis a = true → ed b adj g h a c → vis c = true) (nf : ∀ s, s < 25 → vis (32 + s) = true → far s = false) :
    MinC 25 b near far adj (fb_sm src 25) vis (fun s => vis (32 + s)) := by
  have hss : ∀ s, s < 25 → h s s = 0 := by
    intro s hs
    refine Classical.byContradiction (fun hn => ?_)
    have := (F s hs).2.2.2.2.2 s hs (by omega)
    rw [hA] at this
    cases this
  have C : Cl 25 b near adj g h vis (fun s => vis (32 + s)) := by
    intro s hs
    refine ⟨st s hs, fun hE hl => cl s (32 + s) (Or.inl hs) (Or.inr (by omega)) hE (Or.inl ⟨hs, by omega, by omega, Or.inl ⟨rfl, hl⟩⟩), fun hL hg => cl (32 + s) s (Or.inr (by omega)) (Or.inl hs) hL (Or.inr ⟨by omega, by omega, hs, Or.inl ⟨rfl, hg⟩⟩), ?_, ?_⟩
    · intro t ht hL ha
      have hst : s ≠ t := fun z => by rw [z, hA] at ha; cases ha
      exact cl (32 + s) t (Or.inr (by omega)) (Or.inl ht) hL (Or.inr ⟨by omega, by omega, ht, Or.inr ⟨by omega, by rw [show 32 + s - 32 = s by omega]; exact ha⟩⟩)
    · intro t ht hE hh
      have hst : t ≠ s := fun z => by rw [z, hss s hs] at hh; omega
      exact cl s (32 + t) (Or.inl hs) (Or.inr (by omega)) hE (Or.inl ⟨hs, by omega, by omega, Or.inr ⟨by omega, by rw [show 32 + t - 32 = t by omega]; exact hh⟩⟩)
  have least : ∀ E0 L0, Cl 25 b near adj g h E0 L0 → ∀ s, s < 25 → (vis s = true → E0 s = true) ∧ (vis (32 + s) = true → L0 s = true) := by
    intro E0 L0 c0
    have key := B.2.2 (fun c => if c < 32 then E0 c else L0 (c - 32)) (fun c hc hn => by
      show (if c < 32 then E0 c else L0 (c - 32)) = true
      rw [if_pos (by omega)]
      exact (c0 c hc).1 hn) (by
      intro a c va vc
      show (if a < 32 then E0 a else L0 (a - 32)) = true → _ → (if c < 32 then E0 c else L0 (c - 32)) = true
      intro hX hE
      rcases hE with ⟨a1, a2, a3, a4⟩ | ⟨a1, a2, a3, a4⟩
      · rw [if_pos (by omega)] at hX
        rw [if_neg (by omega)]
        rcases a4 with ⟨z1, z2⟩ | ⟨z1, z2⟩
        · have := (c0 a a1).2.1 hX z2
          rw [show c - 32 = a by omega]
          exact this
        · exact (c0 a a1).2.2.2.2 (c - 32) (by omega) hX z2
      · rw [if_neg (by omega)] at hX
        rw [if_pos (by omega)]
        rcases a4 with ⟨z1, z2⟩ | ⟨z1, z2⟩
        · rw [show a - 32 = c by omega] at hX
          exact (c0 c a3).2.2.1 hX z2
        · exact (c0 (a - 32) (by omega)).2.2.2.1 c a3 hX z2)
    intro s hs
    refine ⟨fun hv => ?_, fun hv => ?_⟩
    · have := key s (Or.inl hs) hv
      simp only [show s < 32 by omega, if_true] at this
      exact this
    · have := key (32 + s) (Or.inr (by omega)) hv
      simp only [show ¬ 32 + s < 32 by omega, if_false, show 32 + s - 32 = s by omega] at this
      exact this
  refine ⟨cl_ct C nf, full_eq F C nf, fun E' L' c => flow_le F c, ?_⟩
  intro E' L' c' e'
  have e3 := flow_cut F c'
  have z1 : fb_sm (fun s => nd (E' s && !L' s) (b s - g s)) 25 = 0 := by omega
  have z2 : fb_sm (fun s => nd (L' s && !E' s) (g s)) 25 = 0 := by omega
  have z3 : fb_sm (fun t => fb_sm (fun s => nd (E' t && !L' s) (h s t)) 25) 25 = 0 := by omega
  apply least
  intro s hs
  refine ⟨(c' s hs).1, ?_, ?_, fun t ht => (c' s hs).2.2 t ht, ?_⟩
  · intro hE hl
    cases hL : L' s
    · have q := fb_sm_zero z1 s hs
      simp only [hE, hL] at q
      have q2 : b s - g s = 0 := q
      omega
    · rfl
  · intro hL hg
    cases hE : E' s
    · have q := fb_sm_zero z2 s hs
      simp only [hE, hL] at q
      have q2 : g s = 0 := q
      omega
    · rfl
  · intro t ht hE hh
    cases hL : L' t
    · have q := fb_sm_zero (fb_sm_zero z3 s hs) t ht
      simp only [hE, hL] at q
      have q2 : h t s = 0 := q
      omega
    · rfl
/-! along the chain -/
def rs (b g : Nat → Nat) (h : Nat → Nat → Nat) (par : Nat → Nat) (c : Nat) : Nat := if c < 25 then (if par c = 32 + c then g c else 999) else (if par c = c - 32 then b (c - 32) - g (c - 32) else h (c - 32) (par c))
theorem rs_pos {near : Nat → Bool} {b : Nat → Nat} {adj : Nat → Nat → Bool} {g : Nat → Nat} {h : Nat → Nat → Nat} {q : Nat → Nat} {vis : Nat → Bool} {par rk : Nat → Nat} {e : Nat} (B : Sb near (ed b adj g h) q vis par rk e) {c : Nat} (hc : vd c) (hv : vis c = true) : 1 ≤ rs b g h par c := by
  obtain ⟨-, -, b3⟩ := B.2.1 c hc hv
  unfold rs
  rcases b3 with ⟨p1, p2, -⟩ | ⟨p1, p2, p3, p4⟩
  · rw [if_pos p2, if_neg (by omega)]
    omega
  · rcases p4 with ⟨a1, a2, a3, a4⟩ | ⟨a1, a2, a3, a4⟩
    · rw [if_neg (by omega)]
      rcases a4 with ⟨z1, z2⟩ | ⟨z1, z2⟩
      · rw [if_pos (by omega)]
        rw [show c - 32 = par c by omega]
        omega
      · rw [if_neg (by omega)]
        omega
    · rw [if_pos a3]
      rcases a4 with ⟨z1, z2⟩ | ⟨z1, z2⟩
      · rw [if_pos (by omega)]
        omega
      · rw [if_neg (by omega)]
        omega
def rsOk (R par : Nat → Nat) (y : Nat) : Nat → Nat → Prop
  | 0, _ => False
  | f + 1, c => y ≤ R c ∧ (par c = 64 ∨ rsOk R par y f (par c))
def hup (h : Nat → Nat → Nat) (s t v : Nat) : Nat → Nat → Nat := fun x => if x = s then up (h s) t v else h x
theorem hup_at {h : Nat → Nat → Nat} {s t v : Nat} : hup h s t v s t = v := by
  unfold hup
  rw [if_pos rfl, up_at]
theorem hup_ne {h : Nat → Nat → Nat} {s t v x y : Nat} (c : x ≠ s ∨ y ≠ t) : hup h s t v x y = h x y := by
  unfold hup
  by_cases e : x = s
  · rw [if_pos e, up_ne (by omega), e]
  · rw [if_neg e]
theorem hup_row {h : Nat → Nat → Nat} {s t v : Nat} (ht : t < 25) (x : Nat) : fb_sm (hup h s t v x) 25 + (if x = s then h s t else 0) = fb_sm (h x) 25 + (if x = s then v else 0) := by
  unfold hup
  by_cases c : x = s
  · rw [if_pos c, if_pos c, if_pos c, c]
    exact row_up ht
  · rw [if_neg c, if_neg c, if_neg c]
theorem hup_col {h : Nat → Nat → Nat} {s t v : Nat} (hs : s < 25) (y : Nat) : fb_sm (fun x => hup h s t v x y) 25 + (if y = t then h s t else 0) = fb_sm (fun x => h x y) 25 + (if y = t then v else 0) := by
  by_cases c : y = t
  · rw [if_pos c, if_pos c]
    have e : fb_sm (fun x => hup h s t v x y) 25 = fb_sm (fun k => if k = s then v else h k t) 25 := by
      apply fb_sm_cong
      intro k _
      by_cases ck : k = s
      · rw [if_pos ck, ck, c, hup_at]
      · rw [if_neg ck, hup_ne (Or.inl ck), c]
    rw [e, c]
    exact fb_sm_upd (fun x => h x t) v hs
  · rw [if_neg c, if_neg c, Nat.add_zero, Nat.add_zero]
    apply fb_sm_cong
    intro k _
    exact hup_ne (Or.inr c)
/-- so many are on their way, up to here -/
def PuI (b : Nat → Nat) (near far : Nat → Bool) (adj : Nat → Nat → Bool) (g0 : Nat → Nat) (h0 : Nat → Nat → Nat) (vis : Nat → Bool) (par rk : Nat → Nat) (y : Nat) (c : Nat) (g : Nat → Nat) (h : Nat → Nat → Nat) (src snk : Nat → Nat) : Prop :=
  (∀ s, s < 25 → g s ≤ b s ∧ (0 < src s → near s = true) ∧ (0 < snk s → far s = true) ∧ ∀ t, t < 25 → 0 < h s t → adj s t = true) ∧
  (∀ s, s < 25 → src s + fb_sm (fun t => h t s) 25 + (if c = s then y else 0) = g s) ∧
  (∀ s, s < 25 → snk s + fb_sm (h s) 25 = g s + (if c = 32 + s then y else 0)) ∧
  ∀ c', vd c' → vis c' = true → rk c' ≤ rk c → rs b g h par c' = rs b g0 h0 par c'
section
variable {b : Nat → Nat} {near far : Nat → Bool} {adj : Nat → Nat → Bool} {g0 : Nat → Nat} {h0 : Nat → Nat → Nat} {q : Nat → Nat} {vis : Nat → Bool} {par rk : Nat → Nat} {e y : Nat} {g : Nat → Nat} {h : Nat → Nat → Nat} {src snk : Nat → Nat}
/-- the parents of other ones, and their residue -/
theorem pu_a (B : Sb near (ed b adj g0 h0) q vis par rk e) {s : Nat} (hs : s < 25) (hv : vis (32 + s) = true) (hp : par (32 + s) = s) (P : PuI b near far adj g0 h0 vis par rk y (32 + s) g h src snk) (hy : y ≤ rs b g0 h0 par (32 + s)) : g s + y ≤ b s ∧ PuI b near far adj g0 h0 vis par rk y s (up g s (g s + y)) h src snk := by
  obtain ⟨p1, p2, p3, p4⟩ := P
  have rr := p4 (32 + s) (Or.inr (by omega)) hv (Nat.le_refl _)
  have rc : rs b g h par (32 + s) = b s - g s := by
    unfold rs
    rw [if_neg (by omega), if_pos (by omega), show 32 + s - 32 = s by omega]
  have gb := (p1 s hs).1
  have hle : g s + y ≤ b s := by omega
  obtain ⟨-, -, b3⟩ := B.2.1 (32 + s) (Or.inr (by omega)) hv
  have rks : rk s < rk (32 + s) := by
    rcases b3 with z | ⟨-, -, z, -⟩
    · omega
    · rw [hp] at z
      exact z
  refine ⟨hle, ?_, ?_, ?_, ?_⟩
  · intro x hx
    obtain ⟨a1, a2, a3, a4⟩ := p1 x hx
    by_cases c : x = s
    · subst c
      rw [up_at]
      exact ⟨hle, a2, a3, a4⟩
    · rw [up_ne c]
      exact ⟨a1, a2, a3, a4⟩
  · intro x hx
    have := p2 x hx
    rw [if_neg (by omega)] at this
    by_cases c : x = s
    · subst c
      rw [up_at, if_pos rfl]
      omega
    · rw [up_ne c, if_neg (by omega)]
      exact this
  · intro x hx
    have := p3 x hx
    by_cases c : x = s
    · subst c
      rw [if_pos rfl] at this
      rw [up_at, if_neg (by omega)]
      omega
    · rw [if_neg (by omega)] at this
      rw [up_ne c, if_neg (by omega)]
      exact this
  · intro c' v' w' r'
    have old := p4 c' v' w' (by omega)
    rw [← old]
    unfold rs
    by_cases cc : c' < 25
    · rw [if_pos cc, if_pos cc]
      by_cases pc : par c' = 32 + c'
      · rw [if_pos pc, if_pos pc]
        by_cases x : c' = s
        · exfalso
          subst x
          obtain ⟨-, -, b4⟩ := B.2.1 c' v' w'
          rcases b4 with z | ⟨-, -, z, -⟩
          · omega
          · rw [pc] at z
            omega
        · rw [up_ne x]
      · rw [if_neg pc, if_neg pc]
    · rw [if_neg cc, if_neg cc]
      by_cases pc : par c' = c' - 32
      · rw [if_pos pc, if_pos pc]
        by_cases x : c' = 32 + s
        · subst x
          omega
        · unfold vd at v'
          rw [up_ne (by omega)]
      · rw [if_neg pc, if_neg pc]
theorem pu_b (B : Sb near (ed b adj g0 h0) q vis par rk e) {s t : Nat} (hs : s < 25) (ht : t < 25) (hst : t ≠ s) (hv : vis (32 + s) = true) (hp : par (32 + s) = t) (P : PuI b near far adj g0 h0 vis par rk y (32 + s) g h src snk) (hy : y ≤ rs b g0 h0 par (32 + s)) : y ≤ h s t ∧ PuI b near far adj g0 h0 vis par rk y t g (hup h s t (h s t - y)) src snk := by
  obtain ⟨p1, p2, p3, p4⟩ := P
  have rr := p4 (32 + s) (Or.inr (by omega)) hv (Nat.le_refl _)
  have rc : rs b g h par (32 + s) = h s t := by
    unfold rs
    rw [if_neg (by omega), if_neg (by omega), show 32 + s - 32 = s by omega, hp]
  have hle : y ≤ h s t := by omega
  obtain ⟨-, -, b3⟩ := B.2.1 (32 + s) (Or.inr (by omega)) hv
  have rks : rk t < rk (32 + s) := by
    rcases b3 with z | ⟨-, -, z, -⟩
    · omega
    · rw [hp] at z
      exact z
  refine ⟨hle, ?_, ?_, ?_, ?_⟩
  · intro x hx
    obtain ⟨a1, a2, a3, a4⟩ := p1 x hx
    refine ⟨a1, a2, a3, fun z hz hpos => a4 z hz ?_⟩
    by_cases c : x = s ∧ z = t
    · obtain ⟨rfl, rfl⟩ := c
      rw [hup_at] at hpos
      omega
    · rw [hup_ne (by omega)] at hpos
      exact hpos
  · intro x hx
    have o := p2 x hx
    rw [if_neg (by omega)] at o
    have u := hup_col (h := h) (t := t) (v := h s t - y) hs x
    by_cases c : x = t
    · subst c
      rw [if_pos rfl, if_pos rfl] at u
      rw [if_pos rfl]
      omega
    · rw [if_neg c, if_neg c] at u
      rw [if_neg (by omega)]
      omega
  · intro x hx
    have o := p3 x hx
    have u := hup_row (h := h) (s := s) (v := h s t - y) ht x
    by_cases c : x = s
    · subst c
      rw [if_pos rfl] at o
      rw [if_pos rfl, if_pos rfl] at u
      rw [if_neg (by omega)]
      omega
    · rw [if_neg (by omega)] at o
      rw [if_neg c, if_neg c] at u
      rw [if_neg (by omega)]
      omega
  · intro c' v' w' r'
    have old := p4 c' v' w' (by omega)
    rw [← old]
    unfold rs
    by_cases cc : c' < 25
    · rw [if_pos cc, if_pos cc]
    · rw [if_neg cc, if_neg cc]
      by_cases pc : par c' = c' - 32
      · rw [if_pos pc, if_pos pc]
      · rw [if_neg pc, if_neg pc]
        by_cases x : c' = 32 + s
        · subst x
          omega
        · unfold vd at v'
          rw [hup_ne (by omega)]
theorem pu_c (B : Sb near (ed b adj g0 h0) q vis par rk e) {s : Nat} (hs : s < 25) (hv : vis s = true) (hp : par s = 32 + s) (P : PuI b near far adj g0 h0 vis par rk y s g h src snk) (hy : y ≤ rs b g0 h0 par s) : y ≤ g s ∧ PuI b near far adj g0 h0 vis par rk y (32 + s) (up g s (g s - y)) h src snk := by
  obtain ⟨p1, p2, p3, p4⟩ := P
  have rr := p4 s (Or.inl hs) hv (Nat.le_refl _)
  have rc : rs b g h par s = g s := by
    unfold rs
    rw [if_pos hs, if_pos hp]
  have hle : y ≤ g s := by omega
  obtain ⟨-, -, b3⟩ := B.2.1 s (Or.inl hs) hv
  have rks : rk (32 + s) < rk s := by
    rcases b3 with z | ⟨-, -, z, -⟩
    · omega
    · rw [hp] at z
      exact z
  refine ⟨hle, ?_, ?_, ?_, ?_⟩
  · intro x hx
    obtain ⟨a1, a2, a3, a4⟩ := p1 x hx
    by_cases c : x = s
    · subst c
      rw [up_at]
      exact ⟨by omega, a2, a3, a4⟩
    · rw [up_ne c]
      exact ⟨a1, a2, a3, a4⟩
  · intro x hx
    have o := p2 x hx
    by_cases c : x = s
    · subst c
      rw [if_pos rfl] at o
      rw [up_at, if_neg (by omega)]
      omega
    · rw [if_neg (by omega)] at o
      rw [up_ne c, if_neg (by omega)]
      exact o
  · intro x hx
    have o := p3 x hx
    rw [if_neg (by omega)] at o
    by_cases c : x = s
    · subst c
      rw [up_at, if_pos rfl]
      omega
    · rw [up_ne c, if_neg (by omega)]
      exact o
  · intro c' v' w' r'
    have old := p4 c' v' w' (by omega)
    rw [← old]
    unfold rs
    by_cases cc : c' < 25
    · rw [if_pos cc, if_pos cc]
      by_cases pc : par c' = 32 + c'
      · rw [if_pos pc, if_pos pc]
        by_cases x : c' = s
        · subst x
          omega
        · rw [up_ne x]
      · rw [if_neg pc, if_neg pc]
    · rw [if_neg cc, if_neg cc]
      by_cases pc : par c' = c' - 32
      · rw [if_pos pc, if_pos pc]
        by_cases x : c' = 32 + s
        · exfalso
          subst x
          obtain ⟨-, -, b4⟩ := B.2.1 (32 + s) v' w'
          rcases b4 with z | ⟨-, -, z, -⟩
          · omega
          · rw [pc, show 32 + s - 32 = s by omega] at z
            omega
        · unfold vd at v'
          rw [up_ne (by omega)]
      · rw [if_neg pc, if_neg pc]
theorem pu_d (B : Sb near (ed b adj g0 h0) q vis par rk e) {s t : Nat} (hs : s < 25) (ht : t < 25) (hst : t ≠ s) (hv : vis s = true) (hp : par s = 32 + t) (P : PuI b near far adj g0 h0 vis par rk y s g h src snk) : PuI b near far adj g0 h0 vis par rk y (32 + t) g (hup h t s (h t s + y)) src snk := by
  obtain ⟨p1, p2, p3, p4⟩ := P
  obtain ⟨-, -, b3⟩ := B.2.1 s (Or.inl hs) hv
  have rks : rk (32 + t) < rk s ∧ adj t s = true := by
    rcases b3 with z | ⟨-, -, z, z2⟩
    · omega
    · rw [hp] at z
      refine ⟨z, ?_⟩
      rcases z2 with ⟨a1, -⟩ | ⟨a1, a2, a3, a4⟩
      · omega
      · rcases a4 with ⟨x1, -⟩ | ⟨-, x2⟩
        · omega
        · rw [hp, show 32 + t - 32 = t by omega] at x2
          exact x2
  refine ⟨?_, ?_, ?_, ?_⟩
  · intro x hx
    obtain ⟨a1, a2, a3, a4⟩ := p1 x hx
    refine ⟨a1, a2, a3, fun z hz hpos => ?_⟩
    by_cases c : x = t ∧ z = s
    · obtain ⟨rfl, rfl⟩ := c
      exact rks.2
    · rw [hup_ne (by omega)] at hpos
      exact a4 z hz hpos
  · intro x hx
    have o := p2 x hx
    have u := hup_col (h := h) (t := s) (v := h t s + y) ht x
    by_cases c : x = s
    · subst c
      rw [if_pos rfl] at o
      rw [if_pos rfl, if_pos rfl] at u
      rw [if_neg (by omega)]
      omega
    · rw [if_neg (by omega)] at o
      rw [if_neg c, if_neg c] at u
      rw [if_neg (by omega)]
      omega
  · intro x hx
    have o := p3 x hx
    rw [if_neg (by omega)] at o
    have u := hup_row (h := h) (s := t) (v := h t s + y) hs x
    by_cases c : x = t
    · subst c
      rw [if_pos rfl, if_pos rfl] at u
      rw [if_pos rfl]
      omega
    · rw [if_neg c, if_neg c] at u
      rw [if_neg (by omega)]
      omega
  · intro c' v' w' r'
    have old := p4 c' v' w' (by omega)
    rw [← old]
    unfold rs
    by_cases cc : c' < 25
    · rw [if_pos cc, if_pos cc]
    · rw [if_neg cc, if_neg cc]
      by_cases pc : par c' = c' - 32
      · rw [if_pos pc, if_pos pc]
      · rw [if_neg pc, if_neg pc]
        by_cases x : c' - 32 = t ∧ par c' = s
        · exfalso
          unfold vd at v'
          have e1 : c' = 32 + t := by omega
          subst e1
          obtain ⟨-, -, b4⟩ := B.2.1 (32 + t) (Or.inr (by omega)) w'
          rcases b4 with z | ⟨-, -, z, -⟩
          · omega
          · rw [x.2] at z
            omega
        · rw [hup_ne (by omega)]
/-- from this bank: the flow is whole again -/
theorem pu_e {s : Nat} (hs : s < 25) (hn : near s = true) (P : PuI b near far adj g0 h0 vis par rk y s g h src snk) : Fl 25 b near far adj g (up src s (src s + y)) snk h ∧ fb_sm (up src s (src s + y)) 25 = fb_sm src 25 + y := by
  obtain ⟨p1, p2, p3, -⟩ := P
  refine ⟨?_, ?_⟩
  · intro x hx
    obtain ⟨a1, a2, a3, a4⟩ := p1 x hx
    have o := p2 x hx
    have o2 := p3 x hx
    rw [if_neg (by omega)] at o2
    by_cases c : x = s
    · subst c
      rw [if_pos rfl] at o
      rw [up_at]
      exact ⟨a1, by omega, by omega, fun _ => hn, a3, a4⟩
    · rw [if_neg (by omega)] at o
      rw [up_ne c]
      exact ⟨a1, by omega, by omega, a2, a3, a4⟩
  · have := row_up (R := src) (v := src s + y) hs
    omega
/-- at the far bank -/
theorem pu_start (F : Fl 25 b near far adj g0 src snk h0) {s : Nat} (hs : s < 25) (hf : far s = true) : PuI b near far adj g0 h0 vis par rk y (32 + s) g0 h0 src (up snk s (snk s + y)) := by
  refine ⟨?_, ?_, ?_, fun _ _ _ _ => rfl⟩
  · intro x hx
    obtain ⟨f1, f2, f3, f4, f5, f6⟩ := F x hx
    refine ⟨f1, f4, ?_, f6⟩
    by_cases c : x = s
    · subst c
      exact fun _ => hf
    · rw [up_ne c]
      exact f5
  · intro x hx
    obtain ⟨f1, f2, f3, f4, f5, f6⟩ := F x hx
    rw [if_neg (by omega)]
    omega
  · intro x hx
    obtain ⟨f1, f2, f3, f4, f5, f6⟩ := F x hx
    have f3 : snk x + fb_sm (h0 x) 25 = g0 x := f3
    by_cases c : x = s
    · subst c
      rw [up_at, if_pos rfl]
      omega
    · rw [up_ne c, if_neg (by omega)]
      omega
end
