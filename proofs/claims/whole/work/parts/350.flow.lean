/-! ===== FLOWS AND CUTS OF SPOTS (no machine in it) ===== -/
theorem sm_0 : ∀ n : Nat, fb_sm (fun _ => 0) n = 0
  | 0 => rfl
  | n + 1 => by rw [fb_sm_succ, sm_0 n]
theorem sm_swap (f : Nat → Nat → Nat) (m : Nat) : ∀ n : Nat, fb_sm (fun s => fb_sm (fun t => f s t) m) n = fb_sm (fun t => fb_sm (fun s => f s t) n) m
  | 0 => by
    show 0 = fb_sm (fun _ => 0) m
    rw [sm_0]
  | n + 1 => by
    rw [fb_sm_succ, sm_swap f m n, ← fb_sm_add]
    rfl
def nd (b : Bool) (x : Nat) : Nat := if b = true then x else 0
theorem nd_sm (b : Bool) (f : Nat → Nat) (n : Nat) : nd b (fb_sm f n) = fb_sm (fun t => nd b (f t)) n := by
  cases b
  · show 0 = fb_sm (fun _ => 0) n
    rw [sm_0]
  · rfl
/-- a flow: so many through each spot, so many from one straight to another, so many from this bank and to the far one -/
def Fl (n : Nat) (b : Nat → Nat) (near far : Nat → Bool) (adj : Nat → Nat → Bool) (g src snk : Nat → Nat) (h : Nat → Nat → Nat) : Prop :=
  ∀ s, s < n → g s ≤ b s ∧ src s + fb_sm (fun t => h t s) n = g s ∧ snk s + fb_sm (fun t => h s t) n = g s ∧ (0 < src s → near s = true) ∧ (0 < snk s → far s = true) ∧ ∀ t, t < n → 0 < h s t → adj s t = true
/-- a cut: entered and left spots -/
def Ct (n : Nat) (near far : Nat → Bool) (adj : Nat → Nat → Bool) (E L : Nat → Bool) : Prop :=
  ∀ s, s < n → (near s = true → E s = true) ∧ (L s = true → far s = false) ∧ ∀ t, t < n → L s = true → adj s t = true → E t = true
def capOf (n : Nat) (b : Nat → Nat) (E L : Nat → Bool) : Nat := fb_sm (fun s => nd (E s && !L s) (b s)) n
theorem flow_cut {n : Nat} {b : Nat → Nat} {near far : Nat → Bool} {adj : Nat → Nat → Bool} {g src snk : Nat → Nat} {h : Nat → Nat → Nat} {E L : Nat → Bool} (F : Fl n b near far adj g src snk h) (C : Ct n near far adj E L) :
    capOf n b E L = fb_sm src n + fb_sm (fun s => nd (E s && !L s) (b s - g s)) n + fb_sm (fun s => nd (L s && !E s) (g s)) n + fb_sm (fun t => fb_sm (fun s => nd (E t && !L s) (h s t)) n) n := by
  have a1 : fb_sm (fun s => nd (E s) (g s)) n = fb_sm src n + fb_sm (fun t => nd (E t) (fb_sm (fun s => h s t) n)) n := by
    rw [← fb_sm_add]
    apply fb_sm_cong
    intro s hs
    obtain ⟨-, f2, -, f4, -, -⟩ := F s hs
    have c1 := (C s hs).1
    cases hE : E s
    · have : src s = 0 := by
        rcases Nat.eq_zero_or_pos (src s) with q | q
        · exact q
        · rw [c1 (f4 q)] at hE
          cases hE
      rw [this]
      rfl
    · show g s = src s + fb_sm (fun t => h t s) n
      omega
  have a2 : fb_sm (fun t => nd (E t) (fb_sm (fun s => h s t) n)) n = fb_sm (fun t => fb_sm (fun s => nd (L s) (h s t)) n) n + fb_sm (fun t => fb_sm (fun s => nd (E t && !L s) (h s t)) n) n := by
    rw [← fb_sm_add]
    apply fb_sm_cong
    intro t ht
    rw [nd_sm, ← fb_sm_add]
    apply fb_sm_cong
    intro s hs
    obtain ⟨-, -, -, -, -, f6⟩ := F s hs
    have c3 := (C s hs).2.2 t ht
    cases hE : E t
    · cases hL : L s
      · rfl
      · have : h s t = 0 := by
          rcases Nat.eq_zero_or_pos (h s t) with q | q
          · exact q
          · rw [c3 hL (f6 t ht q)] at hE
            cases hE
        rw [this]
        rfl
    · cases hL : L s
      · show h s t = 0 + h s t
        omega
      · rfl
  have a3 : fb_sm (fun t => fb_sm (fun s => nd (L s) (h s t)) n) n = fb_sm (fun s => nd (L s) (g s)) n := by
    rw [sm_swap (fun t s => nd (L s) (h s t))]
    apply fb_sm_cong
    intro s hs
    rw [← nd_sm]
    obtain ⟨-, -, f3, -, f5, -⟩ := F s hs
    have c2 := (C s hs).2.1
    cases hL : L s
    · rfl
    · have : snk s = 0 := by
        rcases Nat.eq_zero_or_pos (snk s) with q | q
        · exact q
        · have := c2 hL
          rw [f5 q] at this
          cases this
      show fb_sm (fun t => h s t) n = g s
      omega
  have a4 : fb_sm (fun s => nd (E s) (g s)) n + fb_sm (fun s => nd (L s && !E s) (g s)) n = fb_sm (fun s => nd (E s && !L s) (g s)) n + fb_sm (fun s => nd (L s) (g s)) n := by
    rw [← fb_sm_add, ← fb_sm_add]
    apply fb_sm_cong
    intro s _
    cases E s <;> cases L s <;> simp [nd]
  have a5 : capOf n b E L = fb_sm (fun s => nd (E s && !L s) (g s)) n + fb_sm (fun s => nd (E s && !L s) (b s - g s)) n := by
    unfold capOf
    rw [← fb_sm_add]
    apply fb_sm_cong
    intro s hs
    have f1 := (F s hs).1
    cases (E s && !L s)
    · rfl
    · show b s = g s + (b s - g s)
      omega
  omega
/-- closed under one more going on: nothing more can be entered or left -/
def Cl (n : Nat) (b : Nat → Nat) (near : Nat → Bool) (adj : Nat → Nat → Bool) (g : Nat → Nat) (h : Nat → Nat → Nat) (E L : Nat → Bool) : Prop :=
  ∀ s, s < n → (near s = true → E s = true) ∧ (E s = true → g s < b s → L s = true) ∧ (L s = true → 0 < g s → E s = true) ∧ (∀ t, t < n → L s = true → adj s t = true → E t = true) ∧ (∀ t, t < n → E s = true → 0 < h t s → L t = true)
theorem cl_ct {n : Nat} {b : Nat → Nat} {near far : Nat → Bool} {adj : Nat → Nat → Bool} {g : Nat → Nat} {h : Nat → Nat → Nat} {E L : Nat → Bool} (c : Cl n b near adj g h E L) (hf : ∀ s, s < n → L s = true → far s = false) : Ct n near far adj E L := by
  intro s hs
  exact ⟨(c s hs).1, hf s hs, (c s hs).2.2.2.1⟩
/-- a flow beside which nothing more goes is as much as its cut bears -/
theorem full_eq {n : Nat} {b : Nat → Nat} {near far : Nat → Bool} {adj : Nat → Nat → Bool} {g src snk : Nat → Nat} {h : Nat → Nat → Nat} {E L : Nat → Bool} (F : Fl n b near far adj g src snk h) (c : Cl n b near adj g h E L) (hf : ∀ s, s < n → L s = true → far s = false) : capOf n b E L = fb_sm src n := by
  rw [flow_cut F (cl_ct c hf)]
  have z1 : fb_sm (fun s => nd (E s && !L s) (b s - g s)) n = 0 := by
    rw [← sm_0 n]
    apply fb_sm_cong
    intro s hs
    have q := (c s hs).2.1
    have f1 := (F s hs).1
    cases hE : E s
    · rfl
    · cases hL : L s
      · have : ¬ g s < b s := fun z => by rw [q hE z] at hL; cases hL
        show b s - g s = 0
        omega
      · rfl
  have z2 : fb_sm (fun s => nd (L s && !E s) (g s)) n = 0 := by
    rw [← sm_0 n]
    apply fb_sm_cong
    intro s hs
    have q := (c s hs).2.2.1
    cases hL : L s
    · rfl
    · cases hE : E s
      · have : ¬ 0 < g s := fun z => by rw [q hL z] at hE; cases hE
        show g s = 0
        omega
      · rfl
  have z3 : fb_sm (fun t => fb_sm (fun s => nd (E t && !L s) (h s t)) n) n = 0 := by
    rw [← sm_0 n]
    apply fb_sm_cong
    intro t ht
    rw [← sm_0 n]
    apply fb_sm_cong
    intro s hs
    have q := (c t ht).2.2.2.2 s hs
    cases hE : E t
    · rfl
    · cases hL : L s
      · have : ¬ 0 < h s t := fun z => by rw [q hE z] at hL; cases hL
        show h s t = 0
        omega
      · rfl
  rw [z1, z2, z3]
  rfl
theorem flow_le {n : Nat} {b : Nat → Nat} {near far : Nat → Bool} {adj : Nat → Nat → Bool} {g src snk : Nat → Nat} {h : Nat → Nat → Nat} {E L : Nat → Bool} (F : Fl n b near far adj g src snk h) (C : Ct n near far adj E L) : fb_sm src n ≤ capOf n b E L := by
  rw [flow_cut F C]
  omega
/-- a number is the most that can go: a flow of so many, and a cut that bears no more -/
def Mx (n : Nat) (b : Nat → Nat) (near far : Nat → Bool) (adj : Nat → Nat → Bool) (v : Nat) : Prop :=
  (∃ g src snk h, Fl n b near far adj g src snk h ∧ fb_sm src n = v) ∧ ∃ E L, Ct n near far adj E L ∧ capOf n b E L = v
theorem mx_one {n : Nat} {b : Nat → Nat} {near far : Nat → Bool} {adj : Nat → Nat → Bool} {v v' : Nat} (h : Mx n b near far adj v) (h' : Mx n b near far adj v') : v = v' := by
  obtain ⟨⟨g, src, snk, hh, F, e⟩, E, L, C, e2⟩ := h
  obtain ⟨⟨g', src', snk', hh', F', e'⟩, E', L', C', e2'⟩ := h'
  have a := flow_le F C'
  have a' := flow_le F' C
  omega
/-- the least closed pair is the same whichever full flow it is of -/
theorem cut_one {n : Nat} {b : Nat → Nat} {near far : Nat → Bool} {adj : Nat → Nat → Bool} {g src snk g' src' snk' : Nat → Nat} {h h' : Nat → Nat → Nat} {E L E' L' : Nat → Bool}
    (F : Fl n b near far adj g src snk h) (c : Cl n b near adj g h E L) (hf : ∀ s, s < n → L s = true → far s = false)
    (least : ∀ E0 L0, Cl n b near adj g h E0 L0 → ∀ s, s < n → (E s = true → E0 s = true) ∧ (L s = true → L0 s = true))
    (F' : Fl n b near far adj g' src' snk' h') (c' : Cl n b near adj g' h' E' L') (hf' : ∀ s, s < n → L' s = true → far s = false) :
    ∀ s, s < n → (E s = true → E' s = true) ∧ (L s = true → L' s = true) := by
  have e1 := full_eq F c hf
  have e2 := full_eq F' c' hf'
  have l1 := flow_le F (cl_ct c' hf')
  have l2 := flow_le F' (cl_ct c hf)
  have e3 := flow_cut F (cl_ct c' hf')
  have z1 : fb_sm (fun s => nd (E' s && !L' s) (b s - g s)) n = 0 := by omega
  have z2 : fb_sm (fun s => nd (L' s && !E' s) (g s)) n = 0 := by omega
  have z3 : fb_sm (fun t => fb_sm (fun s => nd (E' t && !L' s) (h s t)) n) n = 0 := by omega
  apply least
  intro s hs
  refine ⟨(c' s hs).1, ?_, ?_, (c' s hs).2.2.2.1, ?_⟩
  · intro hE hl
    cases hL : L' s
    · have q := fb_sm_zero z1 s hs
      simp only [hE, hL] at q
      have q2 : b s - g s = 0 := q
      omega
    · rfl
  · intro hL hg
    cases hE : E' s
    · have q := fb_sm_zero z2 s hs
      simp only [hE, hL] at q
      have q2 : g s = 0 := q
      omega
    · rfl
  · intro t ht hE hh
    cases hL : L' t
    · have q := fb_sm_zero (fb_sm_zero z3 s hs) t ht
      simp only [hE, hL] at q
      have q2 : h t s = 0 := q
      omega
    · rfl
