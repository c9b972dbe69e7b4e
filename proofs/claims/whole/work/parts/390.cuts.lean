/-! ===== LEAST CUTS, AND ROOMS BETWEEN NODES (no machine in it) ===== -/
/-- v is what the least cut bears, and E L is the least such cut -/
def MinC (n : Nat) (b : Nat → Nat) (near far : Nat → Bool) (adj : Nat → Nat → Bool) (v : Nat) (E L : Nat → Bool) : Prop :=
  Ct n near far adj E L ∧ capOf n b E L = v ∧ (∀ E' L', Ct n near far adj E' L' → v ≤ capOf n b E' L') ∧ ∀ E' L', Ct n near far adj E' L' → capOf n b E' L' = v → ∀ s, s < n → (E s = true → E' s = true) ∧ (L s = true → L' s = true)
theorem minC_one {n : Nat} {b : Nat → Nat} {near far : Nat → Bool} {adj : Nat → Nat → Bool} {v v' : Nat} {E L E' L' : Nat → Bool} (h : MinC n b near far adj v E L) (h' : MinC n b near far adj v' E' L') : v = v' ∧ ∀ s, s < n → E s = E' s ∧ L s = L' s := by
  obtain ⟨a1, a2, a3, a4⟩ := h
  obtain ⟨b1, b2, b3, b4⟩ := h'
  have e1 := a3 E' L' b1
  have e2 := b3 E L a1
  have e : v = v' := by omega
  subst e
  refine ⟨rfl, fun s hs => ?_⟩
  have c1 := a4 E' L' b1 b2 s hs
  have c2 := b4 E L a1 a2 s hs
  exact ⟨Bool.eq_iff_iff.mpr ⟨c1.1, c2.1⟩, Bool.eq_iff_iff.mpr ⟨c1.2, c2.2⟩⟩
theorem cap_cong {n : Nat} {b b' : Nat → Nat} {E L E' L' : Nat → Bool} (h : ∀ s, s < n → b s = b' s ∧ E s = E' s ∧ L s = L' s) : capOf n b E L = capOf n b' E' L' := by
  unfold capOf
  apply fb_sm_cong
  intro s hs
  obtain ⟨h1, h2, h3⟩ := h s hs
  rw [h1, h2, h3]
theorem ct_cong {n : Nat} {near far near' far' : Nat → Bool} {adj adj' : Nat → Nat → Bool} {E L : Nat → Bool} (h : ∀ s, s < n → near s = near' s ∧ far s = far' s ∧ ∀ t, t < n → adj s t = adj' s t) (c : Ct n near far adj E L) : Ct n near' far' adj' E L := by
  intro s hs
  obtain ⟨h1, h2, h3⟩ := h s hs
  obtain ⟨c1, c2, c3⟩ := c s hs
  rw [← h1, ← h2]
  exact ⟨c1, c2, fun t ht hL ha => c3 t ht hL (by rw [h3 t ht]; exact ha)⟩
theorem minC_cong {n : Nat} {b b' : Nat → Nat} {near far near' far' : Nat → Bool} {adj adj' : Nat → Nat → Bool} {v : Nat} {E L : Nat → Bool} (hb : ∀ s, s < n → b s = b' s) (h : ∀ s, s < n → near s = near' s ∧ far s = far' s ∧ ∀ t, t < n → adj s t = adj' s t) (H : MinC n b near far adj v E L) : MinC n b' near' far' adj' v E L := by
  obtain ⟨a1, a2, a3, a4⟩ := H
  have back : ∀ s, s < n → near' s = near s ∧ far' s = far s ∧ ∀ t, t < n → adj' s t = adj s t := fun s hs => ⟨(h s hs).1.symm, (h s hs).2.1.symm, fun t ht => ((h s hs).2.2 t ht).symm⟩
  have cp : ∀ E L, capOf n b' E L = capOf n b E L := fun E L => cap_cong (fun s hs => ⟨(hb s hs).symm, rfl, rfl⟩)
  refine ⟨ct_cong h a1, by rw [cp]; exact a2, ?_, ?_⟩
  · intro E' L' c
    rw [cp]
    exact a3 E' L' (ct_cong back c)
  · intro E' L' c e
    rw [cp] at e
    exact a4 E' L' (ct_cong back c) e
theorem sm_pt {i M : Nat} (v : Nat) (h : i < M) : fb_sm (fun b => if b = i then v else 0) M = v := by
  have := fb_sm_upd (fun _ => 0) v h
  rw [sm_0] at this
  omega
/-! rooms -/
def RI (M : Nat) (C R : Nat → Nat → Nat) (n : Nat) : Prop :=
  (∀ a b, a < M → b < M → R a b + R b a = C a b + C b a) ∧ (∀ a, a < M → a ≠ 1 → a ≠ 2 → fb_sm (R a) M = fb_sm (C a) M) ∧ fb_sm (R 1) M + n = fb_sm (C 1) M
def xct (M : Nat) (X : Nat → Bool) (R : Nat → Nat → Nat) : Nat := fb_sm (fun a => fb_sm (fun b => nd (X a && !X b) (R a b)) M) M
def xin (M : Nat) (X : Nat → Bool) (R : Nat → Nat → Nat) : Nat := fb_sm (fun a => fb_sm (fun b => nd (X a && X b) (R a b)) M) M
theorem xi_eq {M : Nat} {X : Nat → Bool} {C R : Nat → Nat → Nat} (h : ∀ a b, a < M → b < M → R a b + R b a = C a b + C b a) : xin M X R = xin M X C := by
  have two : ∀ Z : Nat → Nat → Nat, xin M X Z + xin M X Z = fb_sm (fun a => fb_sm (fun b => nd (X a && X b) (Z a b + Z b a)) M) M := by
    intro Z
    have e : xin M X Z = fb_sm (fun a => fb_sm (fun b => nd (X a && X b) (Z b a)) M) M := by
      unfold xin
      rw [sm_swap (fun a b => nd (X a && X b) (Z a b))]
      apply fb_sm_cong
      intro a _
      apply fb_sm_cong
      intro b _
      rw [Bool.and_comm]
    have e2 : fb_sm (fun a => fb_sm (fun b => nd (X a && X b) (Z a b + Z b a)) M) M = xin M X Z + fb_sm (fun a => fb_sm (fun b => nd (X a && X b) (Z b a)) M) M := by
      unfold xin
      rw [← fb_sm_add]
      apply fb_sm_cong
      intro a _
      rw [← fb_sm_add]
      apply fb_sm_cong
      intro b _
      cases (X a && X b)
      · rfl
      · rfl
    rw [e2, ← e]
  have e : fb_sm (fun a => fb_sm (fun b => nd (X a && X b) (R a b + R b a)) M) M = fb_sm (fun a => fb_sm (fun b => nd (X a && X b) (C a b + C b a)) M) M := by
    apply fb_sm_cong
    intro a ha
    apply fb_sm_cong
    intro b hb
    rw [h a b ha hb]
  have a1 := two R
  have a2 := two C
  omega
theorem x_split {M : Nat} {X : Nat → Bool} (R : Nat → Nat → Nat) : fb_sm (fun a => nd (X a) (fb_sm (R a) M)) M = xin M X R + xct M X R := by
  unfold xin xct
  rw [← fb_sm_add]
  apply fb_sm_cong
  intro a _
  rw [← fb_sm_add]
  cases X a
  · show 0 = fb_sm (fun _ => 0) M
    rw [sm_0]
  · show fb_sm (R a) M = _
    apply fb_sm_cong
    intro b _
    cases X b
    · show R a b = 0 + R a b
      omega
    · rfl
/-- what goes over a cut of the nodes -/
theorem x_cut {M : Nat} {C R : Nat → Nat → Nat} {n : Nat} (h : RI M C R n) {X : Nat → Bool} (h1 : X 1 = true) (h2 : X 2 = false) (hM : 1 < M) : xct M X C = n + xct M X R := by
  obtain ⟨r1, r2, r3⟩ := h
  have e := xi_eq (X := X) r1
  have s1 := x_split (M := M) (X := X) R
  have s2 := x_split (M := M) (X := X) C
  have k : fb_sm (fun a => nd (X a) (fb_sm (C a) M)) M = fb_sm (fun a => nd (X a) (fb_sm (R a) M)) M + n := by
    have e1 : fb_sm (fun a => nd (X a) (fb_sm (C a) M)) M = fb_sm (fun a => nd (X a) (fb_sm (R a) M) + (if a = 1 then n else 0)) M := by
      apply fb_sm_cong
      intro a ha
      by_cases c1 : a = 1
      · subst c1
        rw [h1, if_pos rfl]
        exact r3.symm
      · rw [if_neg c1, Nat.add_zero]
        by_cases c2 : a = 2
        · subst c2
          rw [h2]
          rfl
        · rw [r2 a ha c1 c2]
    rw [e1, fb_sm_add, sm_pt n hM]
  omega
theorem xc_zero {M : Nat} {X : Nat → Bool} {R : Nat → Nat → Nat} (h : xct M X R = 0) {a b : Nat} (ha : a < M) (hb : b < M) (hX : X a = true) (hY : X b = false) : R a b = 0 := by
  have := fb_sm_zero (fb_sm_zero h a ha) b hb
  rw [hX, hY] at this
  exact this
theorem xc_none {M : Nat} {X : Nat → Bool} {R : Nat → Nat → Nat} (h : ∀ a b, a < M → b < M → X a = true → X b = false → R a b = 0) : xct M X R = 0 := by
  unfold xct
  rw [← sm_0 M]
  apply fb_sm_cong
  intro a ha
  rw [← sm_0 M]
  apply fb_sm_cong
  intro b hb
  cases hX : X a
  · rfl
  · cases hY : X b
    · exact h a b ha hb hX hY
    · rfl
/-- the room at first: in and out of each node, and from out to in where one may step -/
def Cn (hold : Nat → Nat) (nr : Nat → Nat → Bool) (a b : Nat) : Nat := if a % 2 = 0 then (if b = a + 1 then hold (a / 2) else 0) else (if b % 2 = 0 ∧ a / 2 ≠ b / 2 ∧ nr (a / 2) (b / 2) = true then 999 else 0)
theorem cn_in (hold : Nat → Nat) (nr : Nat → Nat → Bool) (k b : Nat) : Cn hold nr (2 * k) b = if b = 2 * k + 1 then hold k else 0 := by
  unfold Cn
  rw [if_pos (by omega), show 2 * k / 2 = k by omega]
theorem cn_out (hold : Nat → Nat) (nr : Nat → Nat → Bool) (k b : Nat) : Cn hold nr (2 * k + 1) b = if b % 2 = 0 ∧ k ≠ b / 2 ∧ nr k (b / 2) = true then 999 else 0 := by
  unfold Cn
  rw [if_neg (by omega), show (2 * k + 1) / 2 = k by omega]
/-- all that may be stepped to from an out is in -/
def Xcl (K : Nat) (nr : Nat → Nat → Bool) (X : Nat → Bool) : Prop := X 1 = true ∧ X 2 = false ∧ ∀ k j, k < K → j < K → k ≠ j → X (2 * k + 1) = true → nr k j = true → X (2 * j) = true
theorem sm_pairs (F : Nat → Nat) : ∀ n, fb_sm F (2 * n) = fb_sm (fun k => F (2 * k) + F (2 * k + 1)) n
  | 0 => rfl
  | n + 1 => by
    rw [show 2 * (n + 1) = (2 * n + 1) + 1 by omega, fb_sm_succ, fb_sm_succ, fb_sm_succ, sm_pairs F n]
    omega
theorem sm_first2 (F : Nat → Nat) : ∀ n, fb_sm F (n + 2) = F 0 + F 1 + fb_sm (fun s => F (s + 2)) n
  | 0 => by
    show fb_sm F 2 = F 0 + F 1 + 0
    rw [fb_sm_succ, fb_sm_succ]
    show 0 + F 0 + F 1 = _
    omega
  | n + 1 => by
    rw [fb_sm_succ, sm_first2 F n, fb_sm_succ]
    omega
theorem xcl_cap {n : Nat} {hold : Nat → Nat} {nr : Nat → Nat → Bool} {X : Nat → Bool} (h : Xcl (n + 2) nr X) : xct (2 * (n + 2)) X (Cn hold nr) = capOf n (fun s => hold (s + 2)) (fun s => X (2 * (s + 2))) (fun s => X (2 * (s + 2) + 1)) := by
  obtain ⟨h1, h2, h3⟩ := h
  have row_in : ∀ k, k < n + 2 → fb_sm (fun b => nd (X (2 * k) && !X b) (Cn hold nr (2 * k) b)) (2 * (n + 2)) = nd (X (2 * k) && !X (2 * k + 1)) (hold k) := by
    intro k hk
    have e : fb_sm (fun b => nd (X (2 * k) && !X b) (Cn hold nr (2 * k) b)) (2 * (n + 2)) = fb_sm (fun b => if b = 2 * k + 1 then nd (X (2 * k) && !X (2 * k + 1)) (hold k) else 0) (2 * (n + 2)) := by
      apply fb_sm_cong
      intro b _
      rw [cn_in]
      by_cases c : b = 2 * k + 1
      · rw [if_pos c, if_pos c, c]
      · rw [if_neg c, if_neg c]
        cases (X (2 * k) && !X b) <;> rfl
    rw [e, sm_pt _ (by omega)]
  have row_out : ∀ k, k < n + 2 → fb_sm (fun b => nd (X (2 * k + 1) && !X b) (Cn hold nr (2 * k + 1) b)) (2 * (n + 2)) = 0 := by
    intro k hk
    rw [← sm_0 (2 * (n + 2))]
    apply fb_sm_cong
    intro b hb
    rw [cn_out]
    by_cases c : b % 2 = 0 ∧ k ≠ b / 2 ∧ nr k (b / 2) = true
    · rw [if_pos c]
      cases hX : X (2 * k + 1)
      · rfl
      · have := h3 k (b / 2) hk (by omega) c.2.1 hX c.2.2
        rw [show 2 * (b / 2) = b by omega] at this
        rw [this]
        rfl
    · rw [if_neg c]
      cases (X (2 * k + 1) && !X b) <;> rfl
  unfold xct
  rw [sm_pairs]
  have e : fb_sm (fun k => fb_sm (fun b => nd (X (2 * k) && !X b) (Cn hold nr (2 * k) b)) (2 * (n + 2)) + fb_sm (fun b => nd (X (2 * k + 1) && !X b) (Cn hold nr (2 * k + 1) b)) (2 * (n + 2))) (n + 2) = fb_sm (fun k => nd (X (2 * k) && !X (2 * k + 1)) (hold k)) (n + 2) := by
    apply fb_sm_cong
    intro k hk
    rw [row_in k hk, row_out k hk, Nat.add_zero]
  rw [e, sm_first2]
  show nd (X 0 && !X 1) (hold 0) + nd (X 2 && !X 3) (hold 1) + _ = _
  rw [h1, h2]
  have z0 : nd (X 0 && !true) (hold 0) = 0 := by cases X 0 <;> rfl
  have z1 : nd (false && !X 3) (hold 1) = 0 := by cases X 3 <;> rfl
  rw [z0, z1, Nat.zero_add]
  rfl
/-- the spots' network of the nodes -/
def nNear (nr : Nat → Nat → Bool) (s : Nat) : Bool := nr 0 (s + 2)
def nFar (nr : Nat → Nat → Bool) (s : Nat) : Bool := nr (s + 2) 1
def nAdj (nr : Nat → Nat → Bool) (s t : Nat) : Bool := decide (s ≠ t) && nr (s + 2) (t + 2)
/-- a cut of the spots as a cut of the nodes -/
def xOf (E L : Nat → Bool) (a : Nat) : Bool := if a = 0 ∨ a = 1 then true else if a = 2 ∨ a = 3 then false else if a % 2 = 0 then E (a / 2 - 2) else L (a / 2 - 2)
theorem xOf_in (E L : Nat → Bool) (s : Nat) : xOf E L (2 * (s + 2)) = E s := by
  unfold xOf
  rw [if_neg (by omega), if_neg (by omega), if_pos (by omega), show 2 * (s + 2) / 2 - 2 = s by omega]
theorem xOf_out (E L : Nat → Bool) (s : Nat) : xOf E L (2 * (s + 2) + 1) = L s := by
  unfold xOf
  rw [if_neg (by omega), if_neg (by omega), if_neg (by omega), show (2 * (s + 2) + 1) / 2 - 2 = s by omega]
theorem ct_xcl {n : Nat} {nr : Nat → Nat → Bool} (h01 : nr 0 1 = false) {E L : Nat → Bool} (c : Ct n (nNear nr) (nFar nr) (nAdj nr) E L) : Xcl (n + 2) nr (xOf E L) := by
  refine ⟨rfl, rfl, ?_⟩
  intro k j hk hj hkj hX hn
  by_cases k0 : k = 0
  · subst k0
    by_cases j1 : j = 1
    · subst j1
      rw [h01] at hn
      cases hn
    · obtain ⟨s, rfl⟩ : ∃ s, j = s + 2 := ⟨j - 2, by omega⟩
      rw [xOf_in]
      exact (c s (by omega)).1 hn
  · by_cases k1 : k = 1
    · subst k1
      have hX : false = true := hX
      cases hX
    · obtain ⟨s, rfl⟩ : ∃ s, k = s + 2 := ⟨k - 2, by omega⟩
      rw [xOf_out] at hX
      obtain ⟨-, c2, c3⟩ := c s (by omega)
      by_cases j0 : j = 0
      · subst j0
        rfl
      · by_cases j1 : j = 1
        · subst j1
          have := c2 hX
          unfold nFar at this
          rw [hn] at this
          cases this
        · obtain ⟨t, rfl⟩ : ∃ t, j = t + 2 := ⟨j - 2, by omega⟩
          rw [xOf_in]
          refine c3 t (by omega) hX ?_
          unfold nAdj
          rw [hn, decide_eq_true (by omega)]
          rfl
theorem xOf_cap {n : Nat} {hold : Nat → Nat} {nr : Nat → Nat → Bool} (h01 : nr 0 1 = false) {E L : Nat → Bool} (c : Ct n (nNear nr) (nFar nr) (nAdj nr) E L) : xct (2 * (n + 2)) (xOf E L) (Cn hold nr) = capOf n (fun s => hold (s + 2)) E L := by
  rw [xcl_cap (ct_xcl h01 c)]
  apply cap_cong
  intro s _
  exact ⟨rfl, xOf_in E L s, xOf_out E L s⟩
/-- what is taken stays small where a node holds little -/
theorem ri_small {n v : Nat} {hold : Nat → Nat} {nr : Nat → Nat → Bool} {R : Nat → Nat → Nat} (h : RI (2 * (n + 2)) (Cn hold nr) R v) (hh : ∀ s, s < n → hold (s + 2) ≤ 9) (h01 : nr 0 1 = false) (h10 : nr 1 0 = false) {k j : Nat} (hk : k < n + 2) (hj : j < n + 2) (hkj : k ≠ j) (hn : nr k j = true) : 990 ≤ R (2 * k + 1) (2 * j) := by
  obtain ⟨r1, r2, r3⟩ := h
  have e := r1 (2 * k + 1) (2 * j) (by omega) (by omega)
  rw [cn_out, cn_in, if_pos ⟨by omega, by omega, by rw [show 2 * j / 2 = j by omega]; exact hn⟩, if_neg (by omega)] at e
  by_cases c : j < 2
  · have k2 : 2 ≤ k := by
      by_cases k2 : 2 ≤ k
      · exact k2
      · exfalso
        have : (k = 0 ∧ j = 1) ∨ (k = 1 ∧ j = 0) := by omega
        rcases this with ⟨rfl, rfl⟩ | ⟨rfl, rfl⟩
        · rw [h01] at hn
          cases hn
        · rw [h10] at hn
          cases hn
    have row := r2 (2 * k + 1) (by omega) (by omega) (by omega)
    have hk9 := hh (k - 2) (by omega)
    rw [show k - 2 + 2 = k by omega] at hk9
    have own := r1 (2 * k + 1) (2 * k) (by omega) (by omega)
    rw [cn_out, cn_in, if_neg (fun z => z.2.1 (by omega)), if_pos rfl] at own
    have le : fb_sm (fun b => R (2 * k + 1) b + (if b = 2 * j then R (2 * j) (2 * k + 1) else 0)) (2 * (n + 2)) ≤ fb_sm (fun b => Cn hold nr (2 * k + 1) b + (if b = 2 * k then 9 else 0)) (2 * (n + 2)) := by
      apply fb_sm_le
      intro b hb
      by_cases cb : b = 2 * k
      · subst cb
        rw [if_pos rfl, if_neg (by omega)]
        omega
      · rw [if_neg cb]
        have eb := r1 (2 * k + 1) b (by omega) hb
        have zb : Cn hold nr b (2 * k + 1) = 0 := by
          unfold Cn
          by_cases pb : b % 2 = 0
          · rw [if_pos pb, if_neg (by omega)]
          · rw [if_neg pb, if_neg (by omega)]
        rw [zb] at eb
        by_cases cj : b = 2 * j
        · rw [if_pos cj]
          subst cj
          omega
        · rw [if_neg cj]
          omega
    rw [fb_sm_add, fb_sm_add, sm_pt _ (by omega), sm_pt _ (by omega)] at le
    omega
  · have row := r2 (2 * j) (by omega) (by omega) (by omega)
    have hj9 := hh (j - 2) (by omega)
    rw [show j - 2 + 2 = j by omega] at hj9
    have e2 : fb_sm (Cn hold nr (2 * j)) (2 * (n + 2)) = hold j := by
      have : fb_sm (Cn hold nr (2 * j)) (2 * (n + 2)) = fb_sm (fun b => if b = 2 * j + 1 then hold j else 0) (2 * (n + 2)) := fb_sm_cong (fun b _ => cn_in hold nr j b)
      rw [this, sm_pt _ (by omega)]
    have p := fb_sm_part (R (2 * j)) (i := 2 * k + 1) (n := 2 * (n + 2)) (by omega)
    omega
/-- where no more can be found, the flood is the least cut -/
theorem ri_done {n v : Nat} {hold : Nat → Nat} {nr : Nat → Nat → Bool} {R : Nat → Nat → Nat} (h : RI (2 * (n + 2)) (Cn hold nr) R v) (hh : ∀ s, s < n → hold (s + 2) ≤ 9) (h01 : nr 0 1 = false) (h10 : nr 1 0 = false) {S : Nat → Bool} (s1 : S 1 = true) (s2 : S 2 = false)
    (cl : ∀ a b, a < 2 * (n + 2) → b < 2 * (n + 2) → S a = true → R a b ≠ 0 → S b = true)
    (lst : ∀ X : Nat → Bool, X 1 = true → (∀ a b, a < 2 * (n + 2) → b < 2 * (n + 2) → X a = true → R a b ≠ 0 → X b = true) → ∀ a, a < 2 * (n + 2) → S a = true → X a = true) :
    MinC n (fun s => hold (s + 2)) (nNear nr) (nFar nr) (nAdj nr) v (fun s => S (2 * (s + 2))) (fun s => S (2 * (s + 2) + 1)) := by
  have xcl : Xcl (n + 2) nr S := by
    refine ⟨s1, s2, ?_⟩
    intro k j hk hj hkj hX hn
    have := ri_small h hh h01 h10 hk hj hkj hn
    exact cl (2 * k + 1) (2 * j) (by omega) (by omega) hX (by omega)
  have cut : ∀ E' L', Ct n (nNear nr) (nFar nr) (nAdj nr) E' L' → capOf n (fun s => hold (s + 2)) E' L' = v + xct (2 * (n + 2)) (xOf E' L') R := by
    intro E' L' c
    rw [← xOf_cap h01 c]
    exact x_cut h rfl rfl (by omega)
  refine ⟨?_, ?_, ?_, ?_⟩
  · intro s hs
    obtain ⟨-, -, x3⟩ := xcl
    refine ⟨fun hn => x3 0 (s + 2) (by omega) (by omega) (by omega) s1 hn, ?_, ?_⟩
    · intro hL
      cases hf : nFar nr s
      · rfl
      · have := x3 (s + 2) 1 (by omega) (by omega) (by omega) hL hf
        rw [show 2 * 1 = 2 from rfl, s2] at this
        cases this
    · intro t ht hL ha
      unfold nAdj at ha
      simp only [Bool.and_eq_true, decide_eq_true_eq] at ha
      exact x3 (s + 2) (t + 2) (by omega) (by omega) (by omega) hL ha.2
  · rw [← xcl_cap xcl, x_cut h s1 s2 (by omega), xc_none, Nat.add_zero]
    intro a b ha hb hA hB
    refine Classical.byContradiction (fun hn => ?_)
    rw [cl a b ha hb hA hn] at hB
    cases hB
  · intro E' L' c
    rw [cut E' L' c]
    omega
  · intro E' L' c e
    rw [cut E' L' c] at e
    have z : xct (2 * (n + 2)) (xOf E' L') R = 0 := by omega
    have key := lst (xOf E' L') rfl (fun a b ha hb hA hR => by
      cases hB : xOf E' L' b
      · exact absurd (xc_zero z ha hb hA hB) hR
      · rfl)
    intro s hs
    refine ⟨fun hE => ?_, fun hL => ?_⟩
    · have := key (2 * (s + 2)) (by omega) hE
      rw [xOf_in] at this
      exact this
    · have := key (2 * (s + 2) + 1) (by omega) hL
      rw [xOf_out] at this
      exact this
/-- no more goes than all together hold -/
theorem ri_bound {n v : Nat} {hold : Nat → Nat} {nr : Nat → Nat → Bool} {R : Nat → Nat → Nat} (h : RI (2 * (n + 2)) (Cn hold nr) R v) (hh : ∀ s, s < n → hold (s + 2) ≤ 9) (h01 : nr 0 1 = false) : v ≤ n * 9 := by
  have c : Ct n (nNear nr) (nFar nr) (nAdj nr) (fun _ => true) (fun _ => false) := fun s _ => ⟨fun _ => rfl, fun (q : false = true) => (by cases q), fun t _ (q : false = true) => (by cases q)⟩
  have e := x_cut h (X := xOf (fun _ => true) (fun _ => false)) rfl rfl (by omega)
  rw [xOf_cap h01 c] at e
  have : capOf n (fun s => hold (s + 2)) (fun _ => true) (fun _ => false) ≤ n * 9 := by
    unfold capOf
    exact fb_sm_bound (fun k hk => hh k hk)
  omega
theorem ri_start (M : Nat) (C : Nat → Nat → Nat) : RI M C C 0 := ⟨fun _ _ _ _ => rfl, fun _ _ _ _ => rfl, rfl⟩
/-! a flood -/
def Bfs (M : Nat) (R : Nat → Nat → Nat) (q : Nat → Nat) (vis : Nat → Bool) (par rk : Nat → Nat) (e : Nat) : Prop :=
  (∀ i, i < e → q i < M ∧ vis (q i) = true ∧ rk (q i) = i) ∧
  (∀ b, b < M → vis b = true → rk b < e ∧ q (rk b) = b ∧ par b < M ∧ (b = 1 ∨ (vis (par b) = true ∧ rk (par b) < rk b ∧ 0 < R (par b) b))) ∧
  vis 1 = true ∧
  ∀ X : Nat → Bool, X 1 = true → (∀ a b, a < M → b < M → X a = true → R a b ≠ 0 → X b = true) → ∀ a, a < M → vis a = true → X a = true
theorem bfs_lt {M : Nat} {R : Nat → Nat → Nat} {q : Nat → Nat} {vis : Nat → Bool} {par rk : Nat → Nat} {e : Nat} (h : Bfs M R q vis par rk e) {b : Nat} (hb : b < M) (hv : vis b = false) : e < M := by
  obtain ⟨h1, h2, h3, h4⟩ := h
  have := fb_holes M (e + 1) (fun i => if i < e then q i else b) (by
    intro i hi
    show (if i < e then q i else b) < M
    split
    · rename_i c
      exact (h1 i c).1
    · exact hb) (by
    intro i j hij hj
    show (if i < e then q i else b) ≠ (if j < e then q j else b)
    rw [if_pos (by omega)]
    intro z
    by_cases c : j < e
    · rw [if_pos c] at z
      have a1 := (h1 i (by omega)).2.2
      have a2 := (h1 j c).2.2
      rw [z] at a1
      omega
    · rw [if_neg c] at z
      have a1 := (h1 i (by omega)).2.1
      rw [z, hv] at a1
      cases a1)
  omega
theorem bfs_add {M : Nat} {R : Nat → Nat → Nat} {q : Nat → Nat} {vis : Nat → Bool} {par rk : Nat → Nat} {e : Nat} (h : Bfs M R q vis par rk e) {a b : Nat} (ha : a < M) (hb : b < M) (hva : vis a = true) (hvb : vis b = false) (hR : R a b ≠ 0) : Bfs M R (up q e b) (fun x => vis x || decide (x = b)) (up par b a) (up rk b e) (e + 1) := by
  obtain ⟨h1, h2, h3, h4⟩ := h
  have nb : ∀ x, vis x = true → x ≠ b := fun x hx z => by rw [z, hvb] at hx; cases hx
  refine ⟨?_, ?_, ?_, ?_⟩
  · intro i hi
    by_cases c : i = e
    · subst c
      rw [up_at]
      exact ⟨hb, by simp, up_at⟩
    · obtain ⟨x1, x2, x3⟩ := h1 i (by omega)
      rw [up_ne c, up_ne (nb _ x2)]
      exact ⟨x1, (by show (vis (q i) || decide (q i = b)) = true; rw [x2]; rfl), x3⟩
  · intro x hx hv
    by_cases c : x = b
    · subst c
      rw [up_at, up_at, up_at]
      refine ⟨by omega, rfl, ha, ?_⟩
      rw [up_ne (nb a hva)]
      by_cases c1 : x = 1
      · exact Or.inl c1
      · exact Or.inr ⟨(by show (vis a || decide (a = x)) = true; rw [hva]; rfl), (h2 a ha hva).1, by omega⟩
    · have hv' : vis x = true := by simpa [c] using hv
      obtain ⟨x1, x2, x0, x3⟩ := h2 x hx hv'
      rw [up_ne c, up_ne c, up_ne (show rk x ≠ e by omega)]
      refine ⟨by omega, x2, x0, ?_⟩
      rcases x3 with x3 | ⟨y2, y3, y4⟩
      · exact Or.inl x3
      · rw [up_ne (nb _ y2)]
        exact Or.inr ⟨(by show (vis (par x) || decide (par x = b)) = true; rw [y2]; rfl), y3, y4⟩
  · show (vis 1 || decide (1 = b)) = true
    rw [h3]
    rfl
  · intro X x1 x2 x hx hv
    by_cases c : x = b
    · subst c
      exact x2 a x ha hx (h4 X x1 x2 a ha hva) hR
    · exact h4 X x1 x2 x hx (by simpa [c] using hv)
/-! one more goes back by the parents -/
def Aug (M : Nat) (R0 R : Nat → Nat → Nat) (vis : Nat → Bool) (par rk : Nat → Nat) (b : Nat) : Prop :=
  (∀ x y, x < M → y < M → R x y + R y x = R0 x y + R0 y x) ∧
  (∀ x, x < M → fb_sm (R x) M + (if x = b then 1 else 0) = fb_sm (R0 x) M + (if x = 2 then 1 else 0)) ∧
  ∀ c, c < M → vis c = true → c ≠ 1 → rk c ≤ rk b → 0 < R (par c) c
theorem row_up {M : Nat} {R : Nat → Nat} {y v : Nat} (hy : y < M) : fb_sm (up R y v) M + R y = fb_sm R M + v := fb_sm_upd R v hy
/-- the room with one less here and one more back -/
def rmv (R : Nat → Nat → Nat) (a b : Nat) : Nat → Nat → Nat := fun x => if x = a then up (R a) b (R a b - 1) else if x = b then up (R b) a (R b a + 1) else R x
theorem aug_step {M : Nat} {R0 R : Nat → Nat → Nat} {q : Nat → Nat} {vis : Nat → Bool} {par rk : Nat → Nat} {e b : Nat} (B : Bfs M R0 q vis par rk e) (h : Aug M R0 R vis par rk b) (hb : b < M) (hv : vis b = true) (h1 : b ≠ 1) : Aug M R0 (rmv R (par b) b) vis par rk (par b) := by
  obtain ⟨a1, a2, a3⟩ := h
  obtain ⟨-, -, p1, b3⟩ := B.2.1 b hb hv
  obtain ⟨p2, p3, -⟩ := b3.resolve_left h1
  have pos := a3 b hb hv h1 (Nat.le_refl _)
  have hne : par b ≠ b := fun z => by rw [z] at p3; omega
  have val : ∀ x y, rmv R (par b) b x y = if x = par b ∧ y = b then R (par b) b - 1 else if x = b ∧ y = par b then R b (par b) + 1 else R x y := by
    intro x y
    unfold rmv
    by_cases c1 : x = par b
    · subst c1
      rw [if_pos rfl]
      by_cases c2 : y = b
      · rw [c2, up_at, if_pos ⟨rfl, rfl⟩]
      · rw [up_ne c2, if_neg (fun z => c2 z.2), if_neg (fun z => hne z.1)]
    · rw [if_neg c1]
      by_cases c3 : x = b
      · rw [if_pos c3, c3]
        by_cases c2 : y = par b
        · rw [c2, up_at, if_neg (fun z => hne z.1.symm), if_pos ⟨rfl, rfl⟩]
        · rw [up_ne c2, if_neg (fun z => hne z.1.symm), if_neg (fun z => c2 z.2)]
      · rw [if_neg c3, if_neg (fun z => c1 z.1), if_neg (fun z => c3 z.1)]
  refine ⟨?_, ?_, ?_⟩
  · intro x y hx hy
    have e := a1 x y hx hy
    rw [val, val]
    by_cases c1 : x = par b ∧ y = b
    · obtain ⟨rfl, rfl⟩ := c1
      rw [if_pos ⟨rfl, rfl⟩, if_neg (fun z => hne z.1.symm), if_pos ⟨rfl, rfl⟩]
      omega
    · rw [if_neg c1]
      by_cases c2 : x = b ∧ y = par b
      · obtain ⟨rfl, rfl⟩ := c2
        rw [if_pos ⟨rfl, rfl⟩, if_pos ⟨rfl, rfl⟩]
        omega
      · rw [if_neg c2, if_neg (fun z => c2 ⟨z.2, z.1⟩), if_neg (fun z => c1 ⟨z.2, z.1⟩)]
        exact e
  · intro x hx
    have e := a2 x hx
    unfold rmv
    by_cases c1 : x = par b
    · rw [if_pos c1, if_pos c1]
      rw [if_neg (show ¬ x = b from fun z => hne (by rw [← c1, z]))] at e
      rw [c1] at e
      have u := row_up (R := R (par b)) (v := R (par b) b - 1) hb
      rw [c1]
      omega
    · rw [if_neg c1, if_neg c1]
      by_cases c3 : x = b
      · rw [if_pos c3]
        rw [if_pos c3] at e
        rw [c3] at e
        have u := row_up (R := R b) (v := R b (par b) + 1) p1
        rw [c3]
        omega
      · rw [if_neg c3]
        rw [if_neg c3] at e
        exact e
  · intro c hc hvc hc1 hr
    have old := a3 c hc hvc hc1 (by omega)
    have cb : c ≠ b := fun z => by rw [z] at hr; omega
    rw [val, if_neg (fun z => cb z.2)]
    by_cases c2 : par c = b ∧ c = par b
    · rw [if_pos c2]
      omega
    · rw [if_neg c2]
      exact old
theorem aug_start {M : Nat} {R : Nat → Nat → Nat} {q : Nat → Nat} {vis : Nat → Bool} {par rk : Nat → Nat} {e : Nat} (B : Bfs M R q vis par rk e) : Aug M R R vis par rk 2 := by
  refine ⟨fun _ _ _ _ => rfl, fun _ _ => rfl, ?_⟩
  intro c hc hv h1 _
  obtain ⟨-, -, -, b3⟩ := B.2.1 c hc hv
  exact (b3.resolve_left h1).2.2
theorem aug_end {M n : Nat} {C R0 R : Nat → Nat → Nat} {vis : Nat → Bool} {par rk : Nat → Nat} (h : RI M C R0 n) (a : Aug M R0 R vis par rk 1) (hM : 1 < M) : RI M C R (n + 1) := by
  obtain ⟨r1, r2, r3⟩ := h
  obtain ⟨a1, a2, -⟩ := a
  refine ⟨fun x y hx hy => (a1 x y hx hy).trans (r1 x y hx hy), ?_, ?_⟩
  · intro x hx h1 h2
    have e := a2 x hx
    rw [if_neg h1, if_neg h2] at e
    have := r2 x hx h1 h2
    omega
  · have e := a2 1 hM
    rw [if_pos rfl, if_neg (by decide)] at e
    omega
