/-! ===== judge, ends ===== -/
/-- a step told by two longs -/
def stepL (w : Nat → Nat) (P Q : Int64) : Option (Nat → Nat) := if 0 ≤ P.toInt ∧ P.toInt < w 4 ∧ 0 ≤ Q.toInt ∧ Q.toInt ≤ 99 ∧ (0 < w 0 ∧ (Q.toInt.toNat < w 3 ∨ Q.toInt.toNat = 98 ∨ Q.toInt.toNat = 99)) then stepW w P.toInt.toNat Q.toInt.toNat else none
def wlk (nm : Nat → Int64) (N : Nat) : Nat → Nat → (Nat → Nat) → Nat × (Nat → Nat)
  | 0, n, w => (n, w)
  | f + 1, n, w => if 2 * n + 2 ≤ N then (match stepL w (nm (2 * n)) (nm (2 * n + 1)) with
    | none => (n, w)
    | some w' => wlk nm N f (n + 1) w') else (n, w)
theorem same_stepL {w w' : Nat → Nat} {P Q : Int64} (hG : Good w) (h : stepL w P Q = some w') : Same w w' ∧ Good w' := by
  unfold stepL at h
  split at h
  · rename_i c
    exact same_step hG (by omega) c.2.2.2.2 h
  · cases h
theorem l64_nI {P : Int64} {n : Nat} (h : P.toInt = (n : Int)) (hn : n < 2 ^ 31) : P.toInt32 = nI n := by
  rw [fa_eq, Int64.toInt_toInt32, h, nI_toInt hn]
  exact fb_bmod (by omega) (by omega)
theorem stepInThought_T {w : Nat → Nat} {μ : sm_Mem} (hR : RH 14 w μ) (hS : SH 28 w μ) (hG : Good w) (P Q : Int64) : T (fnX11_stepInThought 0 P Q) μ (fun r μ' => match stepL w P Q with | none => r = false ∧ μ' = μ | some w' => r = true ∧ SH 28 w' μ' ∧ (∀ a, (a < 28 ∨ 32 ≤ a) → μ'.1 a = μ.1 a) ∧ μ'.2 = μ.2) := by
  have n := hG.1
  have r5 := hR.1.2.2.2.2.2
  have e0 : (0 : Int64).toInt = 0 := by decide
  have e99 : (99 : Int64).toInt = 99 := by decide
  have e5 : (nI (w 4)).toInt64.toInt = (w 4 : Int) := by rw [Int32.toInt_toInt64, nI_toInt (by omega)]
  unfold fnX11_stepInThought
  simp only [t_br, t_ret, t_gi, lk_0_5, lk_0_7, r5, lg_cmp_lt, lg_cmp_ge, lg_cmp_le, fa_lt64, fa_le64, e0, e99, e5]
  by_cases c1 : P.toInt < 0
  · rw [if_pos c1]
    unfold stepL
    rw [if_neg (by omega)]
    exact ⟨(by first | rfl | trivial), (by first | rfl | trivial)⟩
  rw [if_neg c1]
  by_cases c2 : (w 4 : Int) ≤ P.toInt
  · rw [if_pos c2]
    unfold stepL
    rw [if_neg (by omega)]
    exact ⟨(by first | rfl | trivial), (by first | rfl | trivial)⟩
  rw [if_neg c2]
  by_cases c3 : Q.toInt < 0
  · rw [if_pos c3]
    unfold stepL
    rw [if_neg (by omega)]
    exact ⟨(by first | rfl | trivial), (by first | rfl | trivial)⟩
  rw [if_neg c3]
  by_cases c4 : Q.toInt ≤ 99
  · rw [if_pos c4]
    have hp : P.toInt32 = nI P.toInt.toNat := l64_nI (by omega) (by omega)
    have hq : Q.toInt32 = nI Q.toInt.toNat := l64_nI (by omega) (by omega)
    generalize hqn : Q.toInt.toNat = q at hq
    generalize hpn : P.toInt.toNat = p at hp
    simp only [hp, hq, t_bnd, t_eq (isPlace7 hR hG _), t_br, bI_0, t_ret]
    cases ht : (decide (0 < w 0) && (rg (nI q) 0 ((w 3 : Int) - 1) || decide (nI q = 98 ∨ nI q = 99)))
    · have : ¬ isPl w q := by
        intro h
        have h2 := h.2
        have : (decide (0 < w 0) && (rg (nI q) 0 ((w 3 : Int) - 1) || decide (nI q = 98 ∨ nI q = 99))) = true := by
          rw [decide_eq_true h.1, Bool.true_and, Bool.or_eq_true]
          rcases h2 with h2 | rfl | rfl
          · exact Or.inl (rg_of (by omega) (by omega) (by omega))
          · exact Or.inr (by decide)
          · exact Or.inr (by decide)
        rw [this] at ht
        cases ht
      simp only [reduceCtorEq, if_true, if_false, eq_self]
      unfold stepL
      rw [hqn, if_neg (fun z => this z.2.2.2.2)]
      exact ⟨(by first | rfl | trivial), (by first | rfl | trivial)⟩
    · have hpl : isPl w q := by
        obtain ⟨a, e, ha⟩ := pl_nI hG ht
        have := ha.2
        have : q = a := (nI_eq (by omega) (by omega)).mp e
        rw [this]
        exact ha
      have hs : stepL w P Q = stepW w p q := by
        unfold stepL
        rw [hqn, hpn, if_pos ⟨by omega, by omega, by omega, c4, hpl⟩]
      simp only [reduceCtorEq, if_true, if_false, eq_self]
      rw [hs]
      refine t_mono (takeStep9 hR hS sc_28 hG (by omega) hpl) ?_
      intro r μ' hr
      cases hw : stepW w p q with
      | none =>
        simp only [hw] at hr
        obtain ⟨rfl, rfl⟩ := hr
        simp only [reduceCtorEq, if_true, if_false, eq_self]
        exact ⟨(by first | rfl | trivial), (by first | rfl | trivial)⟩
      | some w' =>
        simp only [hw] at hr
        obtain ⟨rfl, h1, h2, h3⟩ := hr
        simp only [reduceCtorEq, if_true, if_false, eq_self]
        exact ⟨(by first | rfl | trivial), h1, fun a ha => h2 a (by omega) (by omega), h3⟩
  · rw [if_neg c4]
    unfold stepL
    rw [if_neg (by omega)]
    exact ⟨(by first | rfl | trivial), (by first | rfl | trivial)⟩
theorem wlk_same (nm : Nat → Int64) (N : Nat) : ∀ (f n : Nat) (w : Nat → Nat), Good w → Same w (wlk nm N f n w).2 ∧ Good (wlk nm N f n w).2 ∧ n ≤ (wlk nm N f n w).1 ∧ (wlk nm N f n w).1 ≤ n + f
  | 0, n, w, hG => ⟨same_rf w, hG, Nat.le_refl _, Nat.le_refl _⟩
  | f + 1, n, w, hG => by
    unfold wlk
    split
    · cases h : stepL w (nm (2 * n)) (nm (2 * n + 1)) with
      | none => exact ⟨same_rf w, hG, Nat.le_refl _, by show n ≤ n + (f + 1); omega⟩
      | some w' =>
        obtain ⟨a, b⟩ := same_stepL hG h
        obtain ⟨c, d, e, g⟩ := wlk_same nm N f (n + 1) w' b
        exact ⟨same_tr a c, d, by simp only; omega, by simp only; omega⟩
    · exact ⟨same_rf w, hG, Nat.le_refl _, by show n ≤ n + (f + 1); omega⟩
theorem stepsThought_L {r : Nat} {nm : Nat → Int64} {N : Nat} (hN : N ≤ 60) (hr : ln r = 60) {c : Nat} (hc : lk c 3 = r) (hc2 : 96 ≤ c) {μ0 : sm_Mem} (hs : μ0.1 c 2 = nI N) (hn : ∀ i, i < N → μ0.2.1 r i = nm i) :
    ∀ (f g n : Nat) (w : Nat → Nat) (μ : sm_Mem), 30 - n < f → 30 - n < g → n ≤ 30 → Good w → RH 14 w μ → SH 28 w μ → (∀ a, (a < 28 ∨ 32 ≤ a) → μ.1 a = μ0.1 a) → μ.2 = μ0.2 →
    T (fnX11_stepsInThought_L15 f 0 c (nI n) (nI (2 * n))) μ (fun x μ' => x = nI (wlk nm N g n w).1 ∧ SH 28 (wlk nm N g n w).2 μ' ∧ (∀ a, (a < 28 ∨ 32 ≤ a) → μ'.1 a = μ0.1 a) ∧ μ'.2 = μ0.2) := by
  intro f
  induction f with
  | zero =>
    intro g n w μ h
    omega
  | succ f ih =>
    intro g n w μ hf hg hn30 hG hR hS ho h2
    cases g with
    | zero => omega
    | succ g =>
      unfold fnX11_stepsInThought_L15 wlk
      have hc' := ho c (by omega)
      have e1 : μ.1 c 2 = nI N := by rw [hc']; exact hs
      simp (disch := (first | assumption | omega)) only [t_gi, t_br, e1, li_1, li_2, nI_add, nI_leI, t_ret]
      by_cases q : N ≤ 2 * n + 1
      · rw [if_pos q, if_neg (by omega)]
        exact ⟨rfl, hS, ho, h2⟩
      · rw [if_neg q, if_pos (by omega)]
        have x1 : μ.2.1 r (2 * n) = nm (2 * n) := by rw [h2]; exact hn _ (by omega)
        have x2 : μ.2.1 r (2 * n + 1) = nm (2 * n + 1) := by rw [h2]; exact hn _ (by omega)
        simp (disch := (first | assumption | omega)) only [hc, t_al, x1, x2, t_bnd]
        refine t_mono (stepInThought_T hR hS hG _ _) ?_
        intro z μ' hz
        cases hw : stepL w (nm (2 * n)) (nm (2 * n + 1)) with
        | none =>
          simp only [hw] at hz
          obtain ⟨rfl, rfl⟩ := hz
          simp only [t_br, bI_0, reduceCtorEq, if_true, if_false, eq_self, t_ret]
          exact ⟨(by first | rfl | trivial), hS, ho, h2⟩
        | some w' =>
          simp only [hw] at hz
          obtain ⟨rfl, z1, z2, z3⟩ := hz
          obtain ⟨a, b⟩ := same_stepL hG hw
          simp only [t_br, bI_0, reduceCtorEq, if_true, if_false, eq_self]
          rw [show 2 * n + 2 = 2 * (n + 1) by omega]
          exact ih g (n + 1) w' μ' (by omega) (by omega) (by omega) b (same_rh a hG (rh_fr (fun x q1 q2 => z2 x (by omega)) hR)) z1 (fun x hx => (z2 x hx).trans (ho x hx)) (z3.trans h2)
theorem stepsThought_T {c r : Nat} {nm : Nat → Int64} {N : Nat} (hN : N ≤ 60) (hr : ln r = 60) (hc : lk c 3 = r) (hc2 : 96 ≤ c) {μ : sm_Mem} {w : Nat → Nat} (hs : μ.1 c 2 = nI N) (hn : ∀ i, i < N → μ.2.1 r i = nm i) (hG : Good w) (hR : RH 14 w μ) (hS : SH 24 w μ) :
    T (fnX11_stepsInThought 0 c) μ (fun x μ' => x = nI (wlk nm N 31 0 w).1 ∧ SH 28 (wlk nm N 31 0 w).2 μ' ∧ (∀ a, (a < 28 ∨ 32 ≤ a) → μ'.1 a = μ.1 a) ∧ μ'.2 = μ.2) := by
  unfold fnX11_stepsInThought
  simp only [t_bnd, lk_0_6, lk_0_7]
  refine t_mono (takeFrom9 (scK_of sc_28) (scK_of sc_24) (Or.inr (by omega)) hG hS) ?_
  rintro - μ1 ⟨a1, a2, a3⟩
  have a2' : ∀ a, (a < 28 ∨ 32 ≤ a) → μ1.1 a = μ.1 a := fun a ha => a2 a (by omega)
  refine t_mono (stepsThought_L hN hr hc hc2 (μ0 := μ1) (by rw [a2' c (by omega)]; exact hs) (by rw [a3]; exact hn) 4096 31 0 w μ1 (by omega) (by omega) (by omega) hG (rh_fr (fun x q1 q2 => a2' x (by omega)) hR) a1 (fun _ _ => rfl) rfl) ?_
  rintro x μ' ⟨b1, b2, b3, b4⟩
  exact ⟨b1, b2, fun a ha => (b3 a ha).trans (a2' a ha), b4.trans a3⟩
theorem in64 (v lo hi : Int64) (μ : sm_Mem) : fnX12_in v lo hi μ = some (decide (lo.toInt ≤ v.toInt ∧ v.toInt ≤ hi.toInt), μ) := by
  unfold fnX12_in
  simp only [m_br, m_ret, lg_cmp_lt, lg_cmp_gt, fa_lt64]
  split
  · rw [decide_eq_false (by omega)]
  · split
    · rw [decide_eq_false (by omega)]
    · rw [decide_eq_true (by omega)]
theorem pl_true {w : Nat → Nat} (hG : Good w) {q : Nat} (h : isPl w q) : (decide (0 < w 0) && (rg (nI q) 0 ((w 3 : Int) - 1) || decide (nI q = 98 ∨ nI q = 99))) = true := by
  have n := hG.1
  have h2 := h.2
  rw [decide_eq_true h.1, Bool.true_and, Bool.or_eq_true]
  rcases h2 with h2 | rfl | rfl
  · exact Or.inl (rg_of (by omega) (by omega) (by omega))
  · exact Or.inr (by decide)
  · exact Or.inr (by decide)
theorem pl_iff {w : Nat → Nat} (hG : Good w) {q : Nat} (hq : q < 4096) : (decide (0 < w 0) && (rg (nI q) 0 ((w 3 : Int) - 1) || decide (nI q = 98 ∨ nI q = 99))) = decide (0 < w 0 ∧ (q < w 3 ∨ q = 98 ∨ q = 99)) := by
  by_cases h : (0 < w 0 ∧ (q < w 3 ∨ q = 98 ∨ q = 99))
  · rw [pl_true hG h, decide_eq_true h]
  · rw [decide_eq_false h]
    cases ht : (decide (0 < w 0) && (rg (nI q) 0 ((w 3 : Int) - 1) || decide (nI q = 98 ∨ nI q = 99)))
    · rfl
    · obtain ⟨a, e, ha⟩ := pl_nI hG ht
      have := ha.2
      have := hG.1
      have : q = a := (nI_eq (by omega) (by omega)).mp e
      rw [this] at h
      exact absurd ha h
/-- the reference's own step of a walk -/
theorem walks_L {j : Nat} (hj : j < 4) {nm : Nat → Int64} {N : Nat} (hN : N ≤ 60) {μ0 : sm_Mem} (hs : μ0.1 168 j = nI N) (hn : ∀ i, i < N → μ0.2.1 170 (60 * j + i) = nm i) :
    ∀ (f g n : Nat) (w : Nat → Nat) (μ : sm_Mem), 31 - n < f → 30 - n < g → n ≤ 30 → Good w → WH 147 w μ → (∀ a, a ≠ 147 → μ.1 a = μ0.1 a) → μ.2 = μ0.2 →
    T (fnX12_walks_L4 f 146 (nI j) (nI n) (1 : Int32)) μ (fun x μ' => x = nI (wlk nm N g n w).1 ∧ WH 147 (wlk nm N g n w).2 μ' ∧ (∀ a, a ≠ 147 → μ'.1 a = μ0.1 a) ∧ μ'.2 = μ0.2) := by
  intro f
  induction f with
  | zero =>
    intro g n w μ h
    omega
  | succ f ih =>
    intro g n w μ hf hg hn30 hG hW ho h2
    have nn := hG.1
    cases g with
    | zero => omega
    | succ g =>
      have e_168 : ln 168 = 4 := rfl
      have e_170 : ln 170 = 240 := rfl
      have m1 : μ.1 168 j = nI N := by rw [ho 168 (by omega)]; exact hs
      unfold fnX12_walks_L4 wlk
      rw [t_brF (by decide)]
      simp (disch := (first | assumption | omega)) only [lk_146_43, lk_146_45, t_ai, m1, li_2, li_60, li_1, pk_mul, nI_add, t_br, nI_ltI, t_ret]
      by_cases q : N < 2 * n + 2
      · rw [if_pos q, if_neg (by omega)]
        exact ⟨rfl, hW, ho, h2⟩
      rw [if_neg q, if_pos (by omega)]
      have x1 : μ.2.1 170 (60 * j + 2 * n) = nm (2 * n) := by rw [h2]; exact hn _ (by omega)
      have x2 : μ.2.1 170 (60 * j + 2 * n + 1) = nm (2 * n + 1) := by rw [h2, show 60 * j + 2 * n + 1 = 60 * j + (2 * n + 1) by omega]; exact hn _ (by omega)
      have J0 : ∀ Q : Int32 → sm_Mem → Prop, T (fnX12_walks_J115 (fnX12_walks_L4 f) 146 (nI j) (nI n)) μ Q ↔ Q (nI n) μ := by
        intro Q
        unfold fnX12_walks_J115 fnX12_walks_J116 fnX12_walks_J127
        rw [t_brT rfl, t_nm, show nI n + (0 : Int32) = nI n from nI_add n 0]
        cases f with
        | zero => omega
        | succ f =>
          unfold fnX12_walks_L4
          rw [t_brT rfl, t_ret]
      have J1 : ∀ (Q : Int32 → sm_Mem → Prop) (μ1 : sm_Mem), T (fnX12_walks_J116 (fnX12_walks_L4 f) 146 (nI j) (nI n) (nI 1)) μ1 Q ↔ T (fnX12_walks_L4 f 146 (nI j) (nI (n + 1)) (1 : Int32)) μ1 Q := by
        intro Q μ1
        show T (fnX12_walks_J116 (fnX12_walks_L4 f) 146 (nI j) (nI n) (1 : Int32)) μ1 Q ↔ _
        unfold fnX12_walks_J116 fnX12_walks_J127
        rw [t_brF (by decide), t_nm, nI_1]
      have no : stepL w (nm (2 * n)) (nm (2 * n + 1)) = none → ∀ g', nI (wlk nm N (g' + 1) n w).1 = nI n → True := fun _ _ _ => trivial
      simp (disch := (first | assumption | omega)) only [t_al, x1, x2]
      generalize nm (2 * n) = P
      generalize nm (2 * n + 1) = Q'
      have e0 : (0 : Int64).toInt = 0 := by decide
      have e8 : (8 : Int64).toInt = 8 := by decide
      have e99 : (99 : Int64).toInt = 99 := by decide
      simp only [t_bnd, t_eq (in64 _ _ _ _), e0, e8, e99, t_br, bI_0]
      by_cases c1 : 0 ≤ P.toInt ∧ P.toInt ≤ 8
      · rw [decide_eq_true c1]
        simp only [reduceCtorEq, if_true, if_false, eq_self]
        by_cases c2 : 0 ≤ Q'.toInt ∧ Q'.toInt ≤ 99
        · rw [decide_eq_true c2]
          simp only [reduceCtorEq, if_true, if_false, eq_self]
          have hp : P.toInt32 = nI P.toInt.toNat := l64_nI (by omega) (by omega)
          have hq : Q'.toInt32 = nI Q'.toInt.toNat := l64_nI (by omega) (by omega)
          generalize hqn : Q'.toInt.toNat = q' at hq
          generalize hpn : P.toInt.toNat = p at hp
          simp only [hp, hq, t_eq (isPerson12 hW hG _)]
          by_cases c3 : p < w 4
          · rw [rg_of (n := p) (by omega) (by omega) (by omega)]
            simp only [reduceCtorEq, if_true, if_false, eq_self, t_eq (isPlace12 hW hG _)]
            rw [pl_iff hG (by omega)]
            by_cases c4 : (0 < w 0 ∧ (q' < w 3 ∨ q' = 98 ∨ q' = 99))
            · rw [decide_eq_true c4]
              simp only [reduceCtorEq, if_true, if_false, eq_self]
              have hs' : stepL w P Q' = stepW w p q' := by
                unfold stepL
                rw [hqn, hpn, if_pos ⟨by omega, by omega, by omega, by omega, c4⟩]
              rw [hs']
              refine t_mono (steps12 hW hG c3 c4) ?_
              intro z μ' hz
              cases hw : stepW w p q' with
              | none =>
                simp only [hw] at hz
                obtain ⟨rfl, rfl⟩ := hz
                simp only [reduceCtorEq, if_true, if_false, eq_self, J0]
                exact ⟨(by first | rfl | trivial), hW, ho, h2⟩
              | some w' =>
                simp only [hw] at hz
                obtain ⟨rfl, z1, z2, z3⟩ := hz
                obtain ⟨a, b⟩ := same_step hG c3 c4 hw
                simp only [reduceCtorEq, if_true, if_false, eq_self, J1]
                exact ih g (n + 1) w' μ' (by omega) (by omega) (by omega) b z1 (fun x hx => (z2 x hx).trans (ho x hx)) (z3.trans h2)
            · have hs' : stepL w P Q' = none := by
                unfold stepL
                rw [hqn, if_neg (fun z => c4 z.2.2.2.2)]
              rw [decide_eq_false c4, hs']
              simp only [reduceCtorEq, if_true, if_false, eq_self, J0]
              exact ⟨(by first | rfl | trivial), hW, ho, h2⟩
          · have hs' : stepL w P Q' = none := by
              unfold stepL
              rw [if_neg (by omega)]
            have hr : rg (nI p) 0 ((w 4 : Int) - 1) = false := by
              unfold rg
              rw [nI_toInt (by omega)]
              exact decide_eq_false (by omega)
            rw [hr, hs']
            simp only [reduceCtorEq, if_true, if_false, eq_self, J0]
            exact ⟨(by first | rfl | trivial), hW, ho, h2⟩
        · have hs' : stepL w P Q' = none := by
            unfold stepL
            rw [if_neg (by omega)]
          rw [decide_eq_false c2, hs']
          simp only [reduceCtorEq, if_true, if_false, eq_self, J0]
          exact ⟨(by first | rfl | trivial), hW, ho, h2⟩
      · have hs' : stepL w P Q' = none := by
          unfold stepL
          rw [if_neg (by omega)]
        rw [decide_eq_false c1, hs']
        simp only [reduceCtorEq, if_true, if_false, eq_self, J0]
        exact ⟨(by first | rfl | trivial), hW, ho, h2⟩
theorem slot_ap {j : Nat} (hj : j < 4) : lk 92 j = 96 + 2 * j ∧ lk (96 + 2 * j) 3 = 97 + 2 * j ∧ ln (97 + 2 * j) = 60 := by
  have e : ∀ j, j < 4 → lk 92 j = 96 + 2 * j ∧ lk (96 + 2 * j) 3 = 97 + 2 * j ∧ ln (97 + 2 * j) = 60 := by decide +kernel
  exact e j hj
theorem ok_m1 : ¬ (1 : Int32) = 0 := by decide
theorem op_judge (v : Int32) : op2 Inv (fnX11_judge 0 v) (fnX12_judge 146 v) := by
  apply op_two
  intro w μ hC hO
  obtain ⟨hG, hR, hS, hW, hL, hT, hSl, hI, hF⟩ := id hC
  have n := hG.1
  have e_92 : ln 92 = 4 := rfl
  have e_168 : ln 168 = 4 := rfl
  unfold fnX11_judge fnX12_judge
  simp only [t_bnd, t_eq (isSlot11 v _), t_br, bI_0, lk_0_14, t_eq (isSlot12 v _)]
  cases hh : rg v 0 3
  · refine ⟨-2, w, same_rf w, hG, ?_, ?_⟩
    · simp only [reduceCtorEq, if_true, if_false, eq_self, t_ret]
      exact ⟨(by first | rfl | trivial), cp_rf hS⟩
    · intro μ1 _ _ hW1
      simp only [reduceCtorEq, if_true, if_false, eq_self, t_ret]
      exact ⟨(by first | rfl | trivial), rp_rf hW1⟩
  obtain ⟨j, -, hj, rfl⟩ := rg_nat (a := 0) (b := 3) hh (by omega)
  obtain ⟨s1, s2, s3⟩ := slot_ap (j := j) (by omega)
  simp (disch := (first | assumption | omega)) only [reduceCtorEq, if_true, if_false, eq_self, t_ap, s1, t_gi, lk_146_43, t_ai]
  rcases hSl j (by omega) with ⟨q1, q2⟩ | ⟨N, wd, q1, q2, q3, q4, q5, q6, q7, q8⟩
  · refine ⟨-6, w, same_rf w, hG, ?_, ?_⟩
    · rw [t_brT q1, t_ret]
      exact ⟨(by first | rfl | trivial), cp_rf hS⟩
    · intro μ1 h1 _ hW1
      rw [h1 168 (by omega), t_brT (show μ.1 168 j = (-1 : Int32) from q2), t_ret]
      exact ⟨(by first | rfl | trivial), rp_rf hW1⟩
  · have hn := stepsThought_T (nm := fun i => μ.2.1 (97 + 2 * j) i) q1 s3 s2 (by omega) q6 (fun i hi => rfl) hG hR hS
    refine ⟨nI (wlk (fun i => μ.2.1 (97 + 2 * j) i) N 31 0 w).1, w, same_rf w, hG, ?_, ?_⟩
    · rw [t_brF (by rw [q3]; exact ok_m1)]
      simp (disch := (first | assumption | omega)) only [t_ap, s1, t_bnd]
      refine t_mono hn ?_
      rintro x μ1 ⟨a1, a2, a3, a4⟩
      simp only [t_ret]
      exact ⟨a1, sh_fr (fun a p1 p2 => a3 a (by omega)) hS, fun a ha => a3 a (by omega), by rw [a4], Or.inr ⟨rfl, a3 42 (by omega), a3 45 (by omega)⟩⟩
    · intro μ1 h1 h2 hW1
      have m1 := h1 168 (by omega)
      have d0 : μ1.1 146 21 = nI 0 := by rw [h1 146 (by omega)]; exact hF.1
      rw [m1, q7, t_brF (n_m1 (n := N) (by omega))]
      simp only [t_bnd]
      refine t_mono (thinks_T d0) ?_
      rintro - μ2 ⟨b1, b2, b3, b4, b5⟩
      have hW2 : WH 147 w μ2 := wh_fr (fun i hi => by rw [b4 147 (by omega) (by omega)]) hW1
      have b5' : μ2.2.1 = μ.2.1 := by rw [b5]; exact h2
      unfold fnX12_walks
      refine t_mono (walks_L (j := j) (by omega) (nm := fun i => μ.2.1 (97 + 2 * j) i) q1 (μ0 := μ2) (by rw [b4 168 (by omega) (by omega), m1]; exact q7) (fun i hi => by rw [b5']; exact (q8 i (by omega)).symm) 4096 31 0 w μ2 (by omega) (by omega) (by omega) hG hW2 (fun _ _ => rfl) rfl) ?_
      rintro x μ3 ⟨c1, c2, c3, c4⟩
      have d1 : μ3.1 146 21 = nI 1 := by rw [c3 146 (by omega)]; exact b2
      refine t_mono (wakes_T d1) ?_
      rintro - μ4 ⟨e1, e2, e3, e4, e5⟩
      rw [t_ret]
      refine ⟨c1, ?_, ?_, ?_, ?_⟩
      · intro i hi
        rw [e1 i hi, c3 157 (by omega), b1 i hi]
        exact hW1 i hi
      · intro a ha
        rw [e4 a (by omega) (by omega), c3 a (by omega), b4 a (by omega) (by omega)]
      · intro k hk
        by_cases q : k = 21
        · subst q
          rw [e2, d0]
        · rw [e3 k q, c3 146 (by omega), b3 k q]
      · intro a _
        rw [e5, c4, b5]
theorem op_ends (v p : Int32) : op2 Inv (fnX11_ends 0 v p) (fnX12_ends 146 v p) := by
  apply op_two
  intro w μ hC hO
  obtain ⟨hG, hR, hS, hW, hL, hT, hSl, hI, hF⟩ := id hC
  have n := hG.1
  have e_92 : ln 92 = 4 := rfl
  have e_31 : ln 31 = 8 := rfl
  have e_168 : ln 168 = 4 := rfl
  unfold fnX11_ends fnX12_ends
  simp only [t_bnd, t_eq (isSlot11 v _), t_br, bI_0, lk_0_14, lk_0_7, t_eq (isSlot12 v _), t_eq (isPerson11 hR hG p)]
  cases hh : rg v 0 3
  · refine ⟨-2, w, same_rf w, hG, ?_, ?_⟩
    · simp only [reduceCtorEq, if_true, if_false, eq_self, t_ret]
      exact ⟨(by first | rfl | trivial), cp_rf hS⟩
    · intro μ1 _ _ hW1
      simp only [reduceCtorEq, if_true, if_false, eq_self, t_ret]
      exact ⟨(by first | rfl | trivial), rp_rf hW1⟩
  cases hp : rg p 0 ((w 4 : Int) - 1)
  · refine ⟨-2, w, same_rf w, hG, ?_, ?_⟩
    · simp only [reduceCtorEq, if_true, if_false, eq_self, t_ret]
      exact ⟨(by first | rfl | trivial), cp_rf hS⟩
    · intro μ1 _ _ hW1
      simp only [reduceCtorEq, if_true, if_false, eq_self, t_ret, t_eq (isPerson12 hW1 hG p), hp]
      exact ⟨(by first | rfl | trivial), rp_rf hW1⟩
  obtain ⟨j, -, hj, rfl⟩ := rg_nat (a := 0) (b := 3) hh (by omega)
  obtain ⟨p', hp', rfl⟩ := rg_nI hp (by omega)
  obtain ⟨s1, s2, s3⟩ := slot_ap (j := j) (by omega)
  simp (disch := (first | assumption | omega)) only [reduceCtorEq, if_true, if_false, eq_self, t_ap, s1, t_gi, lk_146_43, t_ai]
  rcases hSl j (by omega) with ⟨q1, q2⟩ | ⟨N, wd, q1, q2, q3, q4, q5, q6, q7, q8⟩
  · refine ⟨-6, w, same_rf w, hG, ?_, ?_⟩
    · rw [t_brT q1, t_ret]
      exact ⟨(by first | rfl | trivial), cp_rf hS⟩
    · intro μ1 h1 _ hW1
      simp only [t_eq (isPerson12 hW1 hG _), hp, reduceCtorEq, if_true, if_false, eq_self]
      rw [h1 168 (by omega), t_brT (show μ.1 168 j = (-1 : Int32) from q2), t_ret]
      exact ⟨(by first | rfl | trivial), rp_rf hW1⟩
  · have hn := stepsThought_T (nm := fun i => μ.2.1 (97 + 2 * j) i) q1 s3 s2 (by omega) q6 (fun i hi => rfl) hG hR hS
    obtain ⟨ws, wg, wl, wu⟩ := wlk_same (fun i => μ.2.1 (97 + 2 * j) i) N 31 0 w hG
    have w4 := ws.1 4 (by omega)
    refine ⟨nI ((wlk (fun i => μ.2.1 (97 + 2 * j) i) N 31 0 w).2 (191 + 7 * p')), w, same_rf w, hG, ?_, ?_⟩
    · rw [t_brF (by rw [q3]; exact ok_m1)]
      simp (disch := (first | assumption | omega)) only [t_ap, s1, t_bnd]
      refine t_mono hn ?_
      rintro x μ1 ⟨a1, a2, a3, a4⟩
      simp (disch := (first | assumption | omega)) only [t_ret, lk_28_4, t_ai]
      exact ⟨a2.2.2.2 p' (by omega), sh_fr (fun a p1 p2 => a3 a (by omega)) hS, fun a ha => a3 a (by omega), by rw [a4], Or.inr ⟨rfl, a3 42 (by omega), a3 45 (by omega)⟩⟩
    · intro μ1 h1 h2 hW1
      have m1 := h1 168 (by omega)
      have d0 : μ1.1 146 21 = nI 0 := by rw [h1 146 (by omega)]; exact hF.1
      simp only [t_eq (isPerson12 hW1 hG _), hp, reduceCtorEq, if_true, if_false, eq_self]
      rw [m1, q7, t_brF (n_m1 (n := N) (by omega))]
      simp only [t_bnd]
      refine t_mono (thinks_T d0) ?_
      rintro - μ2 ⟨b1, b2, b3, b4, b5⟩
      have hW2 : WH 147 w μ2 := wh_fr (fun i hi => by rw [b4 147 (by omega) (by omega)]) hW1
      have b5' : μ2.2.1 = μ.2.1 := by rw [b5]; exact h2
      unfold fnX12_walks
      refine t_mono (walks_L (j := j) (by omega) (nm := fun i => μ.2.1 (97 + 2 * j) i) q1 (μ0 := μ2) (by rw [b4 168 (by omega) (by omega), m1]; exact q7) (fun i hi => by rw [b5']; exact (q8 i (by omega)).symm) 4096 31 0 w μ2 (by omega) (by omega) (by omega) hG hW2 (fun _ _ => rfl) rfl) ?_
      rintro x μ3 ⟨c1, c2, c3, c4⟩
      have d1 : μ3.1 146 21 = nI 1 := by rw [c3 146 (by omega)]; exact b2
      have e6 : 185 + 7 * p' + 6 = 191 + 7 * p' := by omega
      have q6' := of_eq c2 (p := p') (k := 6) (by omega) (by omega) (by omega)
      rw [e6] at q6'
      rw [c1, t_brT (show (0 : Int32) ≤ nI _ from nI_pos' (by omega)), li_6, t_bnd, t_eq q6']
      unfold fnX12_ends_J56
      rw [t_bnd]
      refine t_mono (wakes_T d1) ?_
      rintro - μ4 ⟨e1, e2, e3, e4, e5⟩
      rw [t_ret]
      refine ⟨rfl, ?_, ?_, ?_, ?_⟩
      · intro i hi
        rw [e1 i hi, c3 157 (by omega), b1 i hi]
        exact hW1 i hi
      · intro a ha
        rw [e4 a (by omega) (by omega), c3 a (by omega), b4 a (by omega) (by omega)]
      · intro k hk
        by_cases q : k = 21
        · subst q
          rw [e2, d0]
        · rw [e3 k q, c3 146 (by omega), b3 k q]
      · intro a _
        rw [e5, c4, b5]
