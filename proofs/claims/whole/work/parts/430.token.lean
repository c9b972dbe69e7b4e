/-! ===== TOKENS ===== -/
def isL (x : Int32) : Bool := rg x 97 122
def isD (x : Int32) : Bool := rg x 48 57
def isB (x : Int32) : Bool := decide (x = 32 ∨ x = 10)
def skp (tp : Nat → Int32) : Nat → Nat → Nat
  | 0, p => p
  | f + 1, p => if isB (tp p) = true then skp tp f (p + 1) else p
def wrd (tp : Nat → Int32) : Nat → Nat → Nat
  | 0, p => p
  | f + 1, p => if isL (tp p) = true then wrd tp f (p + 1) else p
def dgt (tp : Nat → Int32) : Nat → Nat → Nat → Nat × Nat
  | 0, p, v => (v, p)
  | f + 1, p, v => if isD (tp p) = true then dgt tp f (p + 1) (10 * v + ((tp p).toInt.toNat - 48)) else (v, p)
/-! start, kind, value, end -/
def aSt (tp : Nat → Int32) (n p : Nat) : Nat := skp tp (n - p) p
def aKd (tp : Nat → Int32) (n p : Nat) : Nat := if n ≤ aSt tp n p then 0 else if isL (tp (aSt tp n p)) = true then 1 else if isD (tp (aSt tp n p)) = true then 2 else if tp (aSt tp n p) = 59 then 3 else 4
def aVl (tp : Nat → Int32) (n p : Nat) : Nat := (dgt tp (n - aSt tp n p) (aSt tp n p) 0).1
def aEn (tp : Nat → Int32) (n p : Nat) : Nat := if n ≤ aSt tp n p then aSt tp n p else if isL (tp (aSt tp n p)) = true then wrd tp (n - aSt tp n p) (aSt tp n p) else if isD (tp (aSt tp n p)) = true then (dgt tp (n - aSt tp n p) (aSt tp n p) 0).2 else aSt tp n p + 1
def Byt (tp : Nat → Int32) (n : Nat) : Prop := ∀ k, k < n → -128 ≤ (tp k).toInt ∧ (tp k).toInt < 128
theorem skp_le {tp : Nat → Int32} : ∀ f p, p ≤ skp tp f p ∧ skp tp f p ≤ p + f := by
  intro f
  induction f with
  | zero =>
    intro p
    exact ⟨Nat.le_refl _, Nat.le_refl _⟩
  | succ f ih =>
    intro p
    rw [skp]
    split
    · have := ih (p + 1)
      omega
    · omega
theorem wrd_le {tp : Nat → Int32} : ∀ f p, p ≤ wrd tp f p ∧ wrd tp f p ≤ p + f := by
  intro f
  induction f with
  | zero =>
    intro p
    exact ⟨Nat.le_refl _, Nat.le_refl _⟩
  | succ f ih =>
    intro p
    rw [wrd]
    split
    · have := ih (p + 1)
      omega
    · omega
theorem dgt_le {tp : Nat → Int32} : ∀ f p v, p ≤ (dgt tp f p v).2 ∧ (dgt tp f p v).2 ≤ p + f := by
  intro f
  induction f with
  | zero =>
    intro p v
    exact ⟨Nat.le_refl _, Nat.le_refl _⟩
  | succ f ih =>
    intro p v
    rw [dgt]
    split
    · have := ih (p + 1) (10 * v + ((tp p).toInt.toNat - 48))
      omega
    · exact ⟨Nat.le_refl _, by omega⟩
theorem adv_le {tp : Nat → Int32} {n p : Nat} (h : p ≤ n) : p ≤ aSt tp n p ∧ aSt tp n p ≤ aEn tp n p ∧ aEn tp n p ≤ n ∧ aKd tp n p ≤ 4 ∧ (aKd tp n p ≠ 0 → p < aEn tp n p) := by
  have a : p ≤ aSt tp n p ∧ aSt tp n p ≤ p + (n - p) := skp_le (tp := tp) (n - p) p
  have k4 : aKd tp n p ≤ 4 := by
    unfold aKd
    split
    · omega
    · split
      · omega
      · split
        · omega
        · split <;> omega
  by_cases c : n ≤ aSt tp n p
  · have e : aEn tp n p = aSt tp n p := by
      unfold aEn
      rw [if_pos c]
    have k : aKd tp n p = 0 := by
      unfold aKd
      rw [if_pos c]
    omega
  · have key : aSt tp n p < aEn tp n p ∧ aEn tp n p ≤ n := by
      unfold aEn
      rw [if_neg c]
      split
      · rename_i q
        have b := (wrd_le (tp := tp) (n - aSt tp n p) (aSt tp n p)).2
        rw [show n - aSt tp n p = (n - aSt tp n p - 1) + 1 by omega, wrd, if_pos q] at b ⊢
        have := (wrd_le (tp := tp) (n - aSt tp n p - 1) (aSt tp n p + 1)).1
        omega
      · split
        · rename_i q
          have b := (dgt_le (tp := tp) (n - aSt tp n p) (aSt tp n p) 0).2
          rw [show n - aSt tp n p = (n - aSt tp n p - 1) + 1 by omega, dgt, if_pos q] at b ⊢
          have := (dgt_le (tp := tp) (n - aSt tp n p - 1) (aSt tp n p + 1) (10 * 0 + ((tp (aSt tp n p)).toInt.toNat - 48))).1
          omega
        · omega
    omega
theorem see_b : ∀ i : Fin 256, (Int32.ofInt ((i.val : Int) - 128) &&& 255).toInt = if (Int32.ofInt ((i.val : Int) - 128)).toInt < 0 then (Int32.ofInt ((i.val : Int) - 128)).toInt + 256 else (Int32.ofInt ((i.val : Int) - 128)).toInt := by decide +kernel
theorem see_i {x : Int32} (h1 : -128 ≤ x.toInt) (h2 : x.toInt < 128) : (x &&& 255).toInt = if x.toInt < 0 then x.toInt + 256 else x.toInt := by
  have e := see_b ⟨(x.toInt + 128).toNat, by omega⟩
  have ex : Int32.ofInt ((((x.toInt + 128).toNat : Nat) : Int) - 128) = x := by
    rw [show (((x.toInt + 128).toNat : Nat) : Int) - 128 = x.toInt by omega]
    exact Int32.ofInt_toInt x
  simp only [ex] at e
  exact e
theorem see_rg {x : Int32} (h1 : -128 ≤ x.toInt) (h2 : x.toInt < 128) {a b : Int} (ha : 0 ≤ a) (hb : b < 128) : rg (x &&& 255) a b = rg x a b := by
  unfold rg
  rw [see_i h1 h2]
  apply decide_eq_decide.mpr
  split <;> omega
theorem see_eq {x c : Int32} (h1 : -128 ≤ x.toInt) (h2 : x.toInt < 128) (hc : 0 ≤ c.toInt) (hc2 : c.toInt < 128) : (x &&& 255) = c ↔ x = c := by
  rw [← Int32.toInt_inj, ← Int32.toInt_inj, see_i h1 h2]
  split <;> omega
/-! the component's -/
def Tap6 (tp : Nat → Int32) (n : Nat) (μ : sm_Mem) : Prop := μ.2.2 = 1 ∧ μ.1 2 4 = nI n ∧ ∀ k, k < n → μ.1 1 k = tp k
def FrK (μ0 μ : sm_Mem) : Prop := (∀ k, (k < 5 ∨ 9 ≤ k) → μ.1 2 k = μ0.1 2 k) ∧ (∀ a, a ≠ 2 → μ.1 a = μ0.1 a) ∧ μ.2 = μ0.2
theorem frK_rf (μ : sm_Mem) : FrK μ μ := ⟨fun _ _ => rfl, fun _ _ => rfl, rfl⟩
theorem frK_tr {μ μ1 μ2 : sm_Mem} (h : FrK μ μ1) (h' : FrK μ1 μ2) : FrK μ μ2 := ⟨fun k q => (h'.1 k q).trans (h.1 k q), fun a q => (h'.2.1 a q).trans (h.2.1 a q), h'.2.2.trans h.2.2⟩
theorem tap6_fr {tp : Nat → Int32} {n : Nat} {μ μ1 : sm_Mem} (h : FrK μ μ1) (H : Tap6 tp n μ) : Tap6 tp n μ1 := ⟨by rw [h.2.2]; exact H.1, by rw [h.1 4 (by omega)]; exact H.2.1, fun k hk => by rw [h.2.1 1 (by omega)]; exact H.2.2 k hk⟩
theorem frK_si {μ0 μ : sm_Mem} {k : Nat} {x : Int32} (h : FrK μ0 μ) (hk : 5 ≤ k) (hk2 : k < 9) : FrK μ0 (u2 μ.1 2 k x, μ.2) := by
  refine ⟨fun j hj => ?_, fun a ha => ?_, h.2.2⟩
  · show u2 μ.1 2 k x 2 j = _
    rw [u2_k (by omega)]
    exact h.1 j hj
  · show u2 μ.1 2 k x a = _
    rw [u2_ne ha]
    exact h.2.1 a ha
theorem isL6 (x : Int32) (μ : sm_Mem) : fnX6_isLetter x μ = some (isL x, μ) := by
  unfold fnX6_isLetter isL rg
  simp only [m_br, m_ret, fa_lt]
  have e1 : (97 : Int32).toInt = 97 := by decide
  have e2 : (122 : Int32).toInt = 122 := by decide
  rw [e1, e2]
  split
  · rw [decide_eq_false (by omega)]
  · split
    · rw [decide_eq_false (by omega)]
    · rw [decide_eq_true (by omega)]
theorem isD6 (x : Int32) (μ : sm_Mem) : fnX6_isDigit x μ = some (isD x, μ) := by
  unfold fnX6_isDigit isD rg
  simp only [m_br, m_ret, fa_lt]
  have e1 : (48 : Int32).toInt = 48 := by decide
  have e2 : (57 : Int32).toInt = 57 := by decide
  rw [e1, e2]
  split
  · rw [decide_eq_false (by omega)]
  · split
    · rw [decide_eq_false (by omega)]
    · rw [decide_eq_true (by omega)]
theorem kd1 : kd 1 = 21 := rfl
theorem wrd6_L {tp : Nat → Int32} {n : Nat} (hn : n ≤ 1600) {μ0 : sm_Mem} (hT : Tap6 tp n μ0) : ∀ (f p : Nat) (μ : sm_Mem), n - p < f → p ≤ n → FrK μ0 μ → μ.1 2 6 = nI p → T (fnX6_advance_L112 f 2) μ (fun _ μ' => μ'.1 2 6 = nI (wrd tp (n - p) p) ∧ (∀ k, k ≠ 6 → μ'.1 2 k = μ.1 2 k) ∧ FrK μ0 μ') := by
  have e_1 : ln 1 = 1600 := rfl
  intro f
  induction f with
  | zero =>
    intro p μ h
    omega
  | succ f ih =>
    intro p μ hf hp hr h6
    have t := tap6_fr hr hT
    unfold fnX6_advance_L112
    rw [t_gi, h6, t_gi, t.2.1]
    by_cases c : n ≤ p
    · rw [t_brT (nI_le c (by omega)), t_ret, show n - p = 0 by omega]
      exact ⟨h6, fun _ _ => rfl, hr⟩
    · rw [t_brF (nI_ge (by omega) (by omega)), t_gt (by rw [t.1]; rfl), t.1, t_gi, h6, t_ai (by omega), t.2.2 p (by omega), t_bnd, t_eq (isL6 _ _), show n - p = (n - (p + 1)) + 1 by omega, wrd]
      cases q : isL (tp p)
      · rw [t_brT (by decide), t_ret, if_neg (by decide)]
        exact ⟨h6, fun _ _ => rfl, hr⟩
      · rw [t_brF (by decide), t_gi, h6, nI_1, t_si, if_pos rfl]
        refine t_mono (ih (p + 1) _ (by omega) (by omega) (frK_si hr (by omega) (by omega)) (by simp (disch := omega) only [u2_ne, u2_a, u2_k, u2_at])) ?_
        rintro _ μ' ⟨a1, a2, a3⟩
        refine ⟨a1, fun k hk => ?_, a3⟩
        rw [a2 k hk]
        show u2 μ.1 2 6 _ 2 k = _
        rw [u2_k hk]
theorem dgt6_L {tp : Nat → Int32} {n : Nat} (hn : n ≤ 1600) {μ0 : sm_Mem} (hT : Tap6 tp n μ0) : ∀ (f p v : Nat) (μ : sm_Mem), n - p < f → p ≤ n → FrK μ0 μ → μ.1 2 6 = nI p → μ.1 2 8 = nI (min 1000 v) → T (fnX6_advance_L171 f 2) μ (fun _ μ' => μ'.1 2 6 = nI (dgt tp (n - p) p v).2 ∧ μ'.1 2 8 = nI (min 1000 (dgt tp (n - p) p v).1) ∧ (∀ k, k ≠ 6 → k ≠ 8 → μ'.1 2 k = μ.1 2 k) ∧ FrK μ0 μ') := by
  have e_1 : ln 1 = 1600 := rfl
  intro f
  induction f with
  | zero =>
    intro p v μ h
    omega
  | succ f ih =>
    intro p v μ hf hp hr h6 h8
    have t := tap6_fr hr hT
    unfold fnX6_advance_L171
    rw [t_gi, h6, t_gi, t.2.1]
    by_cases c : n ≤ p
    · rw [t_brT (nI_le c (by omega)), t_ret, show n - p = 0 by omega]
      exact ⟨h6, h8, fun _ _ _ => rfl, hr⟩
    · rw [t_brF (nI_ge (by omega) (by omega)), t_gt (by rw [t.1]; rfl), t.1, t_gi, h6, t_ai (by omega), t.2.2 p (by omega), t_bnd, t_eq (isD6 _ _), show n - p = (n - (p + 1)) + 1 by omega, dgt]
      cases q : isD (tp p)
      · rw [t_brT (by decide), t_ret, if_neg (by decide)]
        exact ⟨h6, h8, fun _ _ _ => rfl, hr⟩
      · obtain ⟨d, d1, d2, d3⟩ := rg_nat (a := 48) (b := 57) q (by omega)
        have ed : (tp p).toInt.toNat - 48 = d - 48 := by
          rw [d3, nI_toInt (by omega)]
          omega
        rw [t_brF (by decide), t_gi, h8, t_gt (by rw [t.1]; rfl), t.1, t_gi, h6, t_ai (by omega), t.2.2 p (by omega), d3, li_10, li_48, li_1000, pk_mul, nI_add, pk_sub (by omega), jmin_nat (by omega) (by omega), t_si, t_gi, show (u2 μ.1 2 8 (nI (min 1000 (10 * min 1000 v + d - 48))), μ.2).1 2 6 = nI p by rw [← h6]; simp (disch := omega) only [u2_ne, u2_a, u2_k, u2_at], nI_1, t_si, if_pos rfl, ← d3, ed]
        refine t_mono (ih (p + 1) (10 * v + (d - 48)) _ (by omega) (by omega) (frK_si (frK_si hr (by omega) (by omega)) (by omega) (by omega)) (by simp (disch := omega) only [u2_ne, u2_a, u2_k, u2_at]) ?_) ?_
        · show u2 (u2 μ.1 2 8 (nI (min 1000 (10 * min 1000 v + d - 48)))) 2 6 (nI (p + 1)) 2 8 = _
          rw [u2_k (by omega), u2_at]
          congr 1
          omega
        · rintro _ μ' ⟨a1, a2, a3, a4⟩
          refine ⟨a1, a2, fun k hk hk2 => ?_, a4⟩
          rw [a3 k hk hk2]
          show u2 (u2 μ.1 2 8 _) 2 6 _ 2 k = _
          rw [u2_k hk, u2_k hk2]
