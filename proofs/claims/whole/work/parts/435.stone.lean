/-! ===== READING: a stone ===== -/
def onW (w : Nat → Nat) (x y : Nat) : Bool := decide (∃ s, s < w 3 ∧ w (10 + 7 * s) = x ∧ w (11 + 7 * s) = y)
section
variable (tp : Nat → Int32) (n : Nat) (w : Nat → Nat)
def opS (i lo hb : Nat) (σ : Nat × Option (Nat × Nat)) : Nat × Option (Nat × Nat) := if flS tp n i σ = true then nuS tp n lo hb (adS tp n σ) else σ
def opV (i lo hb : Nat) (σ : Nat × Option (Nat × Nat)) : Nat := if flS tp n i σ = true then nuV tp n lo hb (adS tp n σ) else 0
def s2 (σ : Nat × Option (Nat × Nat)) : Nat × Option (Nat × Nat) := prS tp n 4 0 (w 2) (adS tp n σ)
def sX (σ : Nat × Option (Nat × Nat)) : Nat := prV tp n 4 0 (w 2) (adS tp n σ)
def s3 (σ : Nat × Option (Nat × Nat)) : Nat × Option (Nat × Nat) := if (s2 tp n w σ).2 = none ∧ aKd tp n (s2 tp n w σ).1 = 2 ∧ onW w (sX tp n w σ) (aVl tp n (s2 tp n w σ).1) = true then rfS tp n 2 (s2 tp n w σ) else s2 tp n w σ
def s4 (σ : Nat × Option (Nat × Nat)) : Nat × Option (Nat × Nat) := nuS tp n 1 (w 1) (s3 tp n w σ)
def sY (σ : Nat × Option (Nat × Nat)) : Nat := nuV tp n 1 (w 1) (s3 tp n w σ)
def s5 (σ : Nat × Option (Nat × Nat)) : Nat × Option (Nat × Nat) := prS tp n 5 1 10 (s4 tp n w σ)
def sB (σ : Nat × Option (Nat × Nat)) : Nat := prV tp n 5 1 10 (s4 tp n w σ)
def s6 (σ : Nat × Option (Nat × Nat)) : Nat × Option (Nat × Nat) := opS tp n 6 1 24 (s5 tp n w σ)
def sK (σ : Nat × Option (Nat × Nat)) : Nat := opV tp n 6 1 24 (s5 tp n w σ)
def s7 (σ : Nat × Option (Nat × Nat)) : Nat × Option (Nat × Nat) := if flS tp n 7 (s6 tp n w σ) = true ∧ w 5 = 4 then rfS tp n 2 (s6 tp n w σ) else s6 tp n w σ
def s8 (σ : Nat × Option (Nat × Nat)) : Nat × Option (Nat × Nat) := opS tp n 7 1 100 (s7 tp n w σ)
def sN (σ : Nat × Option (Nat × Nat)) : Nat := opV tp n 7 1 100 (s7 tp n w σ)
def stW (σ : Nat × Option (Nat × Nat)) : Nat → Nat := up (up (up (up (up (up (up w (10 + 7 * w 3) (sX tp n w σ)) (11 + 7 * w 3) (sY tp n w σ)) (12 + 7 * w 3) (sB tp n w σ)) (13 + 7 * w 3) (sK tp n w σ)) (14 + 7 * w 3) (sN tp n w σ)) 5 (w 5 + if sN tp n w σ = 0 then 0 else 1)) 3 (w 3 + 1)
end
theorem pr_some {tp : Nat → Int32} {n i lo hb : Nat} {σ : Nat × Option (Nat × Nat)} (h : σ.2 ≠ none) : prS tp n i lo hb σ = σ ∧ prV tp n i lo hb σ = 0 := by
  have e1 : ndS tp n i σ = σ := by
    unfold ndS flS
    rw [decide_eq_false h, Bool.false_and, if_neg (by decide), rfS_some h]
  have e2 : nuF tp n lo hb σ = σ := by
    unfold nuF
    rw [rfS_some h, rfS_some h]
    split
    · split <;> rfl
    · rfl
  unfold prS prV nuS nuV
  rw [e1, e2, if_neg h, if_neg h]
  exact ⟨rfl, rfl⟩
/-- where the word stands: with the word asked again -/
theorem op_pr {tp : Nat → Int32} {n i lo hb : Nat} {σ : Nat × Option (Nat × Nat)} (h : isW tp n i σ.1 = true) : opS tp n i lo hb σ = prS tp n i lo hb σ ∧ opV tp n i lo hb σ = prV tp n i lo hb σ := by
  by_cases q : σ.2 = none
  · have e : flS tp n i σ = true := by
      unfold flS
      rw [decide_eq_true q, h]
      rfl
    unfold opS opV prS prV ndS
    rw [e, if_pos rfl, if_pos rfl, if_pos rfl]
    exact ⟨rfl, rfl⟩
  · have e : flS tp n i σ = false := by
      unfold flS
      rw [decide_eq_false q, Bool.false_and]
    obtain ⟨a, b⟩ := pr_some (tp := tp) (n := n) (i := i) (lo := lo) (hb := hb) q
    unfold opS opV
    rw [a, b, e, if_neg (by decide), if_neg (by decide)]
    exact ⟨rfl, rfl⟩
theorem op_no {tp : Nat → Int32} {n i lo hb : Nat} {σ : Nat × Option (Nat × Nat)} (h : isW tp n i σ.1 = false) : opS tp n i lo hb σ = σ ∧ opV tp n i lo hb σ = 0 := by
  unfold opS opV flS
  rw [h, Bool.and_false, if_neg (by decide), if_neg (by decide)]
  exact ⟨rfl, rfl⟩
theorem hiC {k : Nat} (hk : k ≤ 1000) : ∀ v, v ≤ 1000 → (nI v ≤ nI k - 1 ↔ v < k) := by
  intro v hv
  by_cases c : k = 0
  · subst c
    constructor
    · intro z
      rw [fa_le, nI_toInt (by omega), show (nI 0 - 1 : Int32).toInt = -1 by decide] at z
      omega
    · omega
  · rw [li_1, pk_sub (by omega)]
    constructor
    · intro z
      have := (nI_leI (by omega) (by omega)).mp z
      omega
    · intro z
      exact nI_le (by omega) (by omega)
theorem hiN {k : Nat} (hk : k ≤ 999) : ∀ v, v ≤ 1000 → (nI v ≤ nI k ↔ v < k + 1) := by
  intro v hv
  constructor
  · intro z
    have := (nI_leI (by omega) (by omega)).mp z
    omega
  · intro z
    exact nI_le (by omega) (by omega)
theorem hiR {k : Nat} (hk : k ≤ 1000) : (nI k - 1 : Int32).toInt = (k : Int) - 1 := by
  by_cases c : k = 0
  · subst c
    decide
  · rw [li_1, pk_sub (by omega), nI_toInt (by omega)]
    omega
/-! the component's -/
def FrPr (μ0 μ : sm_Mem) : Prop := (∀ k, (k = 0 ∨ k = 3 ∨ k = 4 ∨ k = 10) → μ.1 2 k = μ0.1 2 k) ∧ (∀ a, (a < 2 ∨ 13 ≤ a) → μ.1 a = μ0.1 a) ∧ μ.2 = μ0.2
def St6 (tp : Nat → Int32) (n : Nat) (w : Nat → Nat) (σ : Nat × Option (Nat × Nat)) (v : Nat → Option Nat) (μ0 μ : sm_Mem) : Prop := C6 tp n σ μ ∧ RH 3 w μ ∧ μ.1 2 9 = nI (w 5) ∧ (∀ j x, j < 5 → v j = some x → μ.1 (4 + j) (w 3) = nI x) ∧ FrPr μ0 μ
theorem st6_g {tp : Nat → Int32} {n : Nat} {w : Nat → Nat} {σ σ' : Nat × Option (Nat × Nat)} {v : Nat → Option Nat} {μ0 μ μ1 : sm_Mem} (h : St6 tp n w σ v μ0 μ) (hc : C6 tp n σ' μ1) (hf : FrG μ μ1) : St6 tp n w σ' v μ0 μ1 := by
  obtain ⟨h1, h2, h3, h4, h5, h6, h7⟩ := h
  refine ⟨hc, rh_fr (fun a q1 q2 => hf.2.1 a (by omega)) h2, by rw [hf.1 9 (by omega)]; exact h3, fun j x hj hx => by rw [hf.2.1 _ (by omega)]; exact h4 j x hj hx, fun k hk => (hf.1 k (by omega)).trans (h5 k hk), fun a ha => (hf.2.1 a (by omega)).trans (h6 a ha), hf.2.2.trans h7⟩
theorem c6_w {tp : Nat → Int32} {n : Nat} {σ : Nat × Option (Nat × Nat)} {μ : sm_Mem} {a k : Nat} {x : Int32} (h : C6 tp n σ μ) (ha : 3 ≤ a) : C6 tp n σ (u2 μ.1 a k x, μ.2) := by
  obtain ⟨⟨t1, t2, t3⟩, h2, ⟨a1, a2, a3, a4⟩, h4⟩ := h
  have e2 : (u2 μ.1 a k x, μ.2).1 2 = μ.1 2 := u2_ne (by omega)
  have e1 : (u2 μ.1 a k x, μ.2).1 1 = μ.1 1 := u2_ne (by omega)
  refine ⟨⟨t1, by rw [e2]; exact t2, by rw [e1]; exact t3⟩, h2, ⟨by rw [e2]; exact a1, by rw [e2]; exact a2, by rw [e2]; exact a3, by rw [e2]; exact a4⟩, ?_⟩
  revert h4
  unfold FL6
  rw [e2]
  exact id
theorem st6_w {tp : Nat → Int32} {n : Nat} {w : Nat → Nat} {σ : Nat × Option (Nat × Nat)} {v : Nat → Option Nat} {μ0 μ : sm_Mem} (h : St6 tp n w σ v μ0 μ) {j x : Nat} (hj : j < 5) : St6 tp n w σ (fun i => if i = j then some x else v i) μ0 (u2 μ.1 (4 + j) (w 3) (nI x), μ.2) := by
  obtain ⟨h1, h2, h3, h4, h5, h6, h7⟩ := h
  have ne : ∀ a, a ≠ 4 + j → (u2 μ.1 (4 + j) (w 3) (nI x), μ.2).1 a = μ.1 a := fun a ha => u2_ne ha
  refine ⟨c6_w h1 (by omega), ?_, by rw [ne 2 (by omega)]; exact h3, ?_, fun k hk => by rw [ne 2 (by omega)]; exact h5 k hk, fun a ha => by rw [ne a (by omega)]; exact h6 a ha, h7⟩
  · obtain ⟨r1, r2, r3, r4, r5⟩ := h2
    have kk : ∀ a s, s < w 3 → (u2 μ.1 (4 + j) (w 3) (nI x), μ.2).1 a s = μ.1 a s := by
      intro a s hs
      by_cases c : a = 4 + j
      · rw [c]
        exact u2_k (by omega)
      · rw [ne a c]
    refine ⟨by rw [ne 3 (by omega)]; exact r1, by rw [ne 3 (by omega)]; exact r2, by rw [ne 3 (by omega)]; exact r3, ?_, ?_⟩
    · intro s hs
      rw [kk _ s hs, kk _ s hs, kk _ s hs, kk _ s hs, kk _ s hs]
      exact r4 s hs
    · rw [ne (3 + 6) (by omega), ne (3 + 7) (by omega), ne (3 + 8) (by omega), ne (3 + 9) (by omega)]
      exact r5
  · intro i y hi hy
    by_cases c : i = j
    · have hy : some x = some y := by
        rw [← hy]
        show _ = if i = j then some x else v i
        rw [if_pos c]
      cases hy
      rw [c]
      show u2 μ.1 (4 + j) (w 3) (nI x) (4 + j) (w 3) = nI x
      rw [u2_at]
    · have hy : v i = some y := by
        rw [← hy]
        show _ = if i = j then some x else v i
        rw [if_neg c]
      rw [ne (4 + i) (by omega)]
      exact h4 i y hi hy
theorem stAt_L {w : Nat → Nat} {μ : sm_Mem} (hR : RH 3 w μ) (h3 : w 3 ≤ 24) (hxy : ∀ s, s < w 3 → w (10 + 7 * s) < 1000 ∧ w (11 + 7 * s) < 1000) {x y : Nat} (hx : x < 2 ^ 31) (hy : y < 2 ^ 31) : ∀ f s, w 3 - s < f → s ≤ w 3 → (∀ t, t < s → ¬ (w (10 + 7 * t) = x ∧ w (11 + 7 * t) = y)) → ∃ r, fnX7_stoneAt_L2 f 3 (nI x) (nI y) (nI s) μ = some (r, μ) ∧ (r = -1 ↔ onW w x y = false) := by
  have e_4 : ln 4 = 24 := rfl
  have e_5 : ln 5 = 24 := rfl
  intro f
  induction f with
  | zero =>
    intro s h
    omega
  | succ f ih =>
    intro s hf hs hno
    unfold fnX7_stoneAt_L2 fnX7_stoneAt_J32
    rw [e_gi, hR.1.2.2.2.2.1]
    by_cases c : w 3 ≤ s
    · rw [e_T (nI_le c (by omega))]
      refine ⟨-1, rfl, fun _ => ?_, fun _ => rfl⟩
      unfold onW
      apply decide_eq_false
      rintro ⟨t, t1, t2⟩
      exact hno t (by omega) t2
    · have hs' : s < w 3 := by omega
      have x1 : μ.1 4 s = nI (w (10 + 7 * s)) := (hR.2.2.2.1 s hs').1
      have x2 : μ.1 5 s = nI (w (11 + 7 * s)) := (hR.2.2.2.1 s hs').2.1
      have b := hxy s hs'
      have nx : ¬ (w (10 + 7 * s) = x ∧ w (11 + 7 * s) = y) → ∃ r, fnX7_stoneAt_L2 f 3 (nI x) (nI y) (nI (s + 1)) μ = some (r, μ) ∧ (r = -1 ↔ onW w x y = false) := by
        intro hn
        refine ih (s + 1) (by omega) (by omega) ?_
        intro t ht
        by_cases e : t = s
        · rw [e]
          exact hn
        · exact hno t (by omega)
      rw [e_F (nI_ge (by omega) (by omega)), lk_3_8, lk_3_9, e_ai (by omega), x1, nI_1]
      by_cases q1 : w (10 + 7 * s) = x
      · rw [e_T (by rw [q1]), e_ai (by omega), x2]
        by_cases q2 : w (11 + 7 * s) = y
        · rw [e_T (by rw [q2])]
          refine ⟨nI s, rfl, fun z => absurd z (n_m1 (by omega)), fun z => ?_⟩
          unfold onW at z
          exact absurd ⟨s, hs', q1, q2⟩ (of_decide_eq_false z)
        · rw [e_F (fun z => q2 ((nI_eq (by omega) hy).mp z))]
          exact nx (fun z => q2 z.2)
      · rw [e_F (fun z => q1 ((nI_eq (by omega) hx).mp z))]
        exact nx (fun z => q1 z.1)
