/-! ===== THE ABSTRACT WORLD: the reference's world as numbers (HAND one more, 0 for none) ===== -/
def eI (i n : Nat) : Int32 := if 185 ≤ i ∧ (i - 185) % 7 = 5 then nI n - 1 else nI n
/-- the reference's world array holds w -/
def WH (a : Nat) (w : Nat → Nat) (μ : sm_Mem) : Prop := ∀ i, i < 241 → μ.1 a i = eI i (w i)
/-- knowledge, as the component has it -/
def kc (k : Nat) : Nat := if k = 0 then 0 else 3 - k
/-- a River at cell r holds w -/
def RH (r : Nat) (w : Nat → Nat) (μ : sm_Mem) : Prop :=
  (μ.1 r 0 = nI (w 0) ∧ μ.1 r 1 = nI (w 1) ∧ μ.1 r 2 = nI (w 2) ∧ μ.1 r 3 = nI (w 6) ∧ μ.1 r 4 = nI (w 3) ∧ μ.1 r 5 = nI (w 4)) ∧
  (∀ p, p < 32 → bt (μ.1 r 6) p = decide (p < w 4 ∧ 0 < w (188 + 7 * p))) ∧
  (∀ p, p < 32 → bt (μ.1 r 7) p = decide (p < w 4 ∧ 0 < w (189 + 7 * p))) ∧
  (∀ s, s < w 3 → μ.1 (r + 1) s = nI (w (10 + 7 * s)) ∧ μ.1 (r + 2) s = nI (w (11 + 7 * s)) ∧ μ.1 (r + 3) s = nI (w (12 + 7 * s)) ∧ μ.1 (r + 4) s = nI (w (13 + 7 * s)) ∧ μ.1 (r + 5) s = nI (w (14 + 7 * s))) ∧
  (∀ p, p < w 4 → μ.1 (r + 6) p = nI (w (185 + 7 * p)) ∧ μ.1 (r + 7) p = nI (w (186 + 7 * p)) ∧ μ.1 (r + 8) p = nI (w (187 + 7 * p)) ∧ μ.1 (r + 9) p = nI (w (190 + 7 * p)) - 1)
/-- a Scene at cell c holds w -/
def SH (c : Nat) (w : Nat → Nat) (μ : sm_Mem) : Prop :=
  μ.1 c 1 = nI (w 7) ∧
  (∀ s, s < 24 → μ.1 (c + 1) s = nI (w (16 + 7 * s))) ∧
  (∀ s, s < w 3 → μ.1 (c + 2) s = nI (kc (w (15 + 7 * s)))) ∧
  (∀ p, p < w 4 → μ.1 (c + 3) p = nI (w (191 + 7 * p)))
/-- what is true of every world that was told and lived in -/
def Good (w : Nat → Nat) : Prop :=
  (w 3 ≤ 24 ∧ w 4 ≤ 8 ∧ w 0 < 4096 ∧ w 6 ≤ 9 ∧ w 7 ≤ 23) ∧
  (w 0 = 0 → w 1 = 0 ∧ w 2 = 0 ∧ w 3 = 0 ∧ w 4 = 0) ∧
  (0 < w 0 → 2 ≤ w 1 ∧ w 1 ≤ 12 ∧ 1 ≤ w 2 ∧ w 2 ≤ 20) ∧
  (∀ s, s < w 3 → w (10 + 7 * s) < w 2 ∧ 1 ≤ w (11 + 7 * s) ∧ w (11 + 7 * s) < w 1 ∧ 1 ≤ w (12 + 7 * s) ∧ w (12 + 7 * s) ≤ 9 ∧ w (13 + 7 * s) ≤ 23 ∧ w (14 + 7 * s) ≤ 99 ∧ w (15 + 7 * s) ≤ 2 ∧ w (16 + 7 * s) ≤ 9) ∧
  (∀ s, w 3 ≤ s → s < 25 → w (16 + 7 * s) = 0) ∧
  (fb_ct (fun s => decide (0 < w (14 + 7 * s))) (w 3) ≤ 4) ∧
  (∀ s t, s < w 3 → t < w 3 → w (10 + 7 * s) = w (10 + 7 * t) → w (11 + 7 * s) = w (11 + 7 * t) → s = t) ∧
  (∀ p, p < w 4 → 1 ≤ w (185 + 7 * p) ∧ w (185 + 7 * p) ≤ 9 ∧ 1 ≤ w (186 + 7 * p) ∧ w (186 + 7 * p) ≤ 3 ∧ w (187 + 7 * p) ≤ 99 ∧ w (188 + 7 * p) ≤ 1 ∧ w (189 + 7 * p) ≤ 1) ∧
  (∀ p, p < w 4 → w (190 + 7 * p) = 0 ∨ (∃ q, w (190 + 7 * p) = q + 1 ∧ q < w 4 ∧ q ≠ p ∧ w (190 + 7 * q) = p + 1)) ∧
  (∀ p, p < w 4 → w (191 + 7 * p) < w 3 ∨ w (191 + 7 * p) = 98 ∨ w (191 + 7 * p) = 99)
/-- the scenes that live over the river at 14 -/
def isSc (c : Nat) : Prop := c ∈ [24, 28, 46, 50, 54, 58, 62, 66, 70]
theorem sc_lk {c : Nat} (h : isSc c) : lk c 0 = 14 ∧ lk c 2 = c + 1 ∧ lk c 3 = c + 2 ∧ lk c 4 = c + 3 ∧ ln (c + 1) = 24 ∧ ln (c + 2) = 24 ∧ ln (c + 3) = 8 := by
  have e : ∀ c ∈ [24, 28, 46, 50, 54, 58, 62, 66, 70], lk c 0 = 14 ∧ lk c 2 = c + 1 ∧ lk c 3 = c + 2 ∧ lk c 4 = c + 3 ∧ ln (c + 1) = 24 ∧ ln (c + 2) = 24 ∧ ln (c + 3) = 8 := by decide +kernel
  exact e c h
theorem sc_24 : isSc 24 := by unfold isSc; decide
theorem sc_28 : isSc 28 := by unfold isSc; decide
/-! what is left of a stone, doubts, distances, steps -/
def lf (w : Nat → Nat) (s : Nat) : Nat := if 0 < w (13 + 7 * s) ∧ w (13 + 7 * s) ≤ w 7 then 0 else (if w (15 + 7 * s) = 2 then 1 else w (12 + 7 * s)) - w (16 + 7 * s)
def dbt (w : Nat → Nat) (s : Nat) : Bool := decide (0 < w (14 + 7 * s) ∧ w (15 + 7 * s) = 0)
def dd (a b : Nat) : Nat := (a - b) + (b - a)
def yOf (w : Nat → Nat) (a : Nat) : Nat := if a = 98 then 0 else if a = 99 then w 1 else w (11 + 7 * a)
def sq (w : Nat → Nat) (a b : Nat) : Nat := (if 98 ≤ a ∨ 98 ≤ b then 0 else dd (w (10 + 7 * a)) (w (10 + 7 * b)) * dd (w (10 + 7 * a)) (w (10 + 7 * b))) + dd (yOf w a) (yOf w b) * dd (yOf w a) (yOf w b)
def stp (w : Nat → Nat) (a b r : Nat) : Bool := decide (a ≠ b ∧ sq w a b ≤ r * r)
/-- a place -/
def isPl (w : Nat → Nat) (a : Nat) : Prop := 0 < w 0 ∧ (a < w 3 ∨ a = 98 ∨ a = 99)
theorem t_val {α : Type} {f : sm_M α} {μ : sm_Mem} {a : α} (h : T f μ (fun r μ' => r = a ∧ μ' = μ)) : f μ = some (a, μ) := by
  obtain ⟨r, μ', e, h1, h2⟩ := h
  rw [e, h1, h2]
theorem lf_le {w : Nat → Nat} (hG : Good w) {s : Nat} (hs : s < w 3) : lf w s ≤ 9 := by
  have h := hG.2.2.2.1 s hs
  unfold lf
  split
  · omega
  · split <;> omega
theorem sub_sq {a b : Nat} (ha : a < 1000) (hb : b < 1000) : (nI a - nI b) * (nI a - nI b) = nI (dd a b * dd a b) := by
  unfold dd
  rcases Nat.le_total b a with h | h
  · rw [pk_sub h, pk_mul, show b - a = 0 by omega, Nat.add_zero]
  · have e : nI a - nI b = -(nI (b - a)) := by
      rw [← pk_sub h]
      exact (Int32.neg_sub ..).symm
    rw [e, show a - b = 0 by omega, Nat.zero_add, ← pk_mul, Int32.neg_mul_neg]
