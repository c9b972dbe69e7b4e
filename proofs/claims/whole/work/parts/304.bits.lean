/-! ===== MASKS OF BITS: tests, the lowest bit, the count ===== -/
theorem k_1 : ∀ s, s < 32 → ∀ i, i < 32 → bt ((1 : Int32) <<< (nI s &&& 31)) i = decide (i = s) := by
  intro s hs i hi
  rw [b_shl s hs _ hi]
  have h1 : ∀ j, j < 32 → bt (1 : Int32) j = decide (j = 0) := by decide +kernel
  rw [h1 _ (by omega)]
  by_cases h : s ≤ i
  · by_cases h2 : i = s
    · simp [h2]
    · simp [h2, show ¬ i - s = 0 by omega]
  · simp [h, show ¬ i = s by omega]
theorem k_not (x : Int32) {i : Nat} (hi : i < 32) : bt (x ^^^ (-1 : Int32)) i = !bt x i := by
  rw [b_xor, b_m1 i hi]
  simp
theorem k_test (m : Int32) {s : Nat} (hs : s < 32) : ((m >>> (nI s &&& 31)) &&& (1 : Int32)) = bI (bt m s) := by
  apply b_ext
  intro i hi
  have h1 : ∀ j, j < 32 → bt (1 : Int32) j = decide (j = 0) := by decide +kernel
  rw [b_and, h1 i hi, b_sshr s hs m hi]
  by_cases h : i = 0
  · subst h
    rw [if_pos (by omega), Nat.add_zero]
    cases bt m s
    · simp [bI, b_0]
    · simp [bI, h1]
  · have h3 : bt (bI (bt m s)) i = false := by
      cases bt m s
      · exact b_0 i
      · show bt 1 i = false
        rw [h1 i hi]
        simp [h]
    rw [h3]
    simp [h]
theorem k_t0 (m : Int32) {s : Nat} (hs : s < 32) : (((m >>> (nI s &&& 31)) &&& (1 : Int32)) = 0) ↔ bt m s = false := by rw [k_test m hs, bI_0]
theorem k_t1 (m : Int32) {s : Nat} (hs : s < 32) : (((m >>> (nI s &&& 31)) &&& (1 : Int32)) = 1) ↔ bt m s = true := by rw [k_test m hs, bI_1]
theorem k_z (m : Int32) : m = 0 ↔ ∀ i, i < 32 → bt m i = false := by
  constructor
  · intro h i _
    rw [h]
    exact b_0 i
  · intro h
    apply b_ext
    intro i hi
    rw [h i hi, b_0]
theorem k_low {m : Int32} (h : ¬ m = 0) : ∃ s, s < 32 ∧ bt m s = true ∧ ∀ i, i < s → bt m i = false := by
  have h1 : ∃ i, i < 32 ∧ bt m i = true := by
    refine Classical.byContradiction (fun hn => h ((k_z m).mpr ?_))
    intro i hi
    cases hb : bt m i
    · rfl
    · exact absurd ⟨i, hi, hb⟩ hn
  obtain ⟨s, a, b, c⟩ := fb_first h1
  refine ⟨s, a, b, fun i hi => ?_⟩
  cases hb : bt m i
  · rfl
  · exact absurd hb (c i hi)
theorem k_pred {m : Int32} {s : Nat} (hs : s < 32) (h1 : bt m s = true) (h2 : ∀ i, i < s → bt m i = false) {i : Nat} (hi : i < 32) : bt (m - (1 : Int32)) i = if i < s then true else if i = s then false else bt m i := by
  have e0 : ∀ j, bt m j = m.toBitVec.toNat.testBit j := fun j => rfl
  have hN : m.toBitVec.toNat = 2 ^ (s + 1) * (m.toBitVec.toNat / 2 ^ (s + 1)) + 2 ^ s := by
    have hm : m.toBitVec.toNat % 2 ^ (s + 1) = 2 ^ s := by
      apply Nat.eq_of_testBit_eq
      intro j
      rw [Nat.testBit_mod_two_pow, Nat.testBit_two_pow, ← e0]
      by_cases hj : j < s
      · rw [h2 j hj]
        simp [show ¬ s = j by omega]
      · by_cases hjs : j = s
        · subst hjs
          rw [h1]
          simp
        · simp [show ¬ j < s + 1 by omega, show ¬ s = j by omega]
    have := Nat.div_add_mod m.toBitVec.toNat (2 ^ (s + 1))
    omega
  have hp : 0 < 2 ^ s := Nat.pos_of_ne_zero (by simp)
  have hlt := m.toBitVec.isLt
  have e1 : (m - (1 : Int32)).toBitVec.toNat = m.toBitVec.toNat - 1 := by
    rw [Int32.toBitVec_sub, BitVec.toNat_sub]
    show (2 ^ 32 - 1 + m.toBitVec.toNat) % 2 ^ 32 = _
    omega
  have e2 : (m - (1 : Int32)).toBitVec.toNat = 2 ^ (s + 1) * (m.toBitVec.toNat / 2 ^ (s + 1)) + (2 ^ s - 1) := by omega
  have hpw : 2 ^ (s + 1) = 2 * 2 ^ s := by rw [Nat.pow_succ, Nat.mul_comm]
  show (m - (1 : Int32)).toBitVec.toNat.testBit i = _
  rw [e2, Nat.testBit_two_pow_mul_add _ (by omega)]
  by_cases hi1 : i < s
  · rw [if_pos (by omega), if_pos hi1, Nat.testBit_two_pow_sub_one]
    simp [hi1]
  · rw [if_neg hi1]
    by_cases hi2 : i = s
    · rw [if_pos (by omega), if_pos hi2, Nat.testBit_two_pow_sub_one]
      simp [hi2]
    · rw [if_neg (by omega), if_neg hi2, e0, hN, Nat.testBit_two_pow_mul_add _ (by omega), if_neg (by omega), ← hN]
theorem k_clear {m : Int32} {s : Nat} (hs : s < 32) (h1 : bt m s = true) (h2 : ∀ i, i < s → bt m i = false) {i : Nat} (hi : i < 32) : bt (m &&& (m - (1 : Int32))) i = (bt m i && decide (i ≠ s)) := by
  rw [b_and, k_pred hs h1 h2 hi]
  by_cases a : i < s
  · simp [a, h2 i a]
  · by_cases b : i = s
    · simp [b]
    · simp [a, b]
def ntzv (y : Int32) : Int32 :=
  let f1 (v0 v1 : Int32) : Int32 := v1 + ((v0.toUInt32 >>> ((1 : Int32).toUInt32 &&& Int32.toUInt32 31)).toInt32)
  let f2 (v0 v1 : Int32) : Int32 := if v0 ≤ (4 : Int32) then f1 v0 v1 else f1 ((v0.toUInt32 >>> ((2 : Int32).toUInt32 &&& Int32.toUInt32 31)).toInt32) (v1 + (2 : Int32))
  let f3 (v0 v1 : Int32) : Int32 := if v0 ≤ (16 : Int32) then f2 v0 v1 else f2 ((v0.toUInt32 >>> ((4 : Int32).toUInt32 &&& Int32.toUInt32 31)).toInt32) (v1 + (4 : Int32))
  let f4 (v0 v1 : Int32) : Int32 := if v0 ≤ (256 : Int32) then f3 v0 v1 else f3 ((v0.toUInt32 >>> ((8 : Int32).toUInt32 &&& Int32.toUInt32 31)).toInt32) (v1 + (8 : Int32))
  if 0 < y then (if y ≤ (65536 : Int32) then f4 y (1 : Int32) else f4 ((y.toUInt32 >>> ((16 : Int32).toUInt32 &&& Int32.toUInt32 31)).toInt32) ((1 : Int32) + (16 : Int32))) else y &&& (32 : Int32)
theorem ntz_pow : ∀ s, s < 32 → ntzv (nI (2 ^ s - 1)) = nI s := by decide +kernel
theorem ntz_fn (m : Int32) (μ : sm_Mem) : fnJ6_numberOfTrailingZeros_0f7a4 m μ = some (ntzv ((m ^^^ (-1 : Int32)) &&& (m - (1 : Int32))), μ) := by
  unfold fnJ6_numberOfTrailingZeros_0f7a4 ntzv
  show (m_br _ _ _) μ = _
  generalize (m ^^^ (-1 : Int32)) &&& (m - (1 : Int32)) = y
  simp only [m_br, m_nm, m_ret, fnJ6_numberOfTrailingZeros_0f7a4_J34, fnJ6_numberOfTrailingZeros_0f7a4_J49, fnJ6_numberOfTrailingZeros_0f7a4_J62, fnJ6_numberOfTrailingZeros_0f7a4_J74]
  repeat' split
  all_goals rfl
theorem k_mask : ∀ s, s < 32 → ∀ i, i < 32 → bt (nI (2 ^ s - 1)) i = decide (i < s) := by decide +kernel
theorem ntz_eq {m : Int32} {s : Nat} (hs : s < 32) (h1 : bt m s = true) (h2 : ∀ i, i < s → bt m i = false) (μ : sm_Mem) : fnJ6_numberOfTrailingZeros_0f7a4 m μ = some (nI s, μ) := by
  rw [ntz_fn]
  have e : (m ^^^ (-1 : Int32)) &&& (m - (1 : Int32)) = nI (2 ^ s - 1) := by
    apply b_ext
    intro i hi
    rw [b_and, k_not _ hi, k_pred hs h1 h2 hi, k_mask s hs i hi]
    by_cases a : i < s
    · simp [a, h2 i a]
    · by_cases b : i = s
      · simp [b]
      · cases bt m i <;> simp [a, b]
  rw [e, ntz_pow s hs]
/-- the bits of m from j on -/
def Rest (m : Int32) (j : Nat) (r : Int32) : Prop := ∀ i, i < 32 → bt r i = (bt m i && decide (j ≤ i))
theorem rest_0 (m : Int32) : Rest m 0 m := by
  intro i _
  simp
theorem rest_end {m r : Int32} {j : Nat} (h : Rest m j r) (hr : r = 0) {i : Nat} (hi : i < 32) (hj : j ≤ i) : bt m i = false := by
  have := h i hi
  rw [hr, b_0] at this
  simpa [hj] using this.symm
theorem rest_next {m r : Int32} {j : Nat} (h : Rest m j r) (hr : ¬ r = 0) : ∃ s, s < 32 ∧ j ≤ s ∧ bt m s = true ∧ (∀ i, j ≤ i → i < s → bt m i = false) ∧ (∀ μ, fnJ6_numberOfTrailingZeros_0f7a4 r μ = some (nI s, μ)) ∧ Rest m (s + 1) (r &&& (r - (1 : Int32))) := by
  obtain ⟨s, hs, h1, h2⟩ := k_low hr
  have a := h s hs
  rw [h1] at a
  have a2 : bt m s = true ∧ j ≤ s := by simpa using a.symm
  refine ⟨s, hs, a2.2, a2.1, ?_, fun μ => ntz_eq hs h1 h2 μ, ?_⟩
  · intro i hi1 hi2
    have b := h i (by omega)
    rw [h2 i hi2] at b
    simpa [hi1] using b.symm
  · intro i hi
    rw [k_clear hs h1 h2 hi, h i hi]
    by_cases c : i < s
    · have b := h i hi
      rw [h2 i c] at b
      rw [← b]
      simp [show ¬ s + 1 ≤ i by omega]
    · by_cases d : i = s
      · simp [d]
      · simp [d, show j ≤ i by omega, show s + 1 ≤ i by omega]
