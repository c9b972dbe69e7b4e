/-! ===== THINKING: the reference's world put by and taken back; a scene taken from another ===== -/
theorem thinks_L {μ0 : sm_Mem} : ∀ (f j : Nat) (μ : sm_Mem), 241 - j < f → j ≤ 241 → μ.1 146 = μ0.1 146 → μ0.1 146 21 = nI 0 → μ.2 = μ0.2 → (∀ a, a ≠ 157 → μ.1 a = μ0.1 a) → (∀ i, i < j → μ.1 157 i = μ0.1 147 i) →
    T (fnX12_thinks_L2 f 146 (nI j)) μ (fun _ μ' => (∀ i, i < 241 → μ'.1 157 i = μ0.1 147 i) ∧ μ'.1 146 21 = nI 1 ∧ (∀ k, k ≠ 21 → μ'.1 146 k = μ0.1 146 k) ∧ (∀ a, a ≠ 157 → a ≠ 146 → μ'.1 a = μ0.1 a) ∧ μ'.2 = μ0.2) := by
  intro f
  induction f with
  | zero =>
    intro j μ h
    omega
  | succ f ih =>
    intro j μ hf hj h146 hd h2 ho hk
    unfold fnX12_thinks_L2 fnX12_thinks_J36
    have e_157 : ln 157 = 964 := rfl
    have e_147 : ln 147 = 241 := rfl
    have d21 : μ.1 146 21 = nI 0 := by rw [h146]; exact hd
    simp (disch := (first | assumption | omega)) only [t_br, t_gi, t_si, t_ret, li_241, li_1, nI_leI, lk_146_1, lk_146_20, d21, pk_mul, nI_add, Nat.mul_zero, Nat.zero_add]
    by_cases c : 241 ≤ j
    · rw [if_pos c]
      refine ⟨fun i hi => ?_, (by simp (disch := omega) only [u2_ne, u2_a, u2_k, u2_at]), fun k hk' => ?_, fun a a1 a2 => ?_, h2⟩
      · rw [← hk i (by omega)]
        simp (disch := omega) only [u2_ne, u2_a, u2_k, u2_at]
      · rw [← h146]
        simp (disch := omega) only [u2_ne, u2_a, u2_k, u2_at]
      · rw [← ho a a1]
        simp (disch := omega) only [u2_ne, u2_a, u2_k, u2_at]
    · rw [if_neg c]
      simp (disch := (first | assumption | omega)) only [t_ai, t_sai]
      refine ih (j + 1) _ (by omega) (by omega) ?_ hd h2 ?_ ?_
      · rw [← h146]
        simp (disch := omega) only [u2_ne, u2_a, u2_k, u2_at]
      · intro a a1
        rw [← ho a a1]
        simp (disch := omega) only [u2_ne, u2_a, u2_k, u2_at]
      · intro i hi
        by_cases e : i = j
        · subst e
          have := ho 147 (by omega)
          simp (disch := (first | assumption | omega)) only [u2_at, this]
        · rw [← hk i (by omega)]
          simp (disch := omega) only [u2_ne, u2_a, u2_k, u2_at]
theorem thinks_T {μ : sm_Mem} (hd : μ.1 146 21 = nI 0) : T (fnX12_thinks 146) μ (fun _ μ' => (∀ i, i < 241 → μ'.1 157 i = μ.1 147 i) ∧ μ'.1 146 21 = nI 1 ∧ (∀ k, k ≠ 21 → μ'.1 146 k = μ.1 146 k) ∧ (∀ a, a ≠ 157 → a ≠ 146 → μ'.1 a = μ.1 a) ∧ μ'.2 = μ.2) := by
  unfold fnX12_thinks
  exact thinks_L 4096 0 μ (by omega) (by omega) rfl hd rfl (fun _ _ => rfl) (fun i hi => absurd hi (by omega))
theorem wakes_L {μ0 : sm_Mem} : ∀ (f j : Nat) (μ : sm_Mem), 241 - j < f → j ≤ 241 → μ0.1 146 21 = nI 0 → μ.2 = μ0.2 → (∀ a, a ≠ 147 → μ.1 a = μ0.1 a) → (∀ i, i < j → μ.1 147 i = μ0.1 157 i) →
    T (fnX12_wakes_L12 f 146 (nI j)) μ (fun _ μ' => (∀ i, i < 241 → μ'.1 147 i = μ0.1 157 i) ∧ (∀ a, a ≠ 147 → μ'.1 a = μ0.1 a) ∧ μ'.2 = μ0.2) := by
  intro f
  induction f with
  | zero =>
    intro j μ h
    omega
  | succ f ih =>
    intro j μ hf hj hd h2 ho hk
    unfold fnX12_wakes_L12
    have e_157 : ln 157 = 964 := rfl
    have e_147 : ln 147 = 241 := rfl
    have d21 : μ.1 146 21 = nI 0 := by rw [ho 146 (by omega)]; exact hd
    simp (disch := (first | assumption | omega)) only [t_br, t_gi, t_si, t_ret, li_241, li_1, nI_leI, lk_146_1, lk_146_20, d21, pk_mul, nI_add, Nat.mul_zero, Nat.zero_add]
    by_cases c : 241 ≤ j
    · rw [if_pos c]
      exact ⟨fun i hi => hk i (by omega), ho, h2⟩
    · rw [if_neg c]
      simp (disch := (first | assumption | omega)) only [t_ai, t_sai]
      refine ih (j + 1) _ (by omega) (by omega) hd h2 ?_ ?_
      · intro a a1
        rw [← ho a a1]
        simp (disch := omega) only [u2_ne, u2_a, u2_k, u2_at]
      · intro i hi
        by_cases e : i = j
        · subst e
          have := ho 157 (by omega)
          simp (disch := (first | assumption | omega)) only [u2_at, this]
        · rw [← hk i (by omega)]
          simp (disch := omega) only [u2_ne, u2_a, u2_k, u2_at]
theorem wakes_T {μ : sm_Mem} (hd : μ.1 146 21 = nI 1) : T (fnX12_wakes 146) μ (fun _ μ' => (∀ i, i < 241 → μ'.1 147 i = μ.1 157 i) ∧ μ'.1 146 21 = nI 0 ∧ (∀ k, k ≠ 21 → μ'.1 146 k = μ.1 146 k) ∧ (∀ a, a ≠ 147 → a ≠ 146 → μ'.1 a = μ.1 a) ∧ μ'.2 = μ.2) := by
  unfold fnX12_wakes
  simp (disch := (first | assumption | omega)) only [t_gi, t_si, hd, li_1, pk_sub, Nat.sub_self]
  refine t_mono (wakes_L (μ0 := (u2 μ.1 146 21 (nI 0), μ.2)) 4096 0 _ (by omega) (by omega) (by simp (disch := omega) only [u2_ne, u2_a, u2_k, u2_at]) rfl (fun _ _ => rfl) (fun i hi => absurd hi (by omega))) ?_
  rintro - μ' ⟨h1, h2, h3⟩
  have h146 := h2 146 (by omega)
  refine ⟨fun i hi => ?_, ?_, fun k hk => ?_, fun a a1 a2 => ?_, h3⟩
  · rw [h1 i hi]
    simp (disch := omega) only [u2_ne, u2_a, u2_k, u2_at]
  · rw [h146]
    simp (disch := omega) only [u2_ne, u2_a, u2_k, u2_at]
  · rw [h146]
    simp (disch := omega) only [u2_ne, u2_a, u2_k, u2_at]
  · rw [h2 a a1]
    simp (disch := omega) only [u2_ne, u2_a, u2_k, u2_at]
/-- scenes, the kept ones too -/
def isScK (c : Nat) : Prop := c ∈ [24, 28, 46, 50, 54, 58, 62, 66, 70, 114, 128, 142]
theorem scK_lk {c : Nat} (h : isScK c) : lk c 2 = c + 1 ∧ lk c 3 = c + 2 ∧ lk c 4 = c + 3 ∧ ln (c + 1) = 24 ∧ ln (c + 2) = 24 ∧ ln (c + 3) = 8 := by
  have e : ∀ c ∈ [24, 28, 46, 50, 54, 58, 62, 66, 70, 114, 128, 142], lk c 2 = c + 1 ∧ lk c 3 = c + 2 ∧ lk c 4 = c + 3 ∧ ln (c + 1) = 24 ∧ ln (c + 2) = 24 ∧ ln (c + 3) = 8 := by decide +kernel
  exact e c h
theorem scK_of {c : Nat} (h : isSc c) : isScK c := by
  unfold isSc isScK at *
  simp only [List.mem_cons, List.not_mem_nil, or_false] at *
  omega
theorem t_cpi {α : Type} {r t n : Nat} {f : sm_M α} {μ : sm_Mem} {Q : α → sm_Mem → Prop} (hr : n ≤ ln r) (ht : n ≤ ln t) : T (m_cpi r (0 : Int32) t (0 : Int32) (nI n) f) μ Q ↔ T f (u1 μ.1 t (va_cpy (μ.1 r) (μ.1 t) 0 0 n), μ.2) Q := by
  have s1 := ln_small r
  unfold T m_cpi
  rw [if_pos ⟨by decide, by decide, nI_pos (by omega), by rw [nI_clamp (by omega)]; simpa using hr, by rw [nI_clamp (by omega)]; simpa using ht⟩, nI_clamp (by omega)]
  exact Iff.rfl
theorem u1_at {β : Type} {f : Nat → Nat → β} {a : Nat} {g : Nat → β} : u1 f a g a = g := by simp [u1]
theorem takeFrom9 {a b : Nat} {w : Nat → Nat} {μ : sm_Mem} (ha : isScK a) (hb : isScK b) (hab : a + 4 ≤ b ∨ b + 4 ≤ a) (hG : Good w) (hS : SH b w μ) : T (fnX9_takeFrom a b) μ (fun _ μ' => SH a w μ' ∧ (∀ c, (c < a ∨ a + 4 ≤ c) → μ'.1 c = μ.1 c) ∧ μ'.2 = μ.2) := by
  obtain ⟨a2, a3, a4, a5, a6, a7⟩ := scK_lk ha
  obtain ⟨b2, b3, b4, b5, b6, b7⟩ := scK_lk hb
  have n := hG.1
  unfold fnX9_takeFrom
  simp (disch := (first | assumption | omega)) only [t_gi, t_si, t_ret, a2, a3, a4, b2, b3, b4, li_24, li_8, t_cpi]
  obtain ⟨s1, s2, s3, s4⟩ := hS
  refine ⟨⟨?_, ?_, ?_, ?_⟩, ?_, (by first | rfl | trivial)⟩
  · rw [← s1]
    simp (disch := omega) only [u1_ne, u2_at]
  · intro s hs
    rw [← s2 s hs]
    simp (disch := omega) only [u1_ne, u1_at, u2_ne, sb_cpy0]
  · intro s hs
    rw [← s3 s hs]
    simp (disch := omega) only [u1_ne, u1_at, u2_ne, sb_cpy0]
  · intro p hp
    rw [← s4 p hp]
    simp (disch := omega) only [u1_ne, u1_at, u2_ne, sb_cpy0]
  · intro c hc
    simp (disch := omega) only [u1_ne, u2_ne]
/-! ===== A STEP ===== -/
def stepW (w : Nat → Nat) (p t : Nat) : Option (Nat → Nat) :=
  if stp w (w (191 + 7 * p)) t (w (185 + 7 * p)) = true ∧ (98 ≤ t ∨ w (186 + 7 * p) ≤ lf w t) then some (up (if 98 ≤ t then w else up w (16 + 7 * t) (w (16 + 7 * t) + w (186 + 7 * p))) (191 + 7 * p) t) else none
theorem lf_borne {w : Nat → Nat} {s x : Nat} (h : x ≤ lf w s) (hx : 1 ≤ x) : w (16 + 7 * s) + x ≤ (if w (15 + 7 * s) = 2 then 1 else w (12 + 7 * s)) := by
  unfold lf at h
  split at h <;> omega
theorem same_step {w w' : Nat → Nat} {p t : Nat} (hG : Good w) (hp : p < w 4) (ht : isPl w t) (h : stepW w p t = some w') : Same w w' ∧ Good w' := by
  have n := hG.1
  have gp := hG.2.2.2.2.2.2.2.1 p hp
  unfold stepW at h
  split at h
  · rename_i hc
    cases h
    have hS : Same w (up (if 98 ≤ t then w else up w (16 + 7 * t) (w (16 + 7 * t) + w (186 + 7 * p))) (191 + 7 * p) t) := by
      split
      · exact same_up (Or.inr (Or.inr (Or.inr ⟨p, (by first | rfl | trivial)⟩)))
      · exact same_tr (same_up (Or.inr (Or.inr (Or.inl ⟨t, by have := ht.2; omega, (by first | rfl | trivial)⟩)))) (same_up (Or.inr (Or.inr (Or.inr ⟨p, (by first | rfl | trivial)⟩))))
    refine ⟨hS, same_good hS hG ?_ ?_ ?_ ?_⟩
    · rw [up_ne (by omega)]
      split
      · omega
      · rw [up_ne (by omega)]
        omega
    · intro s hs
      have g := hG.2.2.2.1 s hs
      rw [up_ne (by omega), up_ne (by omega)]
      split
      · omega
      · rw [up_ne (by omega)]
        refine ⟨by omega, ?_⟩
        by_cases e : s = t
        · subst e
          rw [up_at]
          have := lf_borne (hc.2.resolve_left (by omega)) gp.2.2.1
          split at this <;> omega
        · rw [up_ne (by omega)]
          omega
    · intro s h1 h2
      have g := hG.2.2.2.2.1 s h1 h2
      rw [up_ne (by omega)]
      split
      · exact g
      · rw [up_ne (by have := ht.2; omega)]
        exact g
    · intro q hq
      have g := hG.2.2.2.2.2.2.2.2.2 q hq
      by_cases e : q = p
      · subst e
        rw [up_at]
        have := ht.2
        omega
      · rw [up_ne (by omega)]
        split
        · exact g
        · rw [up_ne (by have := ht.2; omega)]
          exact g
  · cases h
theorem sh_up16 {c : Nat} {w : Nat → Nat} {μ : sm_Mem} {s v : Nat} (hs : s < 24) (h3 : w 3 ≤ 24) (h4 : w 4 ≤ 8) (H : SH c w μ) : SH c (up w (16 + 7 * s) v) (u2 μ.1 (c + 1) s (nI v), μ.2) := by
  obtain ⟨s1, s2, s3, s4⟩ := H
  have e3 : up w (16 + 7 * s) v 3 = w 3 := up_ne (by omega)
  have e4 : up w (16 + 7 * s) v 4 = w 4 := up_ne (by omega)
  refine ⟨?_, ?_, ?_, ?_⟩
  · rw [up_ne (by omega), ← s1]
    simp (disch := omega) only [u2_ne, u2_a, u2_k, u2_at]
  · intro t ht
    by_cases e : t = s
    · subst e
      rw [up_at]
      simp (disch := omega) only [u2_ne, u2_a, u2_k, u2_at]
    · rw [up_ne (by omega), ← s2 t ht]
      simp (disch := omega) only [u2_ne, u2_a, u2_k, u2_at]
  · intro t ht
    rw [e3] at ht
    rw [up_ne (by omega), ← s3 t ht]
    simp (disch := omega) only [u2_ne, u2_a, u2_k, u2_at]
  · intro p hp
    rw [e4] at hp
    rw [up_ne (by omega), ← s4 p hp]
    simp (disch := omega) only [u2_ne, u2_a, u2_k, u2_at]
theorem sh_up191 {c : Nat} {w : Nat → Nat} {μ : sm_Mem} {p v : Nat} (h3 : w 3 ≤ 24) (H : SH c w μ) : SH c (up w (191 + 7 * p) v) (u2 μ.1 (c + 3) p (nI v), μ.2) := by
  obtain ⟨s1, s2, s3, s4⟩ := H
  have e3 : up w (191 + 7 * p) v 3 = w 3 := up_ne (by omega)
  have e4 : up w (191 + 7 * p) v 4 = w 4 := up_ne (by omega)
  refine ⟨?_, ?_, ?_, ?_⟩
  · rw [up_ne (by omega), ← s1]
    simp (disch := omega) only [u2_ne, u2_a, u2_k, u2_at]
  · intro t ht
    rw [up_ne (by omega), ← s2 t ht]
    simp (disch := omega) only [u2_ne, u2_a, u2_k, u2_at]
  · intro t ht
    rw [e3] at ht
    rw [up_ne (by omega), ← s3 t ht]
    simp (disch := omega) only [u2_ne, u2_a, u2_k, u2_at]
  · intro q hq
    rw [e4] at hq
    by_cases e : q = p
    · subst e
      rw [up_at]
      simp (disch := omega) only [u2_ne, u2_a, u2_k, u2_at]
    · rw [up_ne (by omega), ← s4 q hq]
      simp (disch := omega) only [u2_ne, u2_a, u2_k, u2_at]
theorem takeStep9 {c : Nat} {w : Nat → Nat} {μ : sm_Mem} {p t : Nat} (hR : RH 14 w μ) (hS : SH c w μ) (hc : isSc c) (hG : Good w) (hp : p < w 4) (ht : isPl w t) : T (fnX9_takeStep c (nI p) (nI t)) μ (fun r μ' => match stepW w p t with | none => r = false ∧ μ' = μ | some w' => r = true ∧ SH c w' μ' ∧ (∀ a, a ≠ c + 1 → a ≠ c + 3 → μ'.1 a = μ.1 a) ∧ μ'.2 = μ.2) := by
  obtain ⟨k0, k2, k3, k4, l1, l2, l3⟩ := sc_lk hc
  have n := hG.1
  have gp := hG.2.2.2.2.2.2.2.1 p hp
  have gl := hG.2.2.2.2.2.2.2.2.2 p hp
  have ht2 := ht.2
  have b1 := hS.2.2.2 p hp
  have a1 : μ.1 20 p = nI (w (185 + 7 * p)) := (hR.2.2.2.2 p hp).1
  have a2 : μ.1 21 p = nI (w (186 + 7 * p)) := (hR.2.2.2.2 p hp).2.1
  have e_20 : ln 20 = 8 := rfl
  have e_21 : ln 21 = 8 := rfl
  have hj := joins7 hR hG gl ht2 (r := w (185 + 7 * p)) (by omega)
  unfold fnX9_takeStep fnX9_takeStep_J71 stepW
  simp (disch := (first | assumption | omega)) only [t_ai, t_bnd, k0, k2, k4, lk_14_13, lk_14_14, b1, a1, t_eq hj, t_br, bI_0, t_ret, li_24, nI_leI, t_sai]
  cases hs : stp w (w (191 + 7 * p)) t (w (185 + 7 * p))
  · rw [if_pos (by first | rfl | trivial), if_neg (by simp)]
    exact ⟨(by first | rfl | trivial), (by first | rfl | trivial)⟩
  · rw [if_neg (by simp)]
    by_cases h1 : 24 ≤ t
    · rw [if_pos h1, if_pos ⟨(by first | rfl | trivial), Or.inl (by omega)⟩, if_pos (by omega)]
      exact ⟨(by first | rfl | trivial), sh_up191 n.1 hS, fun a x y => (by simp (disch := omega) only [u2_ne, u2_a, u2_k, u2_at]), (by first | rfl | trivial)⟩
    · have hts : t < w 3 := by omega
      have lfl := lf_le hG hts
      have b2 := hS.2.1 t (by omega)
      rw [if_neg h1]
      simp (disch := (first | assumption | omega)) only [t_eq (leftOf_eq hR hS hc hG hts), t_ai, a2, b2, nI_leI, nI_add, t_sai]
      by_cases h2 : w (186 + 7 * p) ≤ lf w t
      · rw [if_pos h2, if_pos ⟨(by first | rfl | trivial), Or.inr h2⟩, if_neg (by omega)]
        exact ⟨(by first | rfl | trivial), sh_up191 (by rw [up_ne (by omega)]; exact n.1) (sh_up16 (by omega) n.1 n.2.1 hS), fun a x y => (by simp (disch := omega) only [u2_ne, u2_a, u2_k, u2_at]), (by first | rfl | trivial)⟩
      · rw [if_neg h2, if_neg (by omega)]
        exact ⟨(by first | rfl | trivial), (by first | rfl | trivial)⟩
theorem setStone_T {s k : Nat} {x : Int32} {μ : sm_Mem} {Q : Unit → sm_Mem → Prop} (hs : s < 25) (hk : k < 7) : T (fnX12_setStone 146 (nI s) (nI k) x) μ Q ↔ Q () (u2 μ.1 147 (10 + 7 * s + k) x, μ.2) := by
  have e_147 : ln 147 = 241 := rfl
  unfold fnX12_setStone
  simp (disch := (first | assumption | omega)) only [lk_146_1, li_10, li_7, pk_mul, nI_add, t_sai, t_ret]
theorem set_T {s k : Nat} {x : Int32} {μ : sm_Mem} {Q : Unit → sm_Mem → Prop} (hs : s < 8) (hk : k < 7) : T (fnX12_set 146 (nI s) (nI k) x) μ Q ↔ Q () (u2 μ.1 147 (185 + 7 * s + k) x, μ.2) := by
  have e_147 : ln 147 = 241 := rfl
  unfold fnX12_set
  simp (disch := (first | assumption | omega)) only [lk_146_1, li_185, li_7, pk_mul, nI_add, t_sai, t_ret]
theorem bears_T {w : Nat → Nat} {s v : Nat} {μ : sm_Mem} {Q : Unit → sm_Mem → Prop} (hW : WH 147 w μ) (hs : s < 25) : T (fnX12_bears 146 (nI s) (nI v)) μ Q ↔ Q () (u2 μ.1 147 (16 + 7 * s) (nI (w (16 + 7 * s) + v)), μ.2) := by
  have e6 : 10 + 7 * s + 6 = 16 + 7 * s := by omega
  unfold fnX12_bears
  simp (disch := (first | assumption | omega)) only [li_6, t_bnd, t_eq (ofStone_eq hW hs (show 6 < 7 by omega)), nI_add, setStone_T, t_ret, e6]
theorem steps12 {w : Nat → Nat} {μ : sm_Mem} {p t : Nat} (hW : WH 147 w μ) (hG : Good w) (hp : p < w 4) (ht : isPl w t) : T (fnX12_steps 146 (nI p) (nI t)) μ (fun r μ' => match stepW w p t with | none => r = false ∧ μ' = μ | some w' => r = true ∧ WH 147 w' μ' ∧ (∀ a, a ≠ 147 → μ'.1 a = μ.1 a) ∧ μ'.2 = μ.2) := by
  have n := hG.1
  have gp := hG.2.2.2.2.2.2.2.1 p hp
  have gl := hG.2.2.2.2.2.2.2.2.2 p hp
  have ht2 := ht.2
  have e6 : 185 + 7 * p + 6 = 191 + 7 * p := by omega
  have e1 : 185 + 7 * p + 1 = 186 + 7 * p := by omega
  have hj := isStep12 hW hG gl ht2 (r := w (185 + 7 * p)) (by omega)
  have q6 := of_eq hW (p := p) (k := 6) (by omega) (by omega) (by omega)
  have q0 := of_eq hW (p := p) (k := 0) (by omega) (by omega) (by omega)
  have q1 := of_eq hW (p := p) (k := 1) (by omega) (by omega) (by omega)
  rw [e6] at q6
  rw [e1] at q1
  rw [Nat.add_zero] at q0
  have x1 : eI (191 + 7 * p) t = nI t := by
    unfold eI
    rw [if_neg (by omega)]
  have J0 : ∀ Q : Bool → sm_Mem → Prop, T (fnX12_steps_J45 146 (nI p) (nI t)) μ Q ↔ Q false μ := by
    intro Q
    unfold fnX12_steps_J45 fnX12_steps_J46
    simp only [t_brT, t_ret]
  have J1 : ∀ Q : Bool → sm_Mem → Prop, 98 ≤ t → (T (fnX12_steps_J41 146 (nI p) (nI t)) μ Q ↔ Q true (u2 μ.1 147 (191 + 7 * p) (nI t), μ.2)) := by
    intro Q h
    unfold fnX12_steps_J41 fnX12_steps_J46 fnX12_steps_J70
    rw [t_brF (by decide), t_brT (show (98 : Int32) ≤ nI t from nI_le (a := 98) h (by omega)), t_bnd, li_6, set_T (by omega) (by omega), t_ret, e6]
  have J2 : ∀ Q : Bool → sm_Mem → Prop, t < w 3 → (T (fnX12_steps_J41 146 (nI p) (nI t)) μ Q ↔ Q true (u2 (u2 μ.1 147 (16 + 7 * t) (nI (w (16 + 7 * t) + w (186 + 7 * p)))) 147 (191 + 7 * p) (nI t), μ.2)) := by
    intro Q h
    unfold fnX12_steps_J41 fnX12_steps_J46 fnX12_steps_J70
    rw [t_brF (by decide), t_brF (show ¬ (98 : Int32) ≤ nI t from nI_ge (b := 98) (by omega) (by omega)), t_bnd, li_1, t_eq q1, t_bnd, bears_T hW (by omega), t_bnd, li_6, set_T (by omega) (by omega), t_ret, e6]
  unfold fnX12_steps stepW
  simp (disch := (first | assumption | omega)) only [t_bnd, li_6, li_0, t_eq q6, t_eq q0, t_eq hj, t_br, bI_n0, bI_0, li_98, nI_leI, J0]
  cases hs : stp w (w (191 + 7 * p)) t (w (185 + 7 * p))
  · rw [if_pos (by first | rfl | trivial), if_neg (by simp)]
    exact ⟨(by first | rfl | trivial), (by first | rfl | trivial)⟩
  · rw [if_neg (by simp)]
    by_cases h1 : 98 ≤ t
    · rw [if_pos h1, if_pos ⟨(by first | rfl | trivial), Or.inl h1⟩, J1 _ h1]
      simp only [if_pos h1]
      exact ⟨(by first | rfl | trivial), wh_up hW x1.symm, fun a x => (by simp (disch := omega) only [u2_ne, u2_a, u2_k, u2_at]), (by first | rfl | trivial)⟩
    · have hts : t < w 3 := by omega
      have lfl := lf_le hG hts
      have x2 : eI (16 + 7 * t) (w (16 + 7 * t) + w (186 + 7 * p)) = nI (w (16 + 7 * t) + w (186 + 7 * p)) := by
        unfold eI
        rw [if_neg (by omega)]
      rw [if_neg h1]
      simp (disch := (first | assumption | omega)) only [li_1, t_eq (left12 hW hG hts), t_eq q1, nI_ltI, if_neg h1, J2 _ hts]
      by_cases h2 : lf w t < w (186 + 7 * p)
      · rw [if_pos h2, if_neg (by omega), J0]
        exact ⟨(by first | rfl | trivial), (by first | rfl | trivial)⟩
      · rw [if_neg h2, if_pos ⟨(by first | rfl | trivial), Or.inr (by omega)⟩]
        exact ⟨(by first | rfl | trivial), wh_up (wh_up hW x2.symm) x1.symm, fun a x => (by simp (disch := omega) only [u2_ne, u2_a, u2_k, u2_at]), (by first | rfl | trivial)⟩
