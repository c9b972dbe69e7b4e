/-! ===== READING: a person, the component ===== -/
def RHx (w : Nat → Nat) (bm bb : Bool) (μ : sm_Mem) : Prop :=
  (μ.1 3 0 = nI (w 0) ∧ μ.1 3 1 = nI (w 1) ∧ μ.1 3 2 = nI (w 2) ∧ μ.1 3 3 = nI (w 6) ∧ μ.1 3 4 = nI (w 3) ∧ μ.1 3 5 = nI (w 4)) ∧
  (∀ p, p < 32 → bt (μ.1 3 6) p = (decide (p < w 4 ∧ 0 < w (188 + 7 * p)) || (decide (p = w 4) && bm))) ∧
  (∀ p, p < 32 → bt (μ.1 3 7) p = (decide (p < w 4 ∧ 0 < w (189 + 7 * p)) || (decide (p = w 4) && bb))) ∧
  (∀ s, s < w 3 → μ.1 4 s = nI (w (10 + 7 * s)) ∧ μ.1 5 s = nI (w (11 + 7 * s)) ∧ μ.1 6 s = nI (w (12 + 7 * s)) ∧ μ.1 7 s = nI (w (13 + 7 * s)) ∧ μ.1 8 s = nI (w (14 + 7 * s))) ∧
  (∀ p, p < w 4 → μ.1 9 p = nI (w (185 + 7 * p)) ∧ μ.1 10 p = nI (w (186 + 7 * p)) ∧ μ.1 11 p = nI (w (187 + 7 * p)) ∧ μ.1 12 p = nI (w (190 + 7 * p)) - 1)
def FrPe (μ0 μ : sm_Mem) : Prop := (∀ k, (k = 0 ∨ k = 3 ∨ k = 4 ∨ 9 ≤ k) → μ.1 2 k = μ0.1 2 k) ∧ (∀ a, (a < 2 ∨ 13 ≤ a) → μ.1 a = μ0.1 a) ∧ μ.2 = μ0.2
theorem frPe_rf (μ : sm_Mem) : FrPe μ μ := ⟨fun _ _ => rfl, fun _ _ => rfl, rfl⟩
def Pe6 (tp : Nat → Int32) (n : Nat) (w : Nat → Nat) (σ : Nat × Option (Nat × Nat)) (bm bb : Bool) (v : Nat → Option Int32) (μ0 μ : sm_Mem) : Prop := C6 tp n σ μ ∧ RHx w bm bb μ ∧ (∀ j x, j < 4 → v j = some x → μ.1 (9 + j) (w 4) = x) ∧ FrPe μ0 μ
section
variable {tp : Nat → Int32} {n : Nat} {w : Nat → Nat} {σ : Nat × Option (Nat × Nat)} {bm bb : Bool} {v : Nat → Option Int32} {μ0 μ : sm_Mem}
theorem rhx_0 (h : RH 3 w μ) : RHx w false false μ := by
  obtain ⟨h1, h2, h3, h4, h5⟩ := h
  refine ⟨h1, fun p hp => ?_, fun p hp => ?_, h4, h5⟩
  · rw [Bool.and_false, Bool.or_false]
    exact h2 p hp
  · rw [Bool.and_false, Bool.or_false]
    exact h3 p hp
theorem pe6_g {σ' : Nat × Option (Nat × Nat)} {μ1 : sm_Mem} (h : Pe6 tp n w σ bm bb v μ0 μ) (hc : C6 tp n σ' μ1) (hf : FrG μ μ1) : Pe6 tp n w σ' bm bb v μ0 μ1 := by
  obtain ⟨h1, h2, h3, h4, h5, h6⟩ := h
  have e : ∀ a, a ≠ 2 → μ1.1 a = μ.1 a := hf.2.1
  refine ⟨hc, ?_, fun j x hj hx => by rw [e _ (by omega)]; exact h3 j x hj hx, fun k hk => (hf.1 k (by omega)).trans (h4 k hk), fun a ha => (e a (by omega)).trans (h5 a ha), hf.2.2.trans h6⟩
  unfold RHx
  rw [e 3 (by omega), e 4 (by omega), e 5 (by omega), e 6 (by omega), e 7 (by omega), e 8 (by omega), e 9 (by omega), e 10 (by omega), e 11 (by omega), e 12 (by omega)]
  exact h2
theorem pe6_w (h : Pe6 tp n w σ bm bb v μ0 μ) {j : Nat} {x : Int32} (hj : j < 4) : Pe6 tp n w σ bm bb (fun i => if i = j then some x else v i) μ0 (u2 μ.1 (9 + j) (w 4) x, μ.2) := by
  obtain ⟨h1, h2, h3, h4, h5, h6⟩ := h
  have ne : ∀ a, a ≠ 9 + j → (u2 μ.1 (9 + j) (w 4) x, μ.2).1 a = μ.1 a := by
    intro a ha
    show u2 μ.1 (9 + j) (w 4) x a = μ.1 a
    rw [u2_ne ha]
  have kk : ∀ a s, s < w 4 → (u2 μ.1 (9 + j) (w 4) x, μ.2).1 a s = μ.1 a s := by
    intro a s hs
    by_cases c : a = 9 + j
    · rw [c]
      show u2 μ.1 (9 + j) (w 4) x (9 + j) s = μ.1 (9 + j) s
      rw [u2_k (by omega)]
    · rw [ne a c]
  refine ⟨c6_w h1 (by omega), ?_, ?_, fun k hk => by rw [ne 2 (by omega)]; exact h4 k hk, fun a ha => by rw [ne a (by omega)]; exact h5 a ha, h6⟩
  · obtain ⟨r1, r2, r3, r4, r5⟩ := h2
    refine ⟨by rw [ne 3 (by omega)]; exact r1, by rw [ne 3 (by omega)]; exact r2, by rw [ne 3 (by omega)]; exact r3, ?_, ?_⟩
    · rw [ne 4 (by omega), ne 5 (by omega), ne 6 (by omega), ne 7 (by omega), ne 8 (by omega)]
      exact r4
    · intro p hp
      rw [kk _ p hp, kk _ p hp, kk _ p hp, kk _ p hp]
      exact r5 p hp
  · intro i y hi hy
    by_cases c : i = j
    · have hy : some x = some y := by
        rw [← hy]
        show _ = if i = j then some x else v i
        rw [if_pos c]
      cases hy
      rw [c]
      show u2 μ.1 (9 + j) (w 4) x (9 + j) (w 4) = x
      rw [u2_at]
    · have hy : v i = some y := by
        rw [← hy]
        show _ = if i = j then some x else v i
        rw [if_neg c]
      rw [ne (9 + i) (by omega)]
      exact h3 i y hi hy
theorem pe6_m (h4' : w 4 < 8) (h : Pe6 tp n w σ false bb v μ0 μ) {s0 : Int32} (hs : s0 = if bm = true then (1 : Int32) <<< (nI (w 4) &&& 31) else 0) : Pe6 tp n w σ bm bb v μ0 (u2 μ.1 3 6 (μ.1 3 6 ||| s0), μ.2) := by
  obtain ⟨h1, ⟨r1, r2, r3, r4, r5⟩, h3, h4, h5, h6⟩ := h
  have ne : ∀ a, a ≠ 3 → (u2 μ.1 3 6 (μ.1 3 6 ||| s0), μ.2).1 a = μ.1 a := by
    intro a ha
    show u2 μ.1 3 6 _ a = μ.1 a
    rw [u2_ne ha]
  have k3 : ∀ k, k ≠ 6 → (u2 μ.1 3 6 (μ.1 3 6 ||| s0), μ.2).1 3 k = μ.1 3 k := by
    intro k hk
    show u2 μ.1 3 6 _ 3 k = μ.1 3 k
    rw [u2_k hk]
  refine ⟨c6_w h1 (by omega), ⟨⟨(k3 0 (by omega)).trans r1.1, (k3 1 (by omega)).trans r1.2.1, (k3 2 (by omega)).trans r1.2.2.1, (k3 3 (by omega)).trans r1.2.2.2.1, (k3 4 (by omega)).trans r1.2.2.2.2.1, (k3 5 (by omega)).trans r1.2.2.2.2.2⟩, ?_, ?_, ?_, ?_⟩, fun j x hj hx => by rw [ne _ (by omega)]; exact h3 j x hj hx, fun k hk => by rw [ne 2 (by omega)]; exact h4 k hk, fun a ha => by rw [ne a (by omega)]; exact h5 a ha, h6⟩
  · intro p hp
    show bt (u2 μ.1 3 6 (μ.1 3 6 ||| s0) 3 6) p = _
    rw [u2_at, b_or, r2 p hp, Bool.and_false, Bool.or_false, hs]
    cases bm
    · rw [if_neg (by decide), b_0, Bool.and_false]
    · rw [if_pos rfl, k_1 _ (by omega) p hp, Bool.and_true]
  · intro p hp
    rw [k3 7 (by omega)]
    exact r3 p hp
  · rw [ne 4 (by omega), ne 5 (by omega), ne 6 (by omega), ne 7 (by omega), ne 8 (by omega)]
    exact r4
  · rw [ne 9 (by omega), ne 10 (by omega), ne 11 (by omega), ne 12 (by omega)]
    exact r5
theorem pe6_b (h4' : w 4 < 8) (h : Pe6 tp n w σ bm false v μ0 μ) {s0 : Int32} (hs : s0 = if bb = true then (1 : Int32) <<< (nI (w 4) &&& 31) else 0) : Pe6 tp n w σ bm bb v μ0 (u2 μ.1 3 7 (μ.1 3 7 ||| s0), μ.2) := by
  obtain ⟨h1, ⟨r1, r2, r3, r4, r5⟩, h3, h4, h5, h6⟩ := h
  have ne : ∀ a, a ≠ 3 → (u2 μ.1 3 7 (μ.1 3 7 ||| s0), μ.2).1 a = μ.1 a := by
    intro a ha
    show u2 μ.1 3 7 _ a = μ.1 a
    rw [u2_ne ha]
  have k3 : ∀ k, k ≠ 7 → (u2 μ.1 3 7 (μ.1 3 7 ||| s0), μ.2).1 3 k = μ.1 3 k := by
    intro k hk
    show u2 μ.1 3 7 _ 3 k = μ.1 3 k
    rw [u2_k hk]
  refine ⟨c6_w h1 (by omega), ⟨⟨(k3 0 (by omega)).trans r1.1, (k3 1 (by omega)).trans r1.2.1, (k3 2 (by omega)).trans r1.2.2.1, (k3 3 (by omega)).trans r1.2.2.2.1, (k3 4 (by omega)).trans r1.2.2.2.2.1, (k3 5 (by omega)).trans r1.2.2.2.2.2⟩, ?_, ?_, ?_, ?_⟩, fun j x hj hx => by rw [ne _ (by omega)]; exact h3 j x hj hx, fun k hk => by rw [ne 2 (by omega)]; exact h4 k hk, fun a ha => by rw [ne a (by omega)]; exact h5 a ha, h6⟩
  · intro p hp
    rw [k3 6 (by omega)]
    exact r2 p hp
  · intro p hp
    show bt (u2 μ.1 3 7 (μ.1 3 7 ||| s0) 3 7) p = _
    rw [u2_at, b_or, r3 p hp, Bool.and_false, Bool.or_false, hs]
    cases bb
    · rw [if_neg (by decide), b_0, Bool.and_false]
    · rw [if_pos rfl, k_1 _ (by omega) p hp, Bool.and_true]
  · rw [ne 4 (by omega), ne 5 (by omega), ne 6 (by omega), ne 7 (by omega), ne 8 (by omega)]
    exact r4
  · rw [ne 9 (by omega), ne 10 (by omega), ne 11 (by omega), ne 12 (by omega)]
    exact r5
end
