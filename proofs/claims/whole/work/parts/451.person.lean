/-! ===== READING: a person, the component: the end, where a hand was changed ===== -/
section
variable {tp : Nat → Int32} {n : Nat} {w : Nat → Nat} {σ : Nat × Option (Nat × Nat)} {μ0 μ : sm_Mem}
theorem person157x (h4 : w 4 < 8) (h3 : w 3 ≤ 24) {v : Nat → Option Int32} {μ1 : sm_Mem} (h : Pe6 tp n w (p8 tp n w σ) (pM tp n σ) (pB tp n σ) v μ0 μ1) (e : ∀ a, a ≠ 12 → μ.1 a = μ1.1 a) (e2 : μ.2 = μ1.2) (v0 : v 0 = some (nI (pS tp n σ))) (v1 : v 1 = some (nI (pW tp n σ))) (v2 : v 2 = some (nI (pV tp n σ))) (hh : (p8 tp n w σ).2 = none → ∀ p, p ≤ w 4 → μ.1 12 p = nI (peH tp n w σ (190 + 7 * p)) - 1) : T (fnX6_readPerson_J157 2) μ (Per6 tp n w σ μ0) := by
  obtain ⟨c, ⟨r1, r2, r3, r4, r5⟩, hv, f1, f2, f3⟩ := id h
  have c : C6 tp n (p8 tp n w σ) μ := by
    obtain ⟨⟨t1, t2, t3⟩, c2, ⟨x1, x2, x3, x4⟩, c4⟩ := c
    rw [← e 2 (by omega)] at t2 x1 x2 x3 x4
    rw [← e 1 (by omega)] at t3
    refine ⟨⟨by rw [e2]; exact t1, t2, t3⟩, c2, ⟨x1, x2, x3, x4⟩, ?_⟩
    revert c4
    unfold FL6
    rw [e 2 (by omega)]
    exact id
  rw [← e 3 (by omega)] at r1 r2 r3
  rw [← e 4 (by omega), ← e 5 (by omega), ← e 6 (by omega), ← e 7 (by omega), ← e 8 (by omega)] at r4
  have r5 : ∀ p, p < w 4 → μ.1 9 p = nI (w (185 + 7 * p)) ∧ μ.1 10 p = nI (w (186 + 7 * p)) ∧ μ.1 11 p = nI (w (187 + 7 * p)) := by
    intro p hp
    rw [e 9 (by omega), e 10 (by omega), e 11 (by omega)]
    exact ⟨(r5 p hp).1, (r5 p hp).2.1, (r5 p hp).2.2.1⟩
  have hv : ∀ j x, j < 3 → v j = some x → μ.1 (9 + j) (w 4) = x := by
    intro j x hj hx
    rw [e (9 + j) (by omega)]
    exact hv j x (by omega) hx
  have f1 : ∀ k, (k = 0 ∨ k = 3 ∨ k = 4 ∨ 9 ≤ k) → μ.1 2 k = μ0.1 2 k := by
    rw [e 2 (by omega)]
    exact f1
  have f2 : ∀ a, (a < 2 ∨ 13 ≤ a) → μ.1 a = μ0.1 a := fun a ha => (e a (by omega)).trans (f2 a ha)
  have f3 := e2.trans f3
  unfold fnX6_readPerson_J157
  rw [lk_2_0, t_gi, r1.2.2.2.2.2, nI_1, t_si, t_ret]
  have ne : ∀ a, a ≠ 3 → (u2 μ.1 3 5 (nI (w 4 + 1)), μ.2).1 a = μ.1 a := by
    intro a ha
    show u2 μ.1 3 5 _ a = μ.1 a
    rw [u2_ne ha]
  have k3 : ∀ k, k ≠ 5 → (u2 μ.1 3 5 (nI (w 4 + 1)), μ.2).1 3 k = μ.1 3 k := by
    intro k hk
    show u2 μ.1 3 5 _ 3 k = μ.1 3 k
    rw [u2_k hk]
  obtain ⟨a0, a1, a2, a3, a4, a5⟩ := peA_n (tp := tp) (n := n) (w := w) (σ := σ)
  have W : ∀ i, i ≠ 4 → (∀ p, i ≠ 190 + 7 * p) → peW tp n w σ i = peA tp n w σ i := by
    intro i i4 ip
    unfold peW
    rw [up_ne i4, peH_o ip]
  have Wo : ∀ i, i ≠ 4 → i < 185 → peW tp n w σ i = w i := by
    intro i i4 i5
    rw [W i i4 (by omega), peA_o (by omega)]
  have W4 : peW tp n w σ 4 = w 4 + 1 := by
    unfold peW
    rw [up_at]
  have m1 : ∀ b : Bool, (0 < (if b = true then 1 else 0)) ↔ b = true := by
    intro b
    cases b <;> simp
  refine ⟨c6_w c (by omega), fun hq => ⟨⟨?_, ?_, ?_, ?_, ?_, ?_⟩, ?_, ?_, ?_, ?_⟩, fun k hk => by rw [ne 2 (by omega)]; exact f1 k hk, fun a ha => by rw [ne a (by omega)]; exact f2 a ha, f3⟩
  · rw [Wo 0 (by omega) (by omega), k3 0 (by omega)]
    exact r1.1
  · rw [Wo 1 (by omega) (by omega), k3 1 (by omega)]
    exact r1.2.1
  · rw [Wo 2 (by omega) (by omega), k3 2 (by omega)]
    exact r1.2.2.1
  · rw [Wo 6 (by omega) (by omega), k3 3 (by omega)]
    exact r1.2.2.2.1
  · rw [Wo 3 (by omega) (by omega), k3 4 (by omega)]
    exact r1.2.2.2.2.1
  · rw [W4]
    show u2 μ.1 3 5 (nI (w 4 + 1)) 3 5 = _
    rw [u2_at]
  · intro p hp
    rw [k3 6 (by omega), r2 p hp, W4]
    by_cases cp : p = w 4
    · rw [cp, W (188 + 7 * w 4) (by omega) (by omega), a3, decide_eq_false (show ¬ (w 4 < w 4 ∧ 0 < w (188 + 7 * w 4)) by omega), decide_eq_true rfl, Bool.true_and, Bool.false_or]
      cases hb : pM tp n σ
      · symm
        apply decide_eq_false
        simp
      · symm
        apply decide_eq_true
        simp
    · rw [decide_eq_false cp, Bool.false_and, Bool.or_false]
      apply decide_eq_decide.mpr
      by_cases cq : p < w 4
      · rw [W (188 + 7 * p) (by omega) (by omega), peA_o (by omega)]
        omega
      · omega
  · intro p hp
    rw [k3 7 (by omega), r3 p hp, W4]
    by_cases cp : p = w 4
    · rw [cp, W (189 + 7 * w 4) (by omega) (by omega), a4, decide_eq_false (show ¬ (w 4 < w 4 ∧ 0 < w (189 + 7 * w 4)) by omega), decide_eq_true rfl, Bool.true_and, Bool.false_or]
      cases hb : pB tp n σ
      · symm
        apply decide_eq_false
        simp
      · symm
        apply decide_eq_true
        simp
    · rw [decide_eq_false cp, Bool.false_and, Bool.or_false]
      apply decide_eq_decide.mpr
      by_cases cq : p < w 4
      · rw [W (189 + 7 * p) (by omega) (by omega), peA_o (by omega)]
        omega
      · omega
  · intro s hs
    rw [Wo 3 (by omega) (by omega)] at hs
    rw [ne (3 + 1) (by omega), ne (3 + 2) (by omega), ne (3 + 3) (by omega), ne (3 + 4) (by omega), ne (3 + 5) (by omega), Wo (10 + 7 * s) (by omega) (by omega), Wo (11 + 7 * s) (by omega) (by omega), Wo (12 + 7 * s) (by omega) (by omega), Wo (13 + 7 * s) (by omega) (by omega), Wo (14 + 7 * s) (by omega) (by omega)]
    exact r4 s hs
  · intro p hp
    rw [W4] at hp
    have hH := hh hq p (by omega)
    have eW : peW tp n w σ (190 + 7 * p) = peH tp n w σ (190 + 7 * p) := by
      unfold peW
      rw [up_ne (by omega)]
    rw [ne (3 + 6) (by omega), ne (3 + 7) (by omega), ne (3 + 8) (by omega), ne (3 + 9) (by omega), W (185 + 7 * p) (by omega) (by omega), W (186 + 7 * p) (by omega) (by omega), W (187 + 7 * p) (by omega) (by omega), eW]
    by_cases cp : p = w 4
    · rw [cp] at hH ⊢
      rw [a0, a1, a2]
      exact ⟨hv 0 _ (by omega) v0, hv 1 _ (by omega) v1, hv 2 _ (by omega) v2, hH⟩
    · rw [peA_o (by omega), peA_o (by omega), peA_o (by omega)]
      have := r5 p (by omega)
      exact ⟨this.1, this.2.1, this.2.2, hH⟩
end
