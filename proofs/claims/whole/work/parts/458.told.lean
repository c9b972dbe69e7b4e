/-! ===== READING: what was told is good ===== -/
section
variable {tp : Nat → Int32} {n : Nat} {w : Nat → Nat} {σ τ : Nat × Option (Nat × Nat)}
/-- places only grow -/
def Mo (n : Nat) (τ τ' : Nat × Option (Nat × Nat)) : Prop := τ.1 ≤ n → τ.1 ≤ τ'.1 ∧ τ'.1 ≤ n
theorem mo_rf : Mo n τ τ := fun h => ⟨Nat.le_refl _, h⟩
theorem mo_tr {a b c : Nat × Option (Nat × Nat)} (h1 : Mo n a b) (h2 : Mo n b c) : Mo n a c := fun h => ⟨Nat.le_trans (h1 h).1 (h2 (h1 h).2).1, (h2 (h1 h).2).2⟩
theorem mo_ad : Mo n τ (adS tp n τ) := fun h => by
  have := adv_le (tp := tp) h
  exact ⟨show τ.1 ≤ aEn tp n τ.1 by omega, show aEn tp n τ.1 ≤ n by omega⟩
theorem mo_rfS {c : Nat} : Mo n τ (rfS tp n c τ) := by
  by_cases q : τ.2 = none
  · rw [rfS_none q]
    exact fun h => ⟨Nat.le_refl _, h⟩
  · rw [rfS_some q]
    exact mo_rf
theorem mo_nd {i : Nat} : Mo n τ (ndS tp n i τ) := by
  unfold ndS
  split
  · exact mo_ad
  · exact mo_rfS
theorem mo_nu {lo hb : Nat} : Mo n τ (nuS tp n lo hb τ) := by
  have h : Mo n τ (nuF tp n lo hb τ) := by
    unfold nuF
    split
    · split
      · exact mo_rf
      · exact mo_rfS
    · exact mo_rfS
  unfold nuS
  split
  · exact mo_tr h mo_ad
  · exact h
theorem mo_pr {i lo hb : Nat} : Mo n τ (prS tp n i lo hb τ) := mo_tr mo_nd mo_nu
theorem mo_tk {i : Nat} : Mo n τ (tkS tp n i τ) := by
  unfold tkS
  split
  · exact mo_ad
  · exact mo_rf
theorem mo_op {i lo hb : Nat} : Mo n τ (opS tp n i lo hb τ) := by
  unfold opS
  split
  · exact mo_tr mo_ad mo_nu
  · exact mo_rf
theorem mo_s8 : Mo n (adS tp n σ) (s8 tp n w σ) := by
  have h3 : Mo n (s2 tp n w σ) (s3 tp n w σ) := by
    unfold s3
    split
    · exact mo_rfS
    · exact mo_rf
  have h7 : Mo n (s6 tp n w σ) (s7 tp n w σ) := by
    unfold s7
    split
    · exact mo_rfS
    · exact mo_rf
  exact mo_tr (mo_tr (mo_tr (mo_tr (mo_tr (mo_tr mo_pr h3) mo_nu) mo_pr) mo_op) h7) mo_op
theorem mo_p8 : Mo n (adS tp n σ) (p8 tp n w σ) := by
  have h5 : Mo n (adS tp n σ) (p5 tp n σ) := mo_tr (mo_tr (mo_tr (mo_tr mo_pr mo_pr) mo_pr) mo_tk) mo_tk
  have h7 : Mo n (p6 tp n σ) (p7 tp n w σ) := by
    unfold p7
    split
    · exact mo_rfS
    · exact mo_rf
  unfold p8
  split
  · exact mo_tr (mo_tr (mo_tr h5 mo_tk) h7) mo_nu
  · exact h5
/-- a line moves on -/
theorem line_mo (hp : σ.1 ≤ n) (hq : σ.2 = none) (h : (lnS tp n (bdS tp n w σ)).2 = none) : (bdS tp n w σ).2 = none ∧ σ.1 < (lnS tp n (bdS tp n w σ)).1 ∧ (lnS tp n (bdS tp n w σ)).1 ≤ n := by
  have hb : (bdS tp n w σ).2 = none := by
    cases hz : (bdS tp n w σ).2 with
    | none => rfl
    | some y =>
      unfold lnS at h
      rw [if_neg (by rw [hz]; exact fun z => (by cases z)), hz] at h
      exact h
  have m : Mo n σ (bdS tp n w σ) := by
    unfold bdS
    repeat' split
    all_goals first | exact mo_rfS | exact mo_tr mo_ad (mo_tr mo_pr mo_pr) | exact mo_tr mo_ad mo_s8 | exact mo_tr mo_ad mo_p8 | exact mo_tr mo_ad mo_nu
  have hm := m hp
  have hl := adv_le (tp := tp) hm.2
  by_cases c : aKd tp n (bdS tp n w σ).1 = 3
  · have e : lnS tp n (bdS tp n w σ) = adS tp n (bdS tp n w σ) := by
      unfold lnS
      rw [if_pos hb, if_pos c]
    rw [e]
    have h5 := hl.2.2.2.2 (by omega)
    exact ⟨hb, show σ.1 < aEn tp n (bdS tp n w σ).1 by omega, show aEn tp n (bdS tp n w σ).1 ≤ n by omega⟩
  · exfalso
    unfold lnS at h
    rw [if_pos hb, if_neg c, rfS_none hb] at h
    cases h
/-! values, where nothing was refused -/
theorem pr_none {i lo hb : Nat} (h : (prS tp n i lo hb τ).2 = none) : lo ≤ prV tp n i lo hb τ ∧ prV tp n i lo hb τ < hb ∧ τ.2 = none := by
  unfold prS at h
  have := nuV_lt h
  exact ⟨this.1, this.2.1, (ndS_none this.2.2.1).1⟩
theorem op_none {i lo hb : Nat} (h : (opS tp n i lo hb τ).2 = none) : τ.2 = none ∧ (opV tp n i lo hb τ = 0 ∨ (flS tp n i τ = true ∧ lo ≤ opV tp n i lo hb τ ∧ opV tp n i lo hb τ < hb)) := by
  unfold opS at h
  unfold opV
  by_cases c : flS tp n i τ = true
  · rw [if_pos c] at h ⊢
    have := nuV_lt h
    exact ⟨this.2.2.1, Or.inr ⟨c, this.1, this.2.1⟩⟩
  · rw [if_neg c] at h ⊢
    exact ⟨h, Or.inl rfl⟩
theorem tk_none {i : Nat} (h : (tkS tp n i τ).2 = none) : τ.2 = none := by
  unfold tkS at h
  split at h
  · exact h
  · exact h
theorem rf_nn {c : Nat} : (rfS tp n c τ).2 ≠ none := by
  by_cases q : τ.2 = none
  · rw [rfS_none q]
    exact fun z => (by cases z)
  · rw [rfS_some q]
    exact q
theorem s_facts (h : (s8 tp n w σ).2 = none) : sX tp n w σ < w 2 ∧ 1 ≤ sY tp n w σ ∧ sY tp n w σ < w 1 ∧ 1 ≤ sB tp n w σ ∧ sB tp n w σ ≤ 9 ∧ sK tp n w σ ≤ 23 ∧ sN tp n w σ ≤ 99 ∧ (sN tp n w σ ≠ 0 → w 5 ≠ 4) ∧ onW w (sX tp n w σ) (sY tp n w σ) = false := by
  obtain ⟨h7, hN⟩ := op_none (show (opS tp n 7 1 100 (s7 tp n w σ)).2 = none from h)
  have k7 : ¬ (flS tp n 7 (s6 tp n w σ) = true ∧ w 5 = 4) := by
    intro z
    unfold s7 at h7
    rw [if_pos z] at h7
    exact rf_nn h7
  have e7 : s7 tp n w σ = s6 tp n w σ := by
    unfold s7
    rw [if_neg k7]
  rw [e7] at h7
  obtain ⟨h5, hK⟩ := op_none (show (opS tp n 6 1 24 (s5 tp n w σ)).2 = none from h7)
  obtain ⟨hB1, hB2, h4⟩ := pr_none (show (prS tp n 5 1 10 (s4 tp n w σ)).2 = none from h5)
  obtain ⟨y1, y2, h3, _, y5⟩ := nuV_lt (show (nuS tp n 1 (w 1) (s3 tp n w σ)).2 = none from h4)
  have kd : aKd tp n (s3 tp n w σ).1 = 2 := by
    have h4' : (nuS tp n 1 (w 1) (s3 tp n w σ)).2 = none := h4
    unfold nuS at h4'
    split at h4'
    · rename_i z
      exact (nuF_none z).2.1
    · rename_i z
      exact absurd h4' z
  have k3 : ¬ ((s2 tp n w σ).2 = none ∧ aKd tp n (s2 tp n w σ).1 = 2 ∧ onW w (sX tp n w σ) (aVl tp n (s2 tp n w σ).1) = true) := by
    intro z
    unfold s3 at h3
    rw [if_pos z] at h3
    exact rf_nn h3
  have e3 : s3 tp n w σ = s2 tp n w σ := by
    unfold s3
    rw [if_neg k3]
  rw [e3] at h3 kd
  have y5 : sY tp n w σ = aVl tp n (s2 tp n w σ).1 := by
    rw [← e3]
    exact y5
  obtain ⟨x1, x2, _⟩ := pr_none (show (prS tp n 4 0 (w 2) (adS tp n σ)).2 = none from h3)
  refine ⟨x2, y1, y2, hB1, ?_, ?_, ?_, ?_, ?_⟩
  · have : sB tp n w σ < 10 := hB2
    omega
  · have : sK tp n w σ = 0 ∨ (_ ∧ 1 ≤ sK tp n w σ ∧ sK tp n w σ < 24) := hK
    omega
  · have : sN tp n w σ = 0 ∨ (_ ∧ 1 ≤ sN tp n w σ ∧ sN tp n w σ < 100) := hN
    omega
  · intro z z5
    rcases hN with z' | z'
    · exact z z'
    · have z6 := z'.1
      rw [e7] at z6
      exact k7 ⟨z6, z5⟩
  · cases hz : onW w (sX tp n w σ) (sY tp n w σ)
    · rfl
    · rw [y5] at hz
      exact absurd ⟨h3, kd, hz⟩ k3
theorem p_facts (h : (p8 tp n w σ).2 = none) : 1 ≤ pS tp n σ ∧ pS tp n σ ≤ 9 ∧ 1 ≤ pW tp n σ ∧ pW tp n σ ≤ 3 ∧ pV tp n σ ≤ 99 ∧ (pH tp n σ = true → pQ tp n w σ < w 4 ∧ w (190 + 7 * pQ tp n w σ) = 0) := by
  have h5 : (p5 tp n σ).2 = none ∧ (pH tp n σ = true → pQ tp n w σ < w 4 ∧ w (190 + 7 * pQ tp n w σ) = 0) := by
    unfold p8 at h
    by_cases c : pH tp n σ = true
    · rw [if_pos c] at h
      obtain ⟨y1, y2, h7, _, y5⟩ := nuV_lt h
      have kd : aKd tp n (p7 tp n w σ).1 = 2 := by
        unfold nuS at h
        split at h
        · rename_i z
          exact (nuF_none z).2.1
        · rename_i z
          exact absurd h z
      have kD : ¬ pD tp n w σ = true := by
        intro z
        unfold p7 at h7
        rw [if_pos z] at h7
        exact rf_nn h7
      have e7 : p7 tp n w σ = p6 tp n σ := by
        unfold p7
        rw [if_neg kD]
      have y5 : pQ tp n w σ = aVl tp n (p6 tp n σ).1 := by
        rw [← e7]
        exact y5
      rw [e7] at h7 kd
      refine ⟨tk_none h7, fun _ => ⟨y2, ?_⟩⟩
      have y2 : pQ tp n w σ < w 4 := y2
      rw [y5] at y2 ⊢
      cases hz : w (190 + 7 * aVl tp n (p6 tp n σ).1) with
      | zero => rfl
      | succ k =>
        exfalso
        apply kD
        unfold pD
        exact decide_eq_true ⟨kd, y2, by rw [hz]; omega⟩
    · rw [if_neg c] at h
      exact ⟨h, fun z => absurd z c⟩
  have h3 : (p3 tp n σ).2 = none := tk_none (tk_none h5.1)
  obtain ⟨v1, v2, h2⟩ := pr_none (show (prS tp n 11 0 100 (p2 tp n σ)).2 = none from h3)
  obtain ⟨u1, u2, h1⟩ := pr_none (show (prS tp n 10 1 4 (p1 tp n σ)).2 = none from h2)
  obtain ⟨t1, t2, _⟩ := pr_none (show (prS tp n 9 1 10 (adS tp n σ)).2 = none from h1)
  have v2 : pV tp n σ < 100 := v2
  have u2 : pW tp n σ < 4 := u2
  have t2 : pS tp n σ < 10 := t2
  exact ⟨t1, by omega, u1, by omega, by omega, h5.2⟩
end
