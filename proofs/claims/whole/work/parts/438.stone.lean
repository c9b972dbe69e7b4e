/-! ===== READING: a stone, both sides ===== -/
section
variable {tp : Nat → Int32} {n : Nat} {w : Nat → Nat} {σ : Nat × Option (Nat × Nat)}
theorem onW_min (hxy : ∀ s, s < w 3 → w (10 + 7 * s) < 1000 ∧ w (11 + 7 * s) < 1000) {x y B : Nat} (hB : 1000 ≤ B) : onW w x (min B y) = onW w x y := by
  unfold onW
  apply decide_eq_decide.mpr
  constructor
  · rintro ⟨s, h1, h2, h3⟩
    have := hxy s h1
    exact ⟨s, h1, h2, by omega⟩
  · rintro ⟨s, h1, h2, h3⟩
    have := hxy s h1
    exact ⟨s, h1, h2, by omega⟩
theorem stone6_T (hn : n ≤ 1600) (h1 : w 1 ≤ 12) (h2 : w 2 ≤ 20) (h3 : w 3 < 24) (h4 : w 4 ≤ 8) (h5 : w 5 ≤ 4) (hxy : ∀ s, s < w 3 → w (10 + 7 * s) < 1000 ∧ w (11 + 7 * s) < 1000) {μ : sm_Mem} (hc : C6 tp n σ μ) (hR : RH 3 w μ) (h9 : μ.1 2 9 = nI (w 5)) : T (fnX6_readStone 2) μ (Stp6 tp n w σ μ) := by
  have e_4 : ln 4 = 24 := rfl
  unfold fnX6_readStone
  rw [lk_2_0, lk_3_8, t_gi, hR.1.2.2.2.2.1, t_brT (show nI (w 3) < (24 : Int32) from nI_lt (b := 24) h3 (by omega)), t_bnd]
  refine t_mono (adv6C hn hc) ?_
  rintro _ μ1 ⟨c1, f1⟩
  have S0 : St6 tp n w σ (fun _ => none) μ μ := ⟨hc, hR, h9, fun j x _ z => (by cases z), frPr_rf μ⟩
  have S1 : St6 tp n w (adS tp n σ) (fun _ => none) μ μ1 := st6_g S0 c1 f1
  rw [t_gi, S1.2.1.1.2.2.1, t_bnd]
  refine t_mono (pair6C (lo := 0) (hb := w 2) hn 4 (by omega) (hiC (by omega)) (by omega) S1.1) ?_
  rintro x μ2 ⟨rfl, c2, f2⟩
  have S2 : St6 tp n w (s2 tp n w σ) (fun _ => none) μ μ2 := st6_g S1 c2 f2
  rw [t_sai (by omega)]
  have S3 : St6 tp n w (s2 tp n w σ) (fun i => if i = 0 then some (sX tp n w σ) else none) μ (u2 μ2.1 4 (w 3) (nI (sX tp n w σ)), μ2.2) := st6_w S2 (j := 0) (by omega)
  have x4 : (u2 μ2.1 4 (w 3) (nI (sX tp n w σ)), μ2.2).1 4 (w 3) = nI (sX tp n w σ) := (by simp (disch := omega) only [u2_ne, u2_a, u2_k, u2_at])
  show T _ (u2 μ2.1 4 (w 3) (nI (sX tp n w σ)), μ2.2) _
  revert S3 x4
  generalize (u2 μ2.1 4 (w 3) (nI (sX tp n w σ)), μ2.2) = μ3
  intro S3 x4
  obtain ⟨a1, a2, a3, a4⟩ := id S3.1
  have hX : sX tp n w σ ≤ 1000 := by
    unfold sX prV nuV
    split
    · rename_i q
      have := (nuF_none q).2.2.2.1
      omega
    · omega
  have hl := adv_le (tp := tp) a2
  have keep : ¬ ((s2 tp n w σ).2 = none ∧ aKd tp n (s2 tp n w σ).1 = 2 ∧ onW w (sX tp n w σ) (aVl tp n (s2 tp n w σ).1) = true) → T (fnX6_readStone_J93 2 (nI (w 3))) μ3 (Stp6 tp n w σ μ) := by
    intro hk
    have e : s3 tp n w σ = s2 tp n w σ := by
      unfold s3
      rw [if_neg hk]
    exact stone93 hn h1 h3 h4 h5 (by rw [e]; exact S3) rfl
  rw [t_gi]
  by_cases q : (s2 tp n w σ).2 = none
  · rw [t_brT ((fl6_0 a4).mpr q), t_gi, a3.2.2.1]
    by_cases q2 : aKd tp n (s2 tp n w σ).1 = 2
    · rw [t_brT (by rw [q2]; rfl), t_ai (by omega), x4, t_gi, a3.2.2.2 q2]
      obtain ⟨r, r1, r2⟩ := stAt_L S3.2.1 (by omega) hxy (x := sX tp n w σ) (y := min 1000 (aVl tp n (s2 tp n w σ).1)) (by omega) (by omega) 4096 0 (by omega) (by omega) (fun t ht => by omega)
      rw [onW_min hxy (by omega)] at r2
      unfold fnX7_stoneAt
      rw [t_bnd, li_0, t_eq r1]
      by_cases q3 : r = -1
      · rw [t_brT q3]
        refine keep (fun z => ?_)
        rw [r2.mp q3] at z
        exact absurd z.2.2 (by decide)
      · rw [t_brF q3, li_2, t_bnd]
        have ho : onW w (sX tp n w σ) (aVl tp n (s2 tp n w σ).1) = true := by
          cases hz : onW w (sX tp n w σ) (aVl tp n (s2 tp n w σ).1)
          · exact absurd (r2.mpr hz) q3
          · rfl
        have e : s3 tp n w σ = rfS tp n 2 (s2 tp n w σ) := by
          unfold s3
          rw [if_pos ⟨q, q2, ho⟩]
        refine t_mono (ref6C hn (by omega) (by omega) S3.1) ?_
        rintro _ μ4 ⟨b1, b2⟩
        exact stone93 hn h1 h3 h4 h5 (by rw [e]; exact st6_g S3 b1 b2) rfl
    · rw [t_brF (show ¬ nI (aKd tp n (s2 tp n w σ).1) = (2 : Int32) from fun z => q2 ((nI_eq (b := 2) (by omega) (by omega)).mp z))]
      exact keep (fun z => q2 z.2.1)
  · rw [t_brF (fun z => q ((fl6_0 a4).mp z))]
    exact keep (fun z => q z.1)
/-! the reference's -/
def St12 (tp : Nat → Int32) (n : Nat) (z : Nat → Nat) (σ : Nat × Option (Nat × Nat)) (μ0 μ : sm_Mem) : Prop := C12 tp n σ μ ∧ WH 152 z μ ∧ (∀ k, (k < 8 ∨ 14 ≤ k) → μ.1 146 k = μ0.1 146 k) ∧ (∀ a, a ≠ 146 → a ≠ 152 → μ.1 a = μ0.1 a) ∧ μ.2 = μ0.2
theorem st12_g {z : Nat → Nat} {σ' : Nat × Option (Nat × Nat)} {μ0 μ μ1 : sm_Mem} (h : St12 tp n z σ μ0 μ) (hc : C12 tp n σ' μ1) (hf : FrI μ μ1) : St12 tp n z σ' μ0 μ1 := by
  obtain ⟨h1, h2, h3, h4, h5⟩ := h
  exact ⟨hc, wh_fr (fun i _ => by rw [hf.2.1 152 (by omega)]) h2, fun k hk => (hf.1 k hk).trans (h3 k hk), fun a q1 q2 => (hf.2.1 a q1).trans (h4 a q1 q2), hf.2.2.trans h5⟩
theorem st12_w {z : Nat → Nat} {μ0 μ : sm_Mem} (h : St12 tp n z σ μ0 μ) {i v : Nat} {x : Int32} (hx : x = eI i v) : St12 tp n (up z i v) σ μ0 (u2 μ.1 152 i x, μ.2) := by
  obtain ⟨⟨⟨t1, t2⟩, c2, ⟨a1, a2, a3, a4⟩, c4⟩, h2, h3, h4, h5⟩ := h
  have e6 : (u2 μ.1 152 i x, μ.2).1 146 = μ.1 146 := by
    show u2 μ.1 152 i x 146 = μ.1 146
    rw [u2_ne (show 146 ≠ 152 by omega)]
  have e0 : (u2 μ.1 152 i x, μ.2).1 150 = μ.1 150 := by
    show u2 μ.1 152 i x 150 = μ.1 150
    rw [u2_ne (show 150 ≠ 152 by omega)]
  refine ⟨⟨⟨by rw [e6]; exact t1, by rw [e0]; exact t2⟩, c2, ⟨by rw [e6]; exact a1, by rw [e6]; exact a2, by rw [e6]; exact a3, by rw [e6]; exact a4⟩, ?_⟩, wh_up h2 hx, by rw [e6]; exact h3, ?_, h5⟩
  · revert c4
    unfold FL12
    rw [e6]
    exact id
  · intro a q1 q2
    rw [← h4 a q1 q2]
    show u2 μ.1 152 i x a = μ.1 a
    rw [u2_ne q2]
end
