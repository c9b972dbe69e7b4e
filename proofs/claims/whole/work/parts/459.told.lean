/-! ===== READING: the world told is good, line by line ===== -/
def LG (w : Nat → Nat) : Prop := Good w ∧ w 7 = 0 ∧ (∀ s, s < 25 → w (15 + 7 * s) = 0 ∧ w (16 + 7 * s) = 0) ∧ (∀ s, w 3 ≤ s → s < 24 → w (14 + 7 * s) = 0) ∧ w 5 = fb_ct (fun s => decide (0 < w (14 + 7 * s))) (w 3) ∧ w 8 ≤ 1 ∧ (∀ p, p < w 4 → w (191 + 7 * p) = 98)
theorem lg_lb {w : Nat → Nat} (h : LG w) : LB w := by
  obtain ⟨⟨⟨g3, g4, g0, g6, g7⟩, gz, gp, gs, _, gd, _, _, gh, _⟩, _, _, h14, h5, h8, _⟩ := h
  have b12 : w 1 ≤ 12 ∧ w 2 ≤ 20 := by
    by_cases c : w 0 = 0
    · have := gz c
      omega
    · have := gp (by omega)
      omega
  refine ⟨b12.1, b12.2, g3, g4, by omega, h8, g0, fun s hs => ?_, fun q hq => ?_, fun c => h14 _ (by omega) c⟩
  · have := gs s hs
    omega
  · rcases gh q hq with z | ⟨r, r1, r2, _⟩ <;> omega
section
variable {tp : Nat → Int32} {n : Nat} {w : Nat → Nat} {σ τ : Nat × Option (Nat × Nat)}
/-- one line more -/
theorem lg_0 {z : Nat → Nat} (h : LG z) (h1 : 2 ≤ z 1) (h12 : z 1 ≤ 12) (h2 : 1 ≤ z 2) (h20 : z 2 ≤ 20) (h0 : z 0 + 1 < 4096) : LG (up z 0 (z 0 + 1)) := by
  obtain ⟨⟨⟨g3, g4, g0, g6, g7⟩, gz, gp, gs, gf, gd, gu, gw, gh, ga⟩, h7, hf, h14, h5, h8, h98⟩ := h
  have u : ∀ k, k ≠ 0 → up z 0 (z 0 + 1) k = z k := fun k hk => up_ne hk
  have u0 : up z 0 (z 0 + 1) 0 = z 0 + 1 := up_at
  unfold LG Good
  simp (disch := omega) only [u, u0]
  exact ⟨⟨⟨g3, g4, h0, g6, g7⟩, fun c => (by omega), fun _ => ⟨h1, h12, h2, h20⟩, gs, gf, gd, gu, gw, gh, ga⟩, h7, hf, h14, h5, h8, h98⟩
theorem lg_wa (h : LG w) (h0 : w 0 = 0) (hn : (waS tp n σ).2 = none) : LG (up (waW tp n w σ) 0 (waW tp n w σ 0 + 1)) := by
  obtain ⟨a1, a2, hp⟩ := pr_none (show (prS tp n 2 1 21 (prS tp n 1 2 13 (adS tp n σ))).2 = none from hn)
  obtain ⟨b1, b2, _⟩ := pr_none hp
  obtain ⟨⟨⟨g3, g4, g0, g6, g7⟩, gz, gp, gs, gf, gd, gu, gw, gh, ga⟩, h7, hf, h14, h5, h8, h98⟩ := h
  have gz := gz h0
  have u : ∀ k, 3 ≤ k → waW tp n w σ k = w k := fun k hk => by
    unfold waW
    rw [up_ne (by omega), up_ne (by omega)]
  have u0 : waW tp n w σ 0 = w 0 := by
    unfold waW
    rw [up_ne (by omega), up_ne (by omega)]
  have u1 : waW tp n w σ 1 = prV tp n 1 2 13 (adS tp n σ) := by
    unfold waW
    rw [up_ne (by omega), up_at]
  have u2 : waW tp n w σ 2 = prV tp n 2 1 21 (prS tp n 1 2 13 (adS tp n σ)) := by
    unfold waW
    rw [up_at]
  have v : ∀ k, 3 ≤ k → up (waW tp n w σ) 0 (waW tp n w σ 0 + 1) k = w k := fun k hk => by rw [up_ne (by omega), u k hk]
  have v0 : up (waW tp n w σ) 0 (waW tp n w σ 0 + 1) 0 = 1 := by rw [up_at, u0, h0]
  have v1 : up (waW tp n w σ) 0 (waW tp n w σ 0 + 1) 1 = prV tp n 1 2 13 (adS tp n σ) := by rw [up_ne (by omega), u1]
  have v2 : up (waW tp n w σ) 0 (waW tp n w σ 0 + 1) 2 = prV tp n 2 1 21 (prS tp n 1 2 13 (adS tp n σ)) := by rw [up_ne (by omega), u2]
  unfold LG Good
  simp (disch := omega) only [v, v0, v1, v2]
  exact ⟨⟨⟨g3, g4, (by omega), g6, g7⟩, fun c => (by omega), fun _ => ⟨b1, (by omega), a1, (by omega)⟩, fun s hs => (by omega), gf, gd, gu, gw, gh, ga⟩, h7, hf, h14, h5, h8, h98⟩
theorem lg_pl (h : LG w) (h0 : w 0 ≠ 0) (h1 : w 0 + 1 < 4096) (hn : (nuS tp n 1 10 (adS tp n σ)).2 = none) : LG (up (plW tp n w σ) 0 (plW tp n w σ 0 + 1)) := by
  obtain ⟨a1, a2, _⟩ := nuV_lt hn
  have u : ∀ k, k ≠ 6 → k ≠ 8 → plW tp n w σ k = w k := fun k h6 h8 => by
    unfold plW
    rw [up_ne h6, up_ne h8]
  have u6 : plW tp n w σ 6 = nuV tp n 1 10 (adS tp n σ) := by
    unfold plW
    rw [up_at]
  have u8 : plW tp n w σ 8 = 1 := by
    unfold plW
    rw [up_ne (by omega), up_at]
  obtain ⟨⟨⟨g3, g4, g0, g6, g7⟩, gz, gp, gs, gf, gd, gu, gw, gh, ga⟩, h7, hf, h14, h5, h8, h98⟩ := h
  have gp := gp (by omega)
  refine lg_0 ?_ (by rw [u 1 (by omega) (by omega)]; omega) (by rw [u 1 (by omega) (by omega)]; omega) (by rw [u 2 (by omega) (by omega)]; omega) (by rw [u 2 (by omega) (by omega)]; omega) (by rw [u 0 (by omega) (by omega)]; omega)
  unfold LG Good
  simp (disch := omega) only [u, u6, u8]
  exact ⟨⟨⟨g3, g4, g0, (by omega), g7⟩, gz, fun _ => gp, gs, gf, gd, gu, gw, gh, ga⟩, h7, hf, h14, h5, (by omega), h98⟩
theorem lgT_st (h : LG w) (h0 : w 0 ≠ 0) (h1 : w 0 + 1 < 4096) (c3 : w 3 < 24) (hn : (s8 tp n w σ).2 = none) : LG (up (stW tp n w σ) 0 (stW tp n w σ 0 + 1)) := by
  obtain ⟨x2, y1, y2, q1, q2, q3, q4, q5, q6⟩ := s_facts hn
  obtain ⟨v3, v5, v10, v11, v12, v13, v14⟩ := stW_n (tp := tp) (n := n) (σ := σ) (show w 3 ≤ 24 by omega)
  have u : ∀ k, k ≠ 3 → k ≠ 5 → (k < 10 + 7 * w 3 ∨ 15 + 7 * w 3 ≤ k) → stW tp n w σ k = w k := fun k a b c => stW_o a b c
  obtain ⟨⟨⟨g3, g4, g0, g6, g7⟩, gz, gp, gs, gf, gd, gu, gw, gh, ga⟩, h7, hf, h14, h5, h8, h98⟩ := h
  have gp := gp (by omega)
  have eS : ∀ k s, k < 7 → s < w 3 → stW tp n w σ (10 + k + 7 * s) = w (10 + k + 7 * s) := fun k s hk hs => u _ (by omega) (by omega) (by omega)
  have eP : ∀ k, 185 ≤ k → stW tp n w σ k = w k := fun k hk => u k (by omega) (by omega) (by omega)
  have e15 : ∀ s, s < 25 → stW tp n w σ (15 + 7 * s) = w (15 + 7 * s) := fun s hs => u _ (by omega) (by omega) (by omega)
  have e16 : ∀ s, s < 25 → stW tp n w σ (16 + 7 * s) = w (16 + 7 * s) := fun s hs => u _ (by omega) (by omega) (by omega)
  have hc : fb_ct (fun s => decide (0 < stW tp n w σ (14 + 7 * s))) (w 3 + 1) = w 5 + if sN tp n w σ = 0 then 0 else 1 := by
    rw [fb_ct_succ, v14, h5]
    have : fb_ct (fun s => decide (0 < stW tp n w σ (14 + 7 * s))) (w 3) = fb_ct (fun s => decide (0 < w (14 + 7 * s))) (w 3) := fb_ct_cong (fun s hs => (by have := eS 4 s (by omega) hs; show decide (0 < stW tp n w σ (10 + 4 + 7 * s)) = decide (0 < w (10 + 4 + 7 * s)); rw [this]))
    rw [this]
    by_cases c : sN tp n w σ = 0
    · rw [if_pos c, c]
      rfl
    · rw [if_neg c, decide_eq_true (by omega), if_pos rfl]
  have no : ∀ s, s < w 3 → ¬ (w (10 + 7 * s) = sX tp n w σ ∧ w (11 + 7 * s) = sY tp n w σ) := by
    intro s hs z
    unfold onW at q6
    exact absurd ⟨s, hs, z.1, z.2⟩ (of_decide_eq_false q6)
  refine lg_0 ?_ (by rw [u 1 (by omega) (by omega) (by omega)]; omega) (by rw [u 1 (by omega) (by omega) (by omega)]; omega) (by rw [u 2 (by omega) (by omega) (by omega)]; omega) (by rw [u 2 (by omega) (by omega) (by omega)]; omega) (by rw [u 0 (by omega) (by omega) (by omega)]; omega)
  have u0 := u 0 (by omega) (by omega) (by omega)
  have u1 := u 1 (by omega) (by omega) (by omega)
  have u2 := u 2 (by omega) (by omega) (by omega)
  have u4 := u 4 (by omega) (by omega) (by omega)
  have u6 := u 6 (by omega) (by omega) (by omega)
  have u7 := u 7 (by omega) (by omega) (by omega)
  have u8 := u 8 (by omega) (by omega) (by omega)
  unfold LG Good
  rw [u0, u1, u2, u4, u6, u7, u8, v3, v5]
  refine ⟨⟨⟨by omega, g4, g0, g6, g7⟩, fun c => absurd c h0, fun _ => gp, fun s hs => ?_, fun s hs hs2 => ?_, ?_, fun s t hs ht ex ey => ?_, fun p hp => ?_, fun p hp => ?_, fun p hp => ?_⟩, h7, fun s hs => ?_, fun s hs hs2 => ?_, ?_, h8, fun p hp => ?_⟩
  · have a15 := hf s (by omega)
    rw [e15 s (by omega), e16 s (by omega), a15.1, a15.2]
    by_cases c : s = w 3
    · rw [c, v10, v11, v12, v13, v14]
      omega
    · have := gs s (by omega)
      rw [show stW tp n w σ (10 + 7 * s) = w (10 + 7 * s) from eS 0 s (by omega) (by omega), show stW tp n w σ (11 + 7 * s) = w (11 + 7 * s) from eS 1 s (by omega) (by omega), show stW tp n w σ (12 + 7 * s) = w (12 + 7 * s) from eS 2 s (by omega) (by omega), show stW tp n w σ (13 + 7 * s) = w (13 + 7 * s) from eS 3 s (by omega) (by omega), show stW tp n w σ (14 + 7 * s) = w (14 + 7 * s) from eS 4 s (by omega) (by omega)]
      omega
  · rw [e16 s hs2]
    exact (hf s hs2).2
  · rw [hc]
    by_cases c : sN tp n w σ = 0
    · rw [if_pos c]
      omega
    · rw [if_neg c]
      have := q5 c
      omega
  · by_cases c : s = w 3
    · by_cases d : t = w 3
      · omega
      · exfalso
        rw [c, v10, show stW tp n w σ (10 + 7 * t) = w (10 + 7 * t) from eS 0 t (by omega) (by omega)] at ex
        rw [c, v11, show stW tp n w σ (11 + 7 * t) = w (11 + 7 * t) from eS 1 t (by omega) (by omega)] at ey
        exact no t (by omega) ⟨ex.symm, ey.symm⟩
    · rw [show stW tp n w σ (10 + 7 * s) = w (10 + 7 * s) from eS 0 s (by omega) (by omega)] at ex
      rw [show stW tp n w σ (11 + 7 * s) = w (11 + 7 * s) from eS 1 s (by omega) (by omega)] at ey
      by_cases d : t = w 3
      · exfalso
        rw [d, v10] at ex
        rw [d, v11] at ey
        exact no s (by omega) ⟨ex, ey⟩
      · rw [show stW tp n w σ (10 + 7 * t) = w (10 + 7 * t) from eS 0 t (by omega) (by omega)] at ex
        rw [show stW tp n w σ (11 + 7 * t) = w (11 + 7 * t) from eS 1 t (by omega) (by omega)] at ey
        exact gu s t (by omega) (by omega) ex ey
  · rw [eP _ (by omega), eP _ (by omega), eP _ (by omega), eP _ (by omega), eP _ (by omega)]
    exact gw p hp
  · rw [eP _ (by omega)]
    rcases gh p hp with z | ⟨q, z1, z2, z3, z4⟩
    · exact Or.inl z
    · exact Or.inr ⟨q, z1, z2, z3, (by rw [eP _ (by omega)]; exact z4)⟩
  · rw [eP _ (by omega), h98 p hp]
    omega
  · rw [e15 s hs, e16 s hs]
    exact hf s hs
  · rw [u _ (by omega) (by omega) (by omega)]
    exact h14 s (by omega) hs2
  · rw [hc]
  · rw [eP _ (by omega)]
    exact h98 p hp
theorem lg_pe (h : LG w) (h0 : w 0 ≠ 0) (h1 : w 0 + 1 < 4096) (c4 : w 4 < 8) (hn : (p8 tp n w σ).2 = none) : LG (up (peW tp n w σ) 0 (peW tp n w σ 0 + 1)) := by
  obtain ⟨t1, t2, t3, t4, t5, tH⟩ := p_facts hn
  obtain ⟨a0, a1, a2, a3, a4, a5⟩ := peA_n (tp := tp) (n := n) (w := w) (σ := σ)
  have a6 : peA tp n w σ (191 + 7 * w 4) = 98 := by
    unfold peA
    rw [up_at]
  have W : ∀ i, i ≠ 4 → (∀ p, i ≠ 190 + 7 * p) → peW tp n w σ i = peA tp n w σ i := by
    intro i i4 ip
    unfold peW
    rw [up_ne i4, peH_o ip]
  have u : ∀ k, k ≠ 4 → k < 185 → peW tp n w σ k = w k := fun k a b => peW_o a b
  have v4 : peW tp n w σ 4 = w 4 + 1 := by
    unfold peW
    rw [up_at]
  obtain ⟨⟨⟨g3, g4, g0, g6, g7⟩, gz, gp, gs, gf, gd, gu, gw, gh, ga⟩, h7, hf, h14, h5, h8, h98⟩ := h
  have gp := gp (by omega)
  have eH : ∀ p, p ≤ w 4 → peW tp n w σ (190 + 7 * p) = if pH tp n σ = true then (if p = pQ tp n w σ then w 4 + 1 else if p = w 4 then pQ tp n w σ + 1 else w (190 + 7 * p)) else if p = w 4 then 0 else w (190 + 7 * p) := by
    intro p hp
    unfold peW peH
    rw [up_ne (by omega)]
    have A : peA tp n w σ (190 + 7 * p) = if p = w 4 then 0 else w (190 + 7 * p) := by
      by_cases c : p = w 4
      · rw [c, a5, if_pos rfl]
      · rw [if_neg c, peA_h c4 (by omega)]
    by_cases c : pH tp n σ = true
    · rw [if_pos c, if_pos c]
      by_cases d : p = pQ tp n w σ
      · rw [if_pos d, d, up_at]
      · rw [if_neg d, up_ne (by omega)]
        by_cases e : p = w 4
        · rw [if_pos e, e, up_at]
        · rw [if_neg e, up_ne (by omega), A, if_neg e]
    · rw [if_neg c, if_neg c, A]
  refine lg_0 ?_ (by rw [u 1 (by omega) (by omega)]; omega) (by rw [u 1 (by omega) (by omega)]; omega) (by rw [u 2 (by omega) (by omega)]; omega) (by rw [u 2 (by omega) (by omega)]; omega) (by rw [u 0 (by omega) (by omega)]; omega)
  have u0 := u 0 (by omega) (by omega)
  have u1 := u 1 (by omega) (by omega)
  have u2 := u 2 (by omega) (by omega)
  have u3 := u 3 (by omega) (by omega)
  have u5 := u 5 (by omega) (by omega)
  have u6 := u 6 (by omega) (by omega)
  have u7 := u 7 (by omega) (by omega)
  have u8 := u 8 (by omega) (by omega)
  have hc : fb_ct (fun s => decide (0 < peW tp n w σ (14 + 7 * s))) (w 3) = fb_ct (fun s => decide (0 < w (14 + 7 * s))) (w 3) := fb_ct_cong (fun s hs => by rw [u _ (by omega) (by omega)])
  have b98 : ∀ p, p < w 4 + 1 → peW tp n w σ (191 + 7 * p) = 98 := by
    intro p hp
    rw [W _ (by omega) (by omega)]
    by_cases c : p = w 4
    · rw [c, a6]
    · rw [peA_o (by omega)]
      exact h98 p (by omega)
  unfold LG Good
  rw [u0, u1, u2, u3, u5, u6, u7, u8, v4, hc]
  refine ⟨⟨⟨g3, by omega, g0, g6, g7⟩, fun c => absurd c h0, fun _ => gp, fun s hs => ?_, fun s hs hs2 => ?_, gd, fun s t hs ht ex ey => ?_, fun p hp => ?_, fun p hp => ?_, fun p hp => Or.inr (Or.inl (b98 p hp))⟩, h7, fun s hs => ?_, fun s hs hs2 => ?_, h5, h8, b98⟩
  · rw [u _ (by omega) (by omega), u _ (by omega) (by omega), u _ (by omega) (by omega), u _ (by omega) (by omega), u _ (by omega) (by omega), u _ (by omega) (by omega), u _ (by omega) (by omega)]
    exact gs s hs
  · rw [u _ (by omega) (by omega)]
    exact gf s hs hs2
  · rw [u _ (by omega) (by omega), u _ (by omega) (by omega)] at ex ey
    exact gu s t hs ht ex ey
  · rw [W _ (by omega) (by omega), W _ (by omega) (by omega), W _ (by omega) (by omega), W _ (by omega) (by omega), W _ (by omega) (by omega)]
    by_cases c : p = w 4
    · rw [c, a0, a1, a2, a3, a4]
      refine ⟨t1, t2, t3, t4, t5, ?_, ?_⟩
      · split <;> omega
      · split <;> omega
    · rw [peA_o (by omega), peA_o (by omega), peA_o (by omega), peA_o (by omega), peA_o (by omega)]
      exact gw p (by omega)
  · rw [eH p (by omega)]
    by_cases c : pH tp n σ = true
    · obtain ⟨k1, k2⟩ := tH c
      rw [if_pos c]
      by_cases d : p = pQ tp n w σ
      · rw [if_pos d]
        refine Or.inr ⟨w 4, rfl, by omega, by omega, ?_⟩
        rw [eH _ (by omega), if_pos c, if_neg (by omega), if_pos rfl, d]
      · rw [if_neg d]
        by_cases e : p = w 4
        · rw [if_pos e]
          refine Or.inr ⟨pQ tp n w σ, rfl, by omega, by omega, ?_⟩
          rw [eH _ (by omega), if_pos c, if_pos rfl, e]
        · rw [if_neg e]
          rcases gh p (by omega) with z | ⟨q, z1, z2, z3, z4⟩
          · exact Or.inl z
          · refine Or.inr ⟨q, z1, by omega, z3, ?_⟩
            have : q ≠ pQ tp n w σ := by
              intro y
              rw [y] at z4
              omega
            rw [eH _ (by omega), if_pos c, if_neg this, if_neg (by omega)]
            exact z4
    · rw [if_neg c]
      by_cases e : p = w 4
      · rw [if_pos e]
        exact Or.inl rfl
      · rw [if_neg e]
        rcases gh p (by omega) with z | ⟨q, z1, z2, z3, z4⟩
        · exact Or.inl z
        · refine Or.inr ⟨q, z1, by omega, z3, ?_⟩
          rw [eH _ (by omega), if_neg c, if_neg (by omega)]
          exact z4
  · rw [u _ (by omega) (by omega), u _ (by omega) (by omega)]
    exact hf s hs
  · rw [u _ (by omega) (by omega)]
    exact h14 s hs hs2
/-- a line told in a good world leaves a good world -/
theorem lg_line (h : LG w) (h1 : w 0 + 1 < 4096) (hn : (bdS tp n w σ).2 = none) : LG (up (bdW tp n w σ) 0 (bdW tp n w σ 0 + 1)) ∧ bdW tp n w σ 0 = w 0 := by
  by_cases c0 : w 0 = 0
  · have e2 : bdW tp n w σ = waW tp n w σ := by
      unfold bdW
      rw [if_pos c0]
    rw [e2]
    unfold bdS at hn
    rw [if_pos c0] at hn
    split at hn
    · refine ⟨lg_wa h c0 hn, ?_⟩
      unfold waW
      rw [up_ne (by omega), up_ne (by omega)]
    · exact absurd hn rf_nn
  · unfold bdS at hn
    unfold bdW
    rw [if_neg c0] at hn ⊢
    split at hn
    · exact absurd hn rf_nn
    · split at hn
      · rename_i z
        rw [if_pos z]
        split at hn
        · rename_i c3
          exact ⟨lgT_st h c0 h1 c3 hn, stW_o (by omega) (by omega) (by omega)⟩
        · exact absurd hn rf_nn
      · rename_i z
        rw [if_neg z]
        split at hn
        · rename_i z
          rw [if_pos z]
          split at hn
          · rename_i c4
            exact ⟨lg_pe h c0 h1 c4 hn, peW_o (by omega) (by omega)⟩
          · exact absurd hn rf_nn
        · rename_i z
          rw [if_neg z]
          split at hn
          · split at hn
            · refine ⟨lg_pl h c0 h1 hn, ?_⟩
              unfold plW
              rw [up_ne (by omega), up_ne (by omega)]
            · exact absurd hn rf_nn
          · exact absurd hn rf_nn
end
