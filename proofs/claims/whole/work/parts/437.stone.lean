/-! ===== READING: a stone, the component, from its head ===== -/
section
variable {tp : Nat → Int32} {n : Nat} {w : Nat → Nat} {σ : Nat × Option (Nat × Nat)} {μ0 : sm_Mem}
theorem nuV_le {lo hb : Nat} {τ : Nat × Option (Nat × Nat)} (h : 1 ≤ hb) : nuV tp n lo hb τ ≤ hb - 1 := by
  unfold nuV
  by_cases q : (nuF tp n lo hb τ).2 = none
  · rw [if_pos q]
    have := (nuF_none q).2.2.2.1
    omega
  · rw [if_neg q]
    omega
theorem opV_le {i lo hb : Nat} {τ : Nat × Option (Nat × Nat)} (h : 1 ≤ hb) : opV tp n i lo hb τ ≤ hb - 1 := by
  unfold opV
  split
  · exact nuV_le h
  · omega
theorem stone194 (hn : n ≤ 1600) (h3 : w 3 < 24) (h4 : w 4 ≤ 8) {v : Nat → Option Nat} {μ : sm_Mem} (h : St6 tp n w (s7 tp n w σ) v μ0 μ) (v0 : v 0 = some (sX tp n w σ)) (v1 : v 1 = some (sY tp n w σ)) (v2 : v 2 = some (sB tp n w σ)) (v3 : v 3 = some (sK tp n w σ)) : T (fnX6_readStone_J194 2 (nI (w 3))) μ (Stp6 tp n w σ μ0) := by
  have hN : sN tp n w σ ≤ 99 := opV_le (by omega)
  obtain ⟨c1, c2, c3, c4⟩ := id h.1
  unfold fnX6_readStone_J194
  rw [t_bnd, t_eq (word6 hn c2 c1 c3), lk_2_0, lk_3_12]
  cases q : isW tp n 7 (s7 tp n w σ).1
  · obtain ⟨e1, e2⟩ := op_no (lo := 1) (hb := 100) q
    have e1 : s8 tp n w σ = s7 tp n w σ := e1
    have e2 : sN tp n w σ = 0 := e2
    rw [t_brT (by decide), li_0]
    have := stone224 (σ := σ) h3 h4 (v := v) (by rw [e1]; exact h) v0 v1 v2 v3 hN
    rw [e2] at this
    exact this
  · obtain ⟨e1, e2⟩ := op_pr (lo := 1) (hb := 100) q
    rw [t_brF (by decide), t_bnd, li_1, li_99]
    refine t_mono (pair6C hn 7 (by omega) (hiN (by omega)) (by omega) h.1) ?_
    rintro x μ1 ⟨rfl, a2, a3⟩
    rw [← e1] at a2
    rw [← e2]
    exact stone224 (σ := σ) h3 h4 (st6_g h a2 a3) v0 v1 v2 v3 hN
theorem stone164 (hn : n ≤ 1600) (h3 : w 3 < 24) (h4 : w 4 ≤ 8) (h5 : w 5 ≤ 4) {v : Nat → Option Nat} {μ : sm_Mem} (h : St6 tp n w (s6 tp n w σ) v μ0 μ) (v0 : v 0 = some (sX tp n w σ)) (v1 : v 1 = some (sY tp n w σ)) (v2 : v 2 = some (sB tp n w σ)) : T (fnX6_readStone_J164 2 (nI (w 3)) (nI (sK tp n w σ)) (nI (w 3)) 7) μ (Stp6 tp n w σ μ0) := by
  have e_7 : ln 7 = 24 := rfl
  unfold fnX6_readStone_J164
  rw [t_sai (by omega)]
  have S : St6 tp n w (s6 tp n w σ) (fun i => if i = 3 then some (sK tp n w σ) else v i) μ0 (u2 μ.1 7 (w 3) (nI (sK tp n w σ)), μ.2) := st6_w h (j := 3) (by omega)
  revert S
  generalize (u2 μ.1 7 (w 3) (nI (sK tp n w σ)), μ.2) = μ1
  intro S
  obtain ⟨c1, c2, c3, c4⟩ := id S.1
  have go : ∀ μ2, St6 tp n w (s7 tp n w σ) (fun i => if i = 3 then some (sK tp n w σ) else v i) μ0 μ2 → T (fnX6_readStone_J194 2 (nI (w 3))) μ2 (Stp6 tp n w σ μ0) := fun μ2 S2 => stone194 hn h3 h4 S2 (by simpa using v0) (by simpa using v1) (by simpa using v2) (by simp)
  have keep : ¬ (flS tp n 7 (s6 tp n w σ) = true ∧ w 5 = 4) → T (fnX6_readStone_J194 2 (nI (w 3))) μ1 (Stp6 tp n w σ μ0) := by
    intro hk
    have e : s7 tp n w σ = s6 tp n w σ := by
      unfold s7
      rw [if_neg hk]
    exact go μ1 (by rw [e]; exact S)
  rw [t_gi]
  by_cases q : (s6 tp n w σ).2 = none
  · rw [t_brT ((fl6_0 c4).mpr q), t_bnd, t_eq (word6 hn c2 c1 c3)]
    cases q2 : isW tp n 7 (s6 tp n w σ).1
    · rw [t_brT (by decide)]
      refine keep (fun z => ?_)
      have := z.1
      unfold flS at this
      rw [q2, Bool.and_false] at this
      cases this
    · rw [t_brF (by decide), t_gi, S.2.2.1]
      by_cases q3 : w 5 < 4
      · rw [t_brT (show nI (w 5) < (4 : Int32) from nI_lt (b := 4) q3 (by omega))]
        exact keep (fun z => by omega)
      · rw [t_brF (show ¬ nI (w 5) < (4 : Int32) from nI_nlt (b := 4) (by omega) (by omega)), li_2, t_bnd]
        have e : s7 tp n w σ = rfS tp n 2 (s6 tp n w σ) := by
          unfold s7
          rw [if_pos ⟨by unfold flS; rw [decide_eq_true q, q2]; rfl, by omega⟩]
        refine t_mono (ref6C hn (by omega) (by omega) S.1) ?_
        rintro _ μ2 ⟨b1, b2⟩
        exact go μ2 (by rw [e]; exact st6_g S b1 b2)
  · rw [t_brF (fun z => q ((fl6_0 c4).mp z))]
    refine keep (fun z => ?_)
    have := z.1
    unfold flS at this
    rw [decide_eq_false q, Bool.false_and] at this
    cases this
theorem stone93 (hn : n ≤ 1600) (h1 : w 1 ≤ 12) (h3 : w 3 < 24) (h4 : w 4 ≤ 8) (h5 : w 5 ≤ 4) {v : Nat → Option Nat} {μ : sm_Mem} (h : St6 tp n w (s3 tp n w σ) v μ0 μ) (v0 : v 0 = some (sX tp n w σ)) : T (fnX6_readStone_J93 2 (nI (w 3))) μ (Stp6 tp n w σ μ0) := by
  have e_5 : ln 5 = 24 := rfl
  have e_6 : ln 6 = 24 := rfl
  unfold fnX6_readStone_J93
  rw [lk_2_0, lk_3_9, lk_3_10, lk_3_11, t_gi, h.2.1.1.2.1, t_bnd]
  have hi := hiC (k := w 1) (by omega)
  rw [li_1] at hi ⊢
  refine t_mono (num6C (hb := w 1) hn (by omega) hi (by omega) h.1) ?_
  rintro x μ1 ⟨rfl, a2, a3⟩
  have S1 : St6 tp n w (s4 tp n w σ) v μ0 μ1 := st6_g h a2 a3
  rw [t_sai (by omega)]
  have S2 : St6 tp n w (s4 tp n w σ) (fun i => if i = 1 then some (sY tp n w σ) else v i) μ0 (u2 μ1.1 5 (w 3) (nI (sY tp n w σ)), μ1.2) := st6_w S1 (j := 1) (by omega)
  show T _ (u2 μ1.1 5 (w 3) (nI (sY tp n w σ)), μ1.2) _
  revert S2
  generalize (u2 μ1.1 5 (w 3) (nI (sY tp n w σ)), μ1.2) = μ2
  intro S2
  rw [t_bnd, li_9]
  refine t_mono (pair6C (hb := 10) hn 5 (by omega) (hiN (by omega)) (by omega) S2.1) ?_
  rintro x μ3 ⟨rfl, b2, b3⟩
  have S3 : St6 tp n w (s5 tp n w σ) (fun i => if i = 1 then some (sY tp n w σ) else v i) μ0 μ3 := st6_g S2 b2 b3
  rw [t_sai (by omega)]
  have S4 : St6 tp n w (s5 tp n w σ) (fun i => if i = 2 then some (sB tp n w σ) else if i = 1 then some (sY tp n w σ) else v i) μ0 (u2 μ3.1 6 (w 3) (nI (sB tp n w σ)), μ3.2) := st6_w S3 (j := 2) (by omega)
  show T _ (u2 μ3.1 6 (w 3) (nI (sB tp n w σ)), μ3.2) _
  revert S4
  generalize (u2 μ3.1 6 (w 3) (nI (sB tp n w σ)), μ3.2) = μ4
  intro S4
  obtain ⟨c1, c2, c3, c4⟩ := id S4.1
  rw [t_bnd, t_eq (word6 hn c2 c1 c3)]
  cases q : isW tp n 6 (s5 tp n w σ).1
  · obtain ⟨e1, e2⟩ := op_no (lo := 1) (hb := 24) q
    have e1 : s6 tp n w σ = s5 tp n w σ := e1
    have e2 : sK tp n w σ = 0 := e2
    rw [t_brT (by decide), li_0]
    have := stone164 (σ := σ) (μ0 := μ0) hn h3 h4 h5 (by rw [e1]; exact S4) (by simpa using v0) (by simp) (by simp)
    rw [e2] at this
    exact this
  · obtain ⟨e1, e2⟩ := op_pr (lo := 1) (hb := 24) q
    rw [t_brF (by decide), t_bnd, li_23]
    refine t_mono (pair6C (hb := 24) hn 6 (by omega) (hiN (by omega)) (by omega) S4.1) ?_
    rintro x μ5 ⟨rfl, d2, d3⟩
    rw [← e1] at d2
    rw [← e2]
    exact stone164 (σ := σ) hn h3 h4 h5 (st6_g S4 d2 d3) (by simpa using v0) (by simp) (by simp)
end
