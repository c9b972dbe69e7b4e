/-! ===== READING: a stone, the reference, from its head ===== -/
section
variable {tp : Nat → Int32} {n : Nat} {w : Nat → Nat} {σ : Nat × Option (Nat × Nat)} {μ0 : sm_Mem}
theorem stone120 (hn : n ≤ 1600) (hB : Byt tp n) (h3 : w 3 < 24) (h5 : w 5 ≤ 4) (h14 : w (14 + 7 * w 3) = 0) {μ : sm_Mem} (h : St12 tp n (up w (12 + 7 * w 3) (sB tp n w σ)) (s6 tp n w σ) μ0 μ) : T (fnX12_readStone_J120 146 (nI (10 + 7 * w 3)) (nI (sX tp n w σ)) (nI (sY tp n w σ)) (nI (sK tp n w σ)) (nI (13 + 7 * w 3)) 152) μ (Stp12 tp n w σ μ0) := by
  have e_152 : ln 152 = 241 := rfl
  unfold fnX12_readStone_J120
  rw [t_sai (by omega)]
  have S := st12_w h (i := 13 + 7 * w 3) (v := sK tp n w σ) (eI_lo (by omega))
  revert S
  generalize (u2 μ.1 152 (13 + 7 * w 3) (nI (sK tp n w σ)), μ.2) = μ1
  intro S
  have keep : ¬ (flS tp n 7 (s6 tp n w σ) = true ∧ w 5 = 4) → T (fnX12_readStone_J145 146 (nI (10 + 7 * w 3)) (nI (sX tp n w σ)) (nI (sY tp n w σ))) μ1 (Stp12 tp n w σ μ0) := by
    intro hk
    have e : s7 tp n w σ = s6 tp n w σ := by
      unfold s7
      rw [if_neg hk]
    exact stone145 hn hB h3 h5 h14 (by rw [e]; exact S)
  rw [t_bnd, t_eq (is12C hn 7 S.1)]
  cases q : flS tp n 7 (s6 tp n w σ)
  · rw [t_brT (by decide)]
    exact keep (fun z => by rw [q] at z; exact absurd z.1 (by decide))
  · have x5 := w152 S.2.1 (i := 5) (by omega)
    rw [up_ne (by omega), up_ne (by omega)] at x5
    rw [t_brF (by decide), lk_146_14, li_5, t_ai (by omega), x5, li_4]
    by_cases q2 : w 5 = 4
    · have e : s7 tp n w σ = rfS tp n 2 (s6 tp n w σ) := by
        unfold s7
        rw [if_pos ⟨q, q2⟩]
      rw [t_brT (by rw [q2]), li_2, t_bnd]
      refine t_mono (ref12C hn (by omega) (by omega) S.1) ?_
      rintro _ μ2 ⟨b1, b2⟩
      exact stone145 hn hB h3 h5 h14 (by rw [e]; exact st12_g S b1 b2)
    · rw [t_brF (fun z => q2 ((nI_eq (by omega) (by omega)).mp z))]
      exact keep (fun z => q2 z.2)
theorem stone62 (hn : n ≤ 1600) (hB : Byt tp n) (h1 : w 1 ≤ 12) (h3 : w 3 < 24) (h5 : w 5 ≤ 4) (h14 : w (14 + 7 * w 3) = 0) {μ : sm_Mem} (h : St12 tp n w (s3 tp n w σ) μ0 μ) : T (fnX12_readStone_J62 146 (nI (10 + 7 * w 3)) (nI (sX tp n w σ))) μ (Stp12 tp n w σ μ0) := by
  have e_152 : ln 152 = 241 := rfl
  unfold fnX12_readStone_J62
  rw [lk_146_14, li_1, t_ai (by omega), w152 h.2.1 (by omega), t_bnd]
  have hr := hiR (k := w 1) (by omega)
  rw [li_1] at hr
  refine t_mono (num12C (hb := w 1) hn hB (by omega) hr (by omega) h.1) ?_
  rintro x μ1 ⟨rfl, a2, a3⟩
  have S1 : St12 tp n w (s4 tp n w σ) μ0 μ1 := st12_g h a2 a3
  rw [t_bnd, li_9]
  refine t_mono (pair12C (hb := 10) hn hB 5 (by omega) (by rw [nI_toInt (by omega)]; rfl) (by omega) S1.1) ?_
  rintro x μ2 ⟨rfl, b2, b3⟩
  have S2 : St12 tp n w (s5 tp n w σ) μ0 μ2 := st12_g S1 b2 b3
  rw [li_2, nI_add, t_sai (by omega), show 10 + 7 * w 3 + 2 = 12 + 7 * w 3 by omega]
  have S3 : St12 tp n (up w (12 + 7 * w 3) (sB tp n w σ)) (s5 tp n w σ) μ0 (u2 μ2.1 152 (12 + 7 * w 3) (nI (sB tp n w σ)), μ2.2) := st12_w S2 (eI_lo (by omega))
  show T _ (u2 μ2.1 152 (12 + 7 * w 3) (nI (sB tp n w σ)), μ2.2) _
  revert S3
  generalize (u2 μ2.1 152 (12 + 7 * w 3) (nI (sB tp n w σ)), μ2.2) = μ3
  intro S3
  rw [t_bnd]
  refine t_mono (take12C hn hB 6 S3.1) ?_
  rintro x μ4 ⟨rfl, c2, c3⟩
  unfold tkS at c2
  rw [li_3, nI_add, show 10 + 7 * w 3 + 3 = 13 + 7 * w 3 by omega]
  cases q : flS tp n 6 (s5 tp n w σ)
  · rw [q, if_neg (by decide)] at c2
    have e6 : s6 tp n w σ = s5 tp n w σ := by
      unfold s6 opS
      rw [q, if_neg (by decide)]
    have eK : sK tp n w σ = 0 := by
      unfold sK opV
      rw [q, if_neg (by decide)]
    rw [t_brT (by decide)]
    have := stone120 (σ := σ) (μ0 := μ0) hn hB h3 h5 h14 (by rw [e6]; exact st12_g S3 c2 c3)
    rw [eK] at this
    exact this
  · rw [q, if_pos rfl] at c2
    have e6 : s6 tp n w σ = nuS tp n 1 24 (adS tp n (s5 tp n w σ)) := by
      unfold s6 opS
      rw [q, if_pos rfl]
    have eK : sK tp n w σ = nuV tp n 1 24 (adS tp n (s5 tp n w σ)) := by
      unfold sK opV
      rw [q, if_pos rfl]
    rw [t_brF (by decide), t_bnd, li_23]
    refine t_mono (num12C (hb := 24) hn hB (by omega) (by rw [nI_toInt (by omega)]; rfl) (by omega) c2) ?_
    rintro x μ5 ⟨rfl, d2, d3⟩
    rw [← e6] at d2
    rw [← eK]
    exact stone120 hn hB h3 h5 h14 (st12_g (st12_g S3 c2 c3) d2 d3)
theorem stone12_T (hn : n ≤ 1600) (hB : Byt tp n) (h1 : w 1 ≤ 12) (h2 : w 2 ≤ 20) (h3 : w 3 < 24) (h5 : w 5 ≤ 4) (h14 : w (14 + 7 * w 3) = 0) (hxy : ∀ s, s < w 3 → w (10 + 7 * s) < 1000 ∧ w (11 + 7 * s) < 1000) {μ : sm_Mem} (h : St12 tp n w (adS tp n σ) μ0 μ) : T (fnX12_readStone 146) μ (Stp12 tp n w σ μ0) := by
  have e_152 : ln 152 = 241 := rfl
  unfold fnX12_readStone
  rw [lk_146_14, li_3, t_ai (by omega), w152 h.2.1 (by omega), li_10, li_7, pk_mul, nI_add, t_nm, li_2, t_ai (by omega), w152 h.2.1 (by omega), t_bnd]
  refine t_mono (pair12C (lo := 0) (hb := w 2) hn hB 4 (by omega) (hiR (by omega)) (by omega) h.1) ?_
  rintro x μ1 ⟨rfl, a2, a3⟩
  have S : St12 tp n w (s2 tp n w σ) μ0 μ1 := st12_g h a2 a3
  show T (m_bnd (fnX12_good 146) fun x30 => m_br ((bI x30) = 0) (fnX12_readStone_J62 146 (nI (10 + 7 * w 3)) (nI (sX tp n w σ))) _) μ1 _
  have hX : sX tp n w σ ≤ 1000 := by
    unfold sX prV nuV
    split
    · rename_i q
      have := (nuF_none q).2.2.2.1
      omega
    · omega
  have hl := adv_le (tp := tp) S.1.2.1
  have keep : ¬ ((s2 tp n w σ).2 = none ∧ aKd tp n (s2 tp n w σ).1 = 2 ∧ onW w (sX tp n w σ) (aVl tp n (s2 tp n w σ).1) = true) → T (fnX12_readStone_J62 146 (nI (10 + 7 * w 3)) (nI (sX tp n w σ))) μ1 (Stp12 tp n w σ μ0) := by
    intro hk
    have e : s3 tp n w σ = s2 tp n w σ := by
      unfold s3
      rw [if_neg hk]
    exact stone62 hn hB h1 h3 h5 h14 (by rw [e]; exact S)
  rw [t_bnd, t_eq (gd12 S.1.2.2.2)]
  by_cases q : (s2 tp n w σ).2 = none
  · rw [decide_eq_true q, t_brF (by decide), t_gi, S.1.2.2.1.2.2.1]
    by_cases q2 : aKd tp n (s2 tp n w σ).1 = 2
    · rw [t_brT (by rw [q2]), t_gi, S.1.2.2.1.2.2.2 q2]
      obtain ⟨r, r1, r2⟩ := frOn_L S.2.1 (by omega) hxy (x := sX tp n w σ) (y := min 99999 (aVl tp n (s2 tp n w σ).1)) (by omega) (by omega) 4096 0 (by omega) (by omega) (fun t ht => by omega)
      rw [onW_min hxy (by omega)] at r2
      have r1 : fnX12_freshOn 146 (nI (sX tp n w σ)) (nI (min 99999 (aVl tp n (s2 tp n w σ).1))) μ1 = some (r, μ1) := r1
      show T (m_bnd (fnX12_freshOn 146 (nI (sX tp n w σ)) (nI (min 99999 (aVl tp n (s2 tp n w σ).1)))) _) μ1 _
      rw [t_bnd, t_eq r1]
      by_cases q3 : r = -1
      · rw [t_brT q3]
        refine keep (fun z => ?_)
        rw [r2.mp q3] at z
        exact absurd z.2.2 (by decide)
      · have ho : onW w (sX tp n w σ) (aVl tp n (s2 tp n w σ).1) = true := by
          cases hz : onW w (sX tp n w σ) (aVl tp n (s2 tp n w σ).1)
          · exact absurd (r2.mpr hz) q3
          · rfl
        have e : s3 tp n w σ = rfS tp n 2 (s2 tp n w σ) := by
          unfold s3
          rw [if_pos ⟨q, q2, ho⟩]
        rw [t_brF q3, t_bnd]
        refine t_mono (ref12C hn (by omega) (by omega) S.1) ?_
        rintro _ μ2 ⟨b1, b2⟩
        exact stone62 hn hB h1 h3 h5 h14 (by rw [e]; exact st12_g S b1 b2)
    · rw [t_brF (fun z => q2 ((nI_eq (by omega) (by omega)).mp z))]
      exact keep (fun z => q2 z.2.1)
  · rw [decide_eq_false q, t_brT (by decide)]
    exact keep (fun z => q z.1)
end
