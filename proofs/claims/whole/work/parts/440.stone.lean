/-! ===== READING: a stone, the reference, all of it ===== -/
section
variable {tp : Nat → Int32} {n : Nat} {w : Nat → Nat} {σ : Nat × Option (Nat × Nat)} {μ0 : sm_Mem}
def Stp12 (tp : Nat → Int32) (n : Nat) (w : Nat → Nat) (σ : Nat × Option (Nat × Nat)) (μ0 : sm_Mem) (_ : Unit) (μ : sm_Mem) : Prop := ∃ z, St12 tp n z (s8 tp n w σ) μ0 μ ∧ ((s8 tp n w σ).2 = none → ∀ i, i < 241 → z i = stW tp n w σ i)
theorem stone179 (h3 : w 3 < 24) {z : Nat → Nat} {μ : sm_Mem} (h : St12 tp n z (s8 tp n w σ) μ0 μ) (z3 : z 3 = w 3) (hz : (s8 tp n w σ).2 = none → ∀ i, i < 241 → i ≠ 10 + 7 * w 3 → i ≠ 11 + 7 * w 3 → i ≠ 3 → z i = stW tp n w σ i) : T (fnX12_readStone_J179 146 (nI (10 + 7 * w 3)) (nI (sX tp n w σ)) (nI (sY tp n w σ))) μ (Stp12 tp n w σ μ0) := by
  have e_152 : ln 152 = 241 := rfl
  unfold fnX12_readStone_J179
  rw [lk_146_14, li_0, nI_add, Nat.add_zero, t_sai (by omega), li_1, nI_add, t_sai (by omega), li_3]
  have S1 := st12_w h (i := 10 + 7 * w 3) (v := sX tp n w σ) (eI_lo (by omega))
  have S2 := st12_w S1 (i := 10 + 7 * w 3 + 1) (v := sY tp n w σ) (eI_lo (by omega))
  revert S2
  generalize (u2 (u2 μ.1 152 (10 + 7 * w 3) (nI (sX tp n w σ)), μ.2).1 152 (10 + 7 * w 3 + 1) (nI (sY tp n w σ)), (u2 μ.1 152 (10 + 7 * w 3) (nI (sX tp n w σ)), μ.2).2) = μ1
  intro S2
  have x3 := w152 S2.2.1 (i := 3) (by omega)
  rw [up_ne (by omega), up_ne (by omega), z3] at x3
  rw [t_ai (by omega), x3, nI_add, t_sai (by omega), t_ret]
  refine ⟨_, st12_w S2 (i := 3) (v := w 3 + 1) (eI_lo (by omega)), ?_⟩
  intro hq i hi
  obtain ⟨n1, n2, n3, n4, n5, n6, n7⟩ := stW_n (tp := tp) (n := n) (σ := σ) (show w 3 ≤ 24 by omega)
  by_cases c3 : i = 3
  · rw [c3, up_at, n1]
  · rw [up_ne c3]
    by_cases c1 : i = 10 + 7 * w 3 + 1
    · rw [c1, up_at, show 10 + 7 * w 3 + 1 = 11 + 7 * w 3 by omega, n4]
    · rw [up_ne c1]
      by_cases c2 : i = 10 + 7 * w 3
      · rw [c2, up_at, n3]
      · rw [up_ne c2]
        exact hz hq i hi c2 (by omega) c3
theorem stone145 (hn : n ≤ 1600) (hB : Byt tp n) (h3 : w 3 < 24) (h5 : w 5 ≤ 4) (h14 : w (14 + 7 * w 3) = 0) {μ : sm_Mem} (h : St12 tp n (up (up w (12 + 7 * w 3) (sB tp n w σ)) (13 + 7 * w 3) (sK tp n w σ)) (s7 tp n w σ) μ0 μ) : T (fnX12_readStone_J145 146 (nI (10 + 7 * w 3)) (nI (sX tp n w σ)) (nI (sY tp n w σ))) μ (Stp12 tp n w σ μ0) := by
  have e_152 : ln 152 = 241 := rfl
  obtain ⟨n1, n2, n3, n4, n5, n6, n7⟩ := stW_n (tp := tp) (n := n) (σ := σ) (show w 3 ≤ 24 by omega)
  have old : ∀ i, i ≠ 10 + 7 * w 3 → i ≠ 11 + 7 * w 3 → i ≠ 3 → i ≠ 14 + 7 * w 3 → i ≠ 5 → up (up w (12 + 7 * w 3) (sB tp n w σ)) (13 + 7 * w 3) (sK tp n w σ) i = stW tp n w σ i := by
    intro i i0 i1 i3 i4 i5
    by_cases c : i = 13 + 7 * w 3
    · rw [c, up_at, n6]
    · rw [up_ne c]
      by_cases c2 : i = 12 + 7 * w 3
      · rw [c2, up_at, n5]
      · rw [up_ne c2, stW_o i3 i5 (by omega)]
  unfold fnX12_readStone_J145
  rw [t_bnd]
  refine t_mono (take12C hn hB 7 h.1) ?_
  rintro x μ1 ⟨rfl, a2, a3⟩
  unfold tkS at a2
  cases q : flS tp n 7 (s7 tp n w σ)
  · rw [q, if_neg (by decide)] at a2
    have e8 : s8 tp n w σ = s7 tp n w σ := by
      unfold s8 opS
      rw [q, if_neg (by decide)]
    have eN : sN tp n w σ = 0 := by
      unfold sN opV
      rw [q, if_neg (by decide)]
    rw [t_brT (by decide)]
    refine stone179 (σ := σ) h3 (by rw [e8]; exact st12_g h a2 a3) (by rw [up_ne (by omega), up_ne (by omega)]) ?_
    intro _ i hi i0 i1 i3
    by_cases c4 : i = 14 + 7 * w 3
    · rw [c4, up_ne (by omega), up_ne (by omega), n7, eN, h14]
    · by_cases c5 : i = 5
      · rw [c5, up_ne (by omega), up_ne (by omega), n2, eN, if_pos rfl, Nat.add_zero]
      · exact old i i0 i1 i3 c4 c5
  · rw [q, if_pos rfl] at a2
    have e8 : s8 tp n w σ = nuS tp n 1 100 (adS tp n (s7 tp n w σ)) := by
      unfold s8 opS
      rw [q, if_pos rfl]
    have eN : sN tp n w σ = nuV tp n 1 100 (adS tp n (s7 tp n w σ)) := by
      unfold sN opV
      rw [q, if_pos rfl]
    rw [t_brF (by decide), t_bnd, li_1, li_99]
    refine t_mono (num12C (hb := 100) hn hB (by omega) (by rw [nI_toInt (by omega)]; rfl) (by omega) a2) ?_
    rintro x μ2 ⟨rfl, b2, b3⟩
    rw [← e8] at b2
    have S1 := st12_g (st12_g h a2 a3) b2 b3
    rw [lk_146_14, li_4, nI_add, t_sai (by omega), ← eN]
    have S2 := st12_w S1 (i := 10 + 7 * w 3 + 4) (v := sN tp n w σ) (eI_lo (by omega))
    revert S2
    generalize (u2 μ2.1 152 (10 + 7 * w 3 + 4) (nI (sN tp n w σ)), μ2.2) = μ3
    intro S2
    have x5 := w152 S2.2.1 (i := 5) (by omega)
    rw [up_ne (by omega), up_ne (by omega), up_ne (by omega)] at x5
    rw [li_5, t_ai (by omega), x5, nI_add, t_sai (by omega)]
    refine stone179 (σ := σ) h3 (st12_w S2 (i := 5) (v := w 5 + 1) (eI_lo (by omega))) (by rw [up_ne (by omega), up_ne (by omega), up_ne (by omega), up_ne (by omega)]) ?_
    intro hq i hi i0 i1 i3
    rw [e8] at hq
    obtain ⟨v1, v2, -⟩ := nuV_lt hq
    rw [← eN] at v1
    by_cases c5 : i = 5
    · rw [c5, up_at, n2, if_neg (by omega)]
    · rw [up_ne c5]
      by_cases c4 : i = 10 + 7 * w 3 + 4
      · rw [c4, up_at, show 10 + 7 * w 3 + 4 = 14 + 7 * w 3 by omega, n7]
      · rw [up_ne c4]
        exact old i i0 i1 i3 (by omega) c5
end
