/-! ===== READING: a person, the component: head ===== -/
section
variable {tp : Nat → Int32} {n : Nat} {w : Nat → Nat} {σ : Nat × Option (Nat × Nat)} {μ0 μ : sm_Mem}
theorem person129 (hn : n ≤ 1600) (h4 : w 4 < 8) (h3 : w 3 ≤ 24) (hh : ∀ q, q < w 4 → w (190 + 7 * q) ≤ 8) {v : Nat → Option Int32} (v0 : v 0 = some (nI (pS tp n σ))) (v1 : v 1 = some (nI (pW tp n σ))) (v2 : v 2 = some (nI (pV tp n σ))) {s0 : Int32} (hs : s0 = if pB tp n σ = true then (1 : Int32) <<< (nI (w 4) &&& 31) else 0) (h : Pe6 tp n w (p5 tp n σ) (pM tp n σ) false v μ0 μ) : T (fnX6_readPerson_J129 2 (nI (w 4)) s0 (μ.1 3 7) 3) μ (Per6 tp n w σ μ0) := by
  have e_12 : ln 12 = 8 := rfl
  unfold fnX6_readPerson_J129
  rw [t_si]
  have S := pe6_b (bb := pB tp n σ) h4 h hs
  show T _ (u2 μ.1 3 7 (μ.1 3 7 ||| s0), μ.2) _
  revert S
  generalize (u2 μ.1 3 7 (μ.1 3 7 ||| s0), μ.2) = μ1
  intro S
  rw [lk_2_0, lk_3_16, t_sai (by omega)]
  have S2 : Pe6 tp n w (p5 tp n σ) (pM tp n σ) (pB tp n σ) (fun i => if i = 3 then some (-1) else v i) μ0 (u2 μ1.1 12 (w 4) (-1), μ1.2) := pe6_w S (j := 3) (by omega)
  have x12 : (u2 μ1.1 12 (w 4) (-1), μ1.2).1 12 (w 4) = -1 := (by simp (disch := omega) only [u2_ne, u2_a, u2_k, u2_at])
  show T _ (u2 μ1.1 12 (w 4) (-1), μ1.2) _
  revert S2 x12
  generalize (u2 μ1.1 12 (w 4) (-1), μ1.2) = μ2
  intro S2 x12
  obtain ⟨a1, a2, a3, a4⟩ := id S2.1
  rw [t_bnd, t_eq (word6 hn a2 a1 a3)]
  cases hw : isW tp n 14 (p5 tp n σ).1
  · have hH : pH tp n σ = false := by
      unfold pH flS
      rw [hw, Bool.and_false]
    have e8 : p8 tp n w σ = p5 tp n σ := by
      unfold p8
      rw [hH, if_neg (by decide)]
    have eH : peH tp n w σ = peA tp n w σ := by
      unfold peH
      rw [hH, if_neg (by decide)]
    rw [t_brT (by rfl)]
    refine person157 (v := fun i => if i = 3 then some (-1) else v i) h4 h3 (by rw [e8]; exact S2) v0 v1 v2 (fun _ p hp => ?_)
    rw [eH]
    by_cases c : p = w 4
    · rw [c, x12, peA_n.2.2.2.2.2]
      rfl
    · rw [peA_h h4 (by omega)]
      exact (S2.2.1.2.2.2.2 p (by omega)).2.2.2
  · rw [t_brF (by decide)]
    exact hand157 (v := fun i => if i = 3 then some (-1) else v i) hn h4 h3 hh v0 v1 v2 hw S2
theorem person101 (hn : n ≤ 1600) (h4 : w 4 < 8) (h3 : w 3 ≤ 24) (hh : ∀ q, q < w 4 → w (190 + 7 * q) ≤ 8) {v : Nat → Option Int32} (v0 : v 0 = some (nI (pS tp n σ))) (v1 : v 1 = some (nI (pW tp n σ))) (v2 : v 2 = some (nI (pV tp n σ))) {s0 : Int32} (hs : s0 = if pM tp n σ = true then (1 : Int32) <<< (nI (w 4) &&& 31) else 0) (h : Pe6 tp n w (p4 tp n σ) false false v μ0 μ) : T (fnX6_readPerson_J101 2 (nI (w 4)) s0 (μ.1 3 6) 3) μ (Per6 tp n w σ μ0) := by
  unfold fnX6_readPerson_J101
  rw [t_si]
  have S := pe6_m (bm := pM tp n σ) h4 h hs
  show T _ (u2 μ.1 3 6 (μ.1 3 6 ||| s0), μ.2) _
  revert S
  generalize (u2 μ.1 3 6 (μ.1 3 6 ||| s0), μ.2) = μ1
  intro S
  rw [lk_2_0, t_gi, t_bnd]
  refine t_mono (flag6C hn 13 S.1) ?_
  rintro x μ2 ⟨rfl, c2, f2⟩
  have S2 : Pe6 tp n w (p5 tp n σ) (pM tp n σ) false v μ0 μ2 := pe6_g S c2 f2
  rw [← f2.2.1 3 (by omega)]
  cases hB : flS tp n 13 (p4 tp n σ)
  · rw [t_brT (by rfl)]
    exact person129 hn h4 h3 hh v0 v1 v2 (by rw [show pB tp n σ = false from hB]; rfl) S2
  · rw [t_brF (by decide)]
    exact person129 hn h4 h3 hh v0 v1 v2 (by rw [show pB tp n σ = true from hB]; rfl) S2
theorem person6_T (hn : n ≤ 1600) (h4 : w 4 < 8) (h3 : w 3 ≤ 24) (hh : ∀ q, q < w 4 → w (190 + 7 * q) ≤ 8) (hc : C6 tp n σ μ) (hR : RH 3 w μ) : T (fnX6_readPerson 2) μ (Per6 tp n w σ μ) := by
  have e_9 : ln 9 = 8 := rfl
  have e_10 : ln 10 = 8 := rfl
  have e_11 : ln 11 = 8 := rfl
  unfold fnX6_readPerson
  rw [lk_2_0, t_gi, hR.1.2.2.2.2.2, t_brT (show nI (w 4) < (8 : Int32) from nI_lt (b := 8) h4 (by omega)), t_bnd]
  refine t_mono (adv6C hn hc) ?_
  rintro _ μ1 ⟨c1, f1⟩
  have S0 : Pe6 tp n w σ false false (fun _ => none) μ μ := ⟨hc, rhx_0 hR, fun j x _ z => (by cases z), frPe_rf μ⟩
  have S1 : Pe6 tp n w (adS tp n σ) false false (fun _ => none) μ μ1 := pe6_g S0 c1 f1
  rw [t_bnd]
  refine t_mono (pair6C (lo := 1) (hb := 10) hn 9 (by omega) (hiN (k := 9) (by omega)) (by omega) S1.1) ?_
  rintro x μ2 ⟨rfl, c2, f2⟩
  have S2 : Pe6 tp n w (p1 tp n σ) false false (fun _ => none) μ μ2 := pe6_g S1 c2 f2
  rw [lk_3_13, t_sai (by omega)]
  have S3 : Pe6 tp n w (p1 tp n σ) false false (fun i => if i = 0 then some (nI (pS tp n σ)) else none) μ (u2 μ2.1 9 (w 4) (nI (pS tp n σ)), μ2.2) := pe6_w S2 (j := 0) (by omega)
  show T _ (u2 μ2.1 9 (w 4) (nI (pS tp n σ)), μ2.2) _
  revert S3
  generalize (u2 μ2.1 9 (w 4) (nI (pS tp n σ)), μ2.2) = μ3
  intro S3
  rw [t_bnd]
  refine t_mono (pair6C (lo := 1) (hb := 4) hn 10 (by omega) (hiN (k := 3) (by omega)) (by omega) S3.1) ?_
  rintro x μ4 ⟨rfl, c4, f4⟩
  have S4 : Pe6 tp n w (p2 tp n σ) false false _ μ μ4 := pe6_g S3 c4 f4
  rw [lk_3_14, t_sai (by omega)]
  have S5 : Pe6 tp n w (p2 tp n σ) false false (fun i => if i = 1 then some (nI (pW tp n σ)) else if i = 0 then some (nI (pS tp n σ)) else none) μ (u2 μ4.1 10 (w 4) (nI (pW tp n σ)), μ4.2) := pe6_w S4 (j := 1) (by omega)
  show T _ (u2 μ4.1 10 (w 4) (nI (pW tp n σ)), μ4.2) _
  revert S5
  generalize (u2 μ4.1 10 (w 4) (nI (pW tp n σ)), μ4.2) = μ5
  intro S5
  rw [t_bnd]
  refine t_mono (pair6C (lo := 0) (hb := 100) hn 11 (by omega) (hiN (k := 99) (by omega)) (by omega) S5.1) ?_
  rintro x μ6 ⟨rfl, c6, f6⟩
  have S6 : Pe6 tp n w (p3 tp n σ) false false _ μ μ6 := pe6_g S5 c6 f6
  rw [lk_3_15, t_sai (by omega)]
  have S7 : Pe6 tp n w (p3 tp n σ) false false (fun i => if i = 2 then some (nI (pV tp n σ)) else if i = 1 then some (nI (pW tp n σ)) else if i = 0 then some (nI (pS tp n σ)) else none) μ (u2 μ6.1 11 (w 4) (nI (pV tp n σ)), μ6.2) := pe6_w S6 (j := 2) (by omega)
  show T _ (u2 μ6.1 11 (w 4) (nI (pV tp n σ)), μ6.2) _
  revert S7
  generalize (u2 μ6.1 11 (w 4) (nI (pV tp n σ)), μ6.2) = μ7
  intro S7
  rw [t_gi, t_bnd]
  refine t_mono (flag6C hn 12 S7.1) ?_
  rintro x μ8 ⟨rfl, c8, f8⟩
  have S8 : Pe6 tp n w (p4 tp n σ) false false _ μ μ8 := pe6_g S7 c8 f8
  rw [← f8.2.1 3 (by omega)]
  cases hM : flS tp n 12 (p3 tp n σ)
  · rw [t_brT (by rfl)]
    exact person101 hn h4 h3 hh rfl rfl rfl (by rw [show pM tp n σ = false from hM]; rfl) S8
  · rw [t_brF (by decide)]
    exact person101 hn h4 h3 hh rfl rfl rfl (by rw [show pM tp n σ = true from hM]; rfl) S8
end
