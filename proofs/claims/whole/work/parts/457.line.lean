/-! ===== READING: a line, the reference: the words ===== -/
section
variable {tp : Nat → Int32} {n : Nat} {w z : Nat → Nat} {σ τ : Nat × Option (Nat × Nat)} {μ0 μ : sm_Mem}
theorem flS_n {i : Nat} (q : σ.2 = none) : flS tp n i σ = isW tp n i σ.1 := by
  unfold flS
  rw [decide_eq_true q, Bool.true_and]
theorem n102_s (hn : n ≤ 1600) (hB : Byt tp n) (hw : LB w) (c3 : w 3 < 24) (q : σ.2 = none) (w3 : isW tp n 3 σ.1 = true) (h : St12 tp n w σ μ0 μ) : T (fnX12_readNext_J102 146) μ (fun _ μ' => Bd12 tp n (s8 tp n w σ) (stW tp n w σ) μ0 μ') := by
  obtain ⟨b1, b2, b3, b4, b5, b8, b0, bxy, bh, b14⟩ := hw
  unfold fnX12_readNext_J102
  rw [t_bnd, t_eq (gd12 h.1.2.2.2), decide_eq_true q, t_brF (by decide), t_bnd]
  refine t_mono (take12C hn hB 3 h.1) ?_
  rintro x μ1 ⟨rfl, c1, f1⟩
  have e : tkS tp n 3 σ = adS tp n σ := by
    unfold tkS
    rw [flS_n q, w3, if_pos rfl]
  rw [e] at c1
  rw [flS_n q, w3, t_brF (by decide), t_bnd]
  refine t_mono (stone12_T hn hB b1 b2 c3 b5 (b14 c3) bxy (st12_g h c1 f1)) ?_
  rintro _ μ2 ⟨z, h1, h2⟩
  rw [t_ret]
  exact ⟨h1.1, fun q2 => wh_cg h1.2.1 (h2 q2), h1.2.2⟩
theorem n102_p (hn : n ≤ 1600) (hB : Byt tp n) (hw : LB w) (c4 : w 4 < 8) (q : σ.2 = none) (w3 : isW tp n 3 σ.1 = false) (w8 : isW tp n 8 σ.1 = true) (h : St12 tp n w σ μ0 μ) : T (fnX12_readNext_J102 146) μ (fun _ μ' => Bd12 tp n (p8 tp n w σ) (peW tp n w σ) μ0 μ') := by
  obtain ⟨b1, b2, b3, b4, b5, b8, b0, bxy, bh, b14⟩ := hw
  unfold fnX12_readNext_J102
  rw [t_bnd, t_eq (gd12 h.1.2.2.2), decide_eq_true q, t_brF (by decide), t_bnd]
  refine t_mono (take12C hn hB 3 h.1) ?_
  rintro x μ1 ⟨rfl, c1, f1⟩
  have e : tkS tp n 3 σ = σ := by
    unfold tkS
    rw [flS_n q, w3, if_neg (by decide)]
  rw [e] at c1
  rw [flS_n q, w3, t_brT (by decide), t_bnd]
  have S1 := st12_g h c1 f1
  refine t_mono (take12C hn hB 8 c1) ?_
  rintro x μ2 ⟨rfl, c2, f2⟩
  have e2 : tkS tp n 8 σ = adS tp n σ := by
    unfold tkS
    rw [flS_n q, w8, if_pos rfl]
  rw [e2] at c2
  rw [flS_n q, w8, t_brF (by decide), t_bnd]
  refine t_mono (person12_T hn hB c4 bh (st12_g S1 c2 f2)) ?_
  rintro _ μ3 ⟨z, h1, h2⟩
  rw [t_ret]
  exact ⟨h1.1, fun q2 => (by rw [← h2 q2]; exact h1.2.1), h1.2.2⟩
theorem n102_l (hn : n ≤ 1600) (hB : Byt tp n) (q : σ.2 = none) (w3 : isW tp n 3 σ.1 = false) (w8 : isW tp n 8 σ.1 = false) (h : St12 tp n w σ μ0 μ) : T (fnX12_readNext_J102 146) μ (fun _ μ' => Bd12 tp n (nuS tp n 1 10 (adS tp n σ)) (plW tp n w σ) μ0 μ') := by
  have e_152 : ln 152 = 241 := rfl
  unfold fnX12_readNext_J102
  rw [t_bnd, t_eq (gd12 h.1.2.2.2), decide_eq_true q, t_brF (by decide), t_bnd]
  refine t_mono (take12C hn hB 3 h.1) ?_
  rintro x μ1 ⟨rfl, c1, f1⟩
  have e : tkS tp n 3 σ = σ := by
    unfold tkS
    rw [flS_n q, w3, if_neg (by decide)]
  rw [e] at c1
  rw [flS_n q, w3, t_brT (by decide), t_bnd]
  have S1 := st12_g h c1 f1
  refine t_mono (take12C hn hB 8 c1) ?_
  rintro x μ2 ⟨rfl, c2, f2⟩
  have e2 : tkS tp n 8 σ = σ := by
    unfold tkS
    rw [flS_n q, w8, if_neg (by decide)]
  rw [e2] at c2
  have S2 := st12_g S1 c2 f2
  rw [flS_n q, w8, t_brT (by decide), t_bnd]
  refine t_mono (adv12C hn hB c2) ?_
  rintro _ μ3 ⟨c3, f3⟩
  have S3 := st12_w (st12_g S2 c3 f3) (i := 8) (v := 1) (eI_lo (by omega))
  rw [lk_146_14, li_8, t_sai (by omega)]
  show T _ (u2 μ3.1 152 8 (nI 1), μ3.2) _
  revert S3
  generalize (u2 μ3.1 152 8 (nI 1), μ3.2) = μ4
  intro S3
  rw [t_bnd]
  refine t_mono (num12C (lo := 1) (hb := 10) hn hB (by omega) (by decide) (by omega) S3.1) ?_
  rintro x μ5 ⟨rfl, c5, f5⟩
  rw [li_6, t_sai (by omega), t_ret]
  exact st_bd (st12_w (st12_g S3 c5 f5) (i := 6) (eI_lo (by omega)))
theorem next12_T (hn : n ≤ 1600) (hB : Byt tp n) (hw : LB w) (c0 : w 0 ≠ 0) (q : σ.2 = none) (h : St12 tp n w σ μ0 μ) : T (fnX12_readNext 146) μ (fun _ μ' => Bd12 tp n (bdS tp n w σ) (bdW tp n w σ) μ0 μ') := by
  have e_152 : ln 152 = 241 := rfl
  obtain ⟨b1, b2, b3, b4, b5, b8, b0, bxy, bh, b14⟩ := id hw
  have W : ∀ i, fnX12_is 146 i μ = some (isW tp n i σ.1, μ) := fun i => by rw [is12C hn i h.1, flS_n q]
  have hs : ∀ c, (rfS tp n c σ).2 ≠ none := by
    intro c
    rw [rfS_none q]
    exact fun z => (by cases z)
  unfold fnX12_readNext
  rw [t_bnd, t_eq (W 3)]
  cases w3 : isW tp n 3 σ.1
  · rw [t_brT (by decide), t_bnd, t_eq (W 8)]
    cases w8 : isW tp n 8 σ.1
    · rw [t_brT (by decide), t_bnd, t_eq (W 15)]
      cases w15 : isW tp n 15 σ.1
      · have e : bdS tp n w σ = rfS tp n 1 σ := by
          unfold bdS
          rw [if_neg c0, w3, w8, w15, if_neg (show ¬ false = true by decide), if_neg (show ¬ false = true by decide), if_neg (show ¬ false = true by decide), ite_self]
        rw [t_brT (by decide), li_1, t_bnd, e]
        refine t_mono (ref12C hn (by omega) (by omega) h.1) ?_
        rintro _ μ1 ⟨c1, f1⟩
        exact n32_f hn (bd_rf c1 (fr12_tr h.2.2 (frI_12 f1)) (hs 1)) (hs 1)
      · have w0 := isW_ne (wd_sym wd_0_15) w15
        have e : bdS tp n w σ = if w 8 = 0 then nuS tp n 1 10 (adS tp n σ) else rfS tp n 2 σ := by
          unfold bdS
          rw [if_neg c0, w0, w3, w8, w15, if_neg (show ¬ false = true by decide), if_neg (show ¬ false = true by decide), if_neg (show ¬ false = true by decide), if_pos rfl]
        have e2 : bdW tp n w σ = plW tp n w σ := by
          unfold bdW
          rw [if_neg c0, w3, w8, if_neg (show ¬ false = true by decide), if_neg (show ¬ false = true by decide)]
        rw [t_brF (by decide), e, e2]
        unfold fnX12_readNext_J32
        rw [t_bnd, t_eq (W 15), w15, t_brF (by decide), lk_146_14, li_8, t_ai (by omega), w152 h.2.1 (by omega)]
        by_cases c8 : w 8 = 0
        · rw [t_brF (show ¬ nI (w 8) = (1 : Int32) from fun z => (by have := (nI_eq (b := 1) (by omega) (by omega)).mp z; omega)), if_pos c8]
          unfold fnX12_readNext_J57
          rw [t_bnd, t_eq (W 3), w3, t_brT (by decide)]
          unfold fnX12_readNext_J77
          rw [t_bnd, t_eq (W 8), w8, t_brT (by decide)]
          exact n102_l hn hB q w3 w8 h
        · rw [t_brT (by rw [show w 8 = 1 by omega]; rfl), if_neg c8, li_2, t_bnd]
          refine t_mono (ref12C hn (by omega) (by omega) h.1) ?_
          rintro _ μ1 ⟨c1, f1⟩
          exact n57_f hn (bd_rf c1 (fr12_tr h.2.2 (frI_12 f1)) (hs 2)) (hs 2)
    · have w0 := isW_ne (wd_sym wd_0_8) w8
      have w15 := isW_ne wd_8_15 w8
      have e : bdS tp n w σ = if w 4 < 8 then p8 tp n w σ else rfS tp n 3 σ := by
        unfold bdS
        rw [if_neg c0, w0, w3, w8, if_neg (show ¬ false = true by decide), if_neg (show ¬ false = true by decide), if_pos rfl]
      have e2 : bdW tp n w σ = peW tp n w σ := by
        unfold bdW
        rw [if_neg c0, w3, w8, if_neg (show ¬ false = true by decide), if_pos rfl]
      rw [t_brF (by decide), e, e2]
      unfold fnX12_readNext_J32
      rw [t_bnd, t_eq (W 15), w15, t_brT (by decide)]
      unfold fnX12_readNext_J57
      rw [t_bnd, t_eq (W 3), w3, t_brT (by decide)]
      unfold fnX12_readNext_J77
      rw [t_bnd, t_eq (W 8), w8, t_brF (by decide), lk_146_14, li_4, t_ai (by omega), w152 h.2.1 (by omega)]
      by_cases c4 : w 4 < 8
      · rw [t_brF (show ¬ nI (w 4) = (8 : Int32) from fun z => (by have := (nI_eq (b := 8) (by omega) (by omega)).mp z; omega)), if_pos c4]
        exact n102_p hn hB hw c4 q w3 w8 h
      · rw [t_brT (by rw [show w 4 = 8 by omega]; rfl), if_neg c4]
        exact n97_T hn (st_bd h) q
  · have w0 := isW_ne (wd_sym wd_0_3) w3
    have w8 := isW_ne wd_3_8 w3
    have w15 := isW_ne wd_3_15 w3
    have e : bdS tp n w σ = if w 3 < 24 then s8 tp n w σ else rfS tp n 3 σ := by
      unfold bdS
      rw [if_neg c0, w0, w3, if_neg (show ¬ false = true by decide), if_pos rfl]
    have e2 : bdW tp n w σ = stW tp n w σ := by
      unfold bdW
      rw [if_neg c0, w3, if_pos rfl]
    rw [t_brF (by decide), e, e2]
    unfold fnX12_readNext_J32
    rw [t_bnd, t_eq (W 15), w15, t_brT (by decide)]
    unfold fnX12_readNext_J57
    rw [t_bnd, t_eq (W 3), w3, t_brF (by decide), lk_146_14, li_3, t_ai (by omega), w152 h.2.1 (by omega)]
    by_cases c3 : w 3 < 24
    · rw [t_brF (show ¬ nI (w 3) = (24 : Int32) from fun z => (by have := (nI_eq (b := 24) (by omega) (by omega)).mp z; omega)), if_pos c3]
      unfold fnX12_readNext_J77
      rw [t_bnd, t_eq (W 8), w8, t_brT (by decide)]
      exact n102_s hn hB hw c3 q w3 h
    · rw [t_brT (by rw [show w 3 = 24 by omega]; rfl), if_neg c3]
      exact n97_T hn (st_bd h) q
theorem line12_T (hn : n ≤ 1600) (hB : Byt tp n) (hw : LB w) (q : σ.2 = none) (h : St12 tp n w σ μ0 μ) : T (fnX12_readLine 146) μ (fun _ μ' => Bd12 tp n (lnS tp n (bdS tp n w σ)) (up (bdW tp n w σ) 0 (bdW tp n w σ 0 + 1)) μ0 μ') := by
  have e_152 : ln 152 = 241 := rfl
  have b0 := hw.2.2.2.2.2.2.1
  unfold fnX12_readLine
  rw [lk_146_14]
  by_cases c0 : w 0 = 0
  · have x0 : μ.1 152 0 = 0 := by
      rw [w152 h.2.1 (by omega), c0]
      rfl
    refine (t_ai (r := 152) (k := 0) (by omega)).mpr ?_
    rw [x0, t_brT rfl, t_bnd]
    refine t_mono (need12C hn hB 0 h.1) ?_
    rintro _ μ1 ⟨c1, f1⟩
    have S1 := st12_g h c1 f1
    rw [t_bnd]
    refine t_mono (pair12C (lo := 2) (hb := 13) hn hB 1 (by omega) (by decide) (by omega) S1.1) ?_
    rintro x μ2 ⟨rfl, c2, f2⟩
    have S2 := st12_w (st12_g S1 c2 f2) (i := 1) (v := prV tp n 1 2 13 (ndS tp n 0 σ)) (eI_lo (by omega))
    refine (t_sai (r := 152) (k := 1) (by omega)).mpr ?_
    show T _ (u2 μ2.1 152 1 (nI (prV tp n 1 2 13 (ndS tp n 0 σ))), μ2.2) _
    revert S2
    generalize (u2 μ2.1 152 1 (nI (prV tp n 1 2 13 (ndS tp n 0 σ))), μ2.2) = μ3
    intro S2
    rw [t_bnd]
    refine t_mono (pair12C (lo := 1) (hb := 21) hn hB 2 (by omega) (by decide) (by omega) S2.1) ?_
    rintro x μ4 ⟨rfl, c4, f4⟩
    have S4 := st12_w (st12_g S2 c4 f4) (i := 2) (v := prV tp n 2 1 21 (prS tp n 1 2 13 (ndS tp n 0 σ))) (eI_lo (by omega))
    refine (t_sai (r := 152) (k := 2) (by omega)).mpr ?_
    show T _ (u2 μ4.1 152 2 (nI (prV tp n 2 1 21 (prS tp n 1 2 13 (ndS tp n 0 σ)))), μ4.2) _
    revert S4
    generalize (u2 μ4.1 152 2 (nI (prV tp n 2 1 21 (prS tp n 1 2 13 (ndS tp n 0 σ)))), μ4.2) = μ5
    intro S4
    have e2 : bdW tp n w σ = waW tp n w σ := by
      unfold bdW
      rw [if_pos c0]
    refine line52_12 hn hB ?_
    rw [e2]
    cases w0 : isW tp n 0 σ.1
    · have e : bdS tp n w σ = rfS tp n 1 σ := by
        unfold bdS
        rw [if_pos c0, w0, if_neg (by decide)]
      have hs : (rfS tp n 1 σ).2 ≠ none := by
        rw [rfS_none q]
        exact fun z => (by cases z)
      have en : ndS tp n 0 σ = rfS tp n 1 σ := by
        unfold ndS
        rw [flS_n q, w0, if_neg (by decide)]
      rw [en, (pr_some hs).1, (pr_some hs).1] at S4
      rw [e]
      exact bd_rf S4.1 S4.2.2 hs
    · have e : bdS tp n w σ = waS tp n σ := by
        unfold bdS
        rw [if_pos c0, w0, if_pos rfl]
      have en : ndS tp n 0 σ = adS tp n σ := by
        unfold ndS
        rw [flS_n q, w0, if_pos rfl]
      rw [en] at S4
      rw [e]
      exact st_bd S4
  · have x0 : μ.1 152 0 = nI (w 0) := w152 h.2.1 (by omega)
    refine (t_ai (r := 152) (k := 0) (by omega)).mpr ?_
    rw [x0, t_brF (show ¬ nI (w 0) = (0 : Int32) from fun z => c0 ((nI_eq (b := 0) (by omega) (by omega)).mp z)), t_bnd]
    refine t_mono (next12_T hn hB hw c0 q h) ?_
    intro _ μ1 h1
    exact line52_12 hn hB h1
end
