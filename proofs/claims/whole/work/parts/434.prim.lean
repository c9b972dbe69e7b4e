/-! ===== READING: one step of the reference ===== -/
def FL12 (f : Option (Nat × Nat)) (μ : sm_Mem) : Prop := match f with
  | none => μ.1 146 12 = 0 ∧ μ.1 146 13 = -1
  | some c => μ.1 146 12 = nI c.1 ∧ μ.1 146 13 = nI c.2 ∧ 1 ≤ c.1 ∧ c.1 ≤ 3 ∧ c.2 ≤ 1600
theorem fl12_0 {f : Option (Nat × Nat)} {μ : sm_Mem} (h : FL12 f μ) : μ.1 146 12 = 0 ↔ f = none := by
  cases f with
  | none => exact ⟨fun _ => rfl, fun _ => h.1⟩
  | some c =>
    obtain ⟨h1, h2, h3, h4, h5⟩ := h
    rw [h1]
    constructor
    · intro z
      have := (nI_eq (b := 0) (by omega) (by omega)).mp z
      omega
    · intro z
      cases z
theorem gd12 {f : Option (Nat × Nat)} {μ : sm_Mem} (h : FL12 f μ) : fnX12_good 146 μ = some (decide (f = none), μ) := by
  rw [good12]
  congr 2
  exact decide_eq_decide.mpr (fl12_0 h)
def C12 (tp : Nat → Int32) (n : Nat) (σ : Nat × Option (Nat × Nat)) (μ : sm_Mem) : Prop := Tap12 tp n μ ∧ σ.1 ≤ n ∧ AdJ tp n σ.1 μ ∧ FL12 σ.2 μ
def FrI (μ0 μ : sm_Mem) : Prop := (∀ k, (k < 8 ∨ 14 ≤ k) → μ.1 146 k = μ0.1 146 k) ∧ (∀ a, a ≠ 146 → μ.1 a = μ0.1 a) ∧ μ.2 = μ0.2
theorem frI_rf (μ : sm_Mem) : FrI μ μ := ⟨fun _ _ => rfl, fun _ _ => rfl, rfl⟩
theorem frI_tr {μ μ1 μ2 : sm_Mem} (h : FrI μ μ1) (h' : FrI μ1 μ2) : FrI μ μ2 := ⟨fun k q => (h'.1 k q).trans (h.1 k q), fun a q => (h'.2.1 a q).trans (h.2.1 a q), h'.2.2.trans h.2.2⟩
theorem frJ_I {μ μ1 : sm_Mem} (h : FrJ μ μ1) : FrI μ μ1 := ⟨fun k q => h.1 k (by omega), h.2.1, h.2.2⟩
theorem fl12_J {f : Option (Nat × Nat)} {μ μ1 : sm_Mem} (h : FrJ μ μ1) (H : FL12 f μ) : FL12 f μ1 := by
  cases f with
  | none => exact ⟨by rw [h.1 12 (by omega)]; exact H.1, by rw [h.1 13 (by omega)]; exact H.2⟩
  | some c => exact ⟨by rw [h.1 12 (by omega)]; exact H.1, by rw [h.1 13 (by omega)]; exact H.2.1, H.2.2⟩
section
variable {tp : Nat → Int32} {n : Nat} {σ : Nat × Option (Nat × Nat)} {μ : sm_Mem}
theorem adv12C (hn : n ≤ 1600) (hB : Byt tp n) (h : C12 tp n σ μ) : T (fnX12_advance 146) μ (fun _ μ' => C12 tp n (adS tp n σ) μ' ∧ FrI μ μ') := by
  have hl := adv_le (tp := tp) h.2.1
  refine t_mono (adv12_T hn hB hl.2.2.1 h.1 h.2.2.1.2.1) ?_
  rintro _ μ1 ⟨a1, a2⟩
  exact ⟨⟨tap12_fr a2 h.1, hl.2.2.1, a1, fl12_J a2 h.2.2.2⟩, frJ_I a2⟩
theorem ref12C (hn : n ≤ 1600) {c : Nat} (hc : 1 ≤ c) (hc3 : c ≤ 3) (h : C12 tp n σ μ) : T (fnX12_errs 146 (nI c)) μ (fun _ μ' => C12 tp n (rfS tp n c σ) μ' ∧ FrI μ μ') := by
  obtain ⟨h1, h2, h3, h4⟩ := id h
  have hl := adv_le (tp := tp) h2
  unfold fnX12_errs
  rw [t_bnd, t_eq (gd12 h4)]
  by_cases q : σ.2 = none
  · rw [decide_eq_true q, t_brF (by decide), t_si, t_gi, show (u2 μ.1 146 12 (nI c), μ.2).1 146 9 = nI (aSt tp n σ.1) by rw [← h3.1]; simp (disch := omega) only [u2_ne, u2_a, u2_k, u2_at], t_si, t_ret, rfS_none q]
    refine ⟨⟨⟨?_, ?_⟩, h2, ⟨?_, ?_, ?_, ?_⟩, ?_⟩, ?_, ?_, rfl⟩
    · rw [← h1.1]
      simp (disch := omega) only [u2_ne, u2_a, u2_k, u2_at]
    · intro k hk
      rw [← h1.2 k hk]
      simp (disch := omega) only [u2_ne, u2_a, u2_k, u2_at]
    · rw [← h3.1]
      simp (disch := omega) only [u2_ne, u2_a, u2_k, u2_at]
    · rw [← h3.2.1]
      simp (disch := omega) only [u2_ne, u2_a, u2_k, u2_at]
    · rw [← h3.2.2.1]
      simp (disch := omega) only [u2_ne, u2_a, u2_k, u2_at]
    · intro z
      rw [← h3.2.2.2 z]
      simp (disch := omega) only [u2_ne, u2_a, u2_k, u2_at]
    · refine ⟨?_, ?_, hc, hc3, ?_⟩
      · show u2 (u2 μ.1 146 12 (nI c)) 146 13 (nI (aSt tp n σ.1)) 146 12 = nI c
        simp (disch := omega) only [u2_ne, u2_a, u2_k, u2_at]
      · show u2 (u2 μ.1 146 12 (nI c)) 146 13 (nI (aSt tp n σ.1)) 146 13 = nI (aSt tp n σ.1)
        simp (disch := omega) only [u2_ne, u2_a, u2_k, u2_at]
      · show aSt tp n σ.1 ≤ 1600
        omega
    · intro k hk
      show u2 (u2 μ.1 146 12 (nI c)) 146 13 (nI (aSt tp n σ.1)) 146 k = _
      rw [u2_k (by omega), u2_k (by omega)]
    · intro a ha
      show u2 (u2 μ.1 146 12 (nI c)) 146 13 (nI (aSt tp n σ.1)) a = _
      rw [u2_ne ha, u2_ne ha]
  · rw [decide_eq_false q, t_brT (by decide), t_ret, rfS_some q]
    exact ⟨h, frI_rf μ⟩
theorem is12C (hn : n ≤ 1600) (i : Nat) (h : C12 tp n σ μ) : fnX12_is 146 i μ = some (flS tp n i σ, μ) := by
  rw [word12 hn h.2.1 h.1 h.2.2.1]
  unfold flS
  congr 3
  exact decide_eq_decide.mpr (fl12_0 h.2.2.2)
theorem take12C (hn : n ≤ 1600) (hB : Byt tp n) (i : Nat) (h : C12 tp n σ μ) : T (fnX12_takes 146 i) μ (fun x μ' => x = flS tp n i σ ∧ C12 tp n (tkS tp n i σ) μ' ∧ FrI μ μ') := by
  unfold fnX12_takes tkS
  rw [t_bnd, t_eq (is12C hn i h)]
  cases q : flS tp n i σ
  · rw [t_brT (by decide), t_ret, if_neg (by decide)]
    exact ⟨rfl, h, frI_rf μ⟩
  · rw [t_brF (by decide), t_bnd, if_pos rfl]
    refine t_mono (adv12C hn hB h) ?_
    rintro _ μ1 ⟨a1, a2⟩
    rw [t_ret]
    exact ⟨rfl, a1, a2⟩
theorem need12C (hn : n ≤ 1600) (hB : Byt tp n) (i : Nat) (h : C12 tp n σ μ) : T (fnX12_needs 146 i) μ (fun _ μ' => C12 tp n (ndS tp n i σ) μ' ∧ FrI μ μ') := by
  unfold fnX12_needs ndS
  rw [t_bnd]
  refine t_mono (take12C hn hB i h) ?_
  rintro x μ1 ⟨rfl, a2, a3⟩
  unfold tkS at a2
  cases q : flS tp n i σ
  · rw [q, if_neg (by decide)] at a2
    rw [t_brT (by decide), li_1, t_bnd, if_neg (by decide)]
    refine t_mono (ref12C hn (by omega) (by omega) a2) ?_
    rintro _ μ2 ⟨b1, b2⟩
    rw [t_ret]
    exact ⟨b1, frI_tr a3 b2⟩
  · rw [q, if_pos rfl] at a2
    rw [t_brF (by decide), t_ret, if_pos rfl]
    exact ⟨a2, a3⟩
theorem num12C (hn : n ≤ 1600) (hB : Byt tp n) {lo hb : Nat} {hi : Int32} (hlo : lo ≤ 9) (hh : hi.toInt = (hb : Int) - 1) (hb9 : hb ≤ 1000) (h : C12 tp n σ μ) : T (fnX12_number 146 (nI lo) hi) μ (fun x μ' => x = nI (nuV tp n lo hb σ) ∧ C12 tp n (nuS tp n lo hb σ) μ' ∧ FrI μ μ') := by
  obtain ⟨h1, h2, h3, h4⟩ := id h
  have hl := adv_le (tp := tp) h2
  have fin : ∀ (μ1 : sm_Mem), C12 tp n (nuF tp n lo hb σ) μ1 → FrI μ μ1 → T (fnX12_number_J47 146) μ1 (fun x μ' => x = nI (nuV tp n lo hb σ) ∧ C12 tp n (nuS tp n lo hb σ) μ' ∧ FrI μ μ') := by
    intro μ1 hc hf
    unfold fnX12_number_J47 nuV nuS
    rw [t_bnd, t_eq (gd12 hc.2.2.2)]
    by_cases q : (nuF tp n lo hb σ).2 = none
    · obtain ⟨e, e2, e3, e4, e5⟩ := nuF_none q
      have h11 := hc.2.2.1.2.2.2
      rw [e] at h11
      rw [decide_eq_true q, t_brF (by decide), if_pos q, if_pos q, t_gi, h11 e2, t_bnd]
      refine t_mono (adv12C hn hB hc) ?_
      rintro _ μ2 ⟨a1, a2⟩
      rw [t_ret]
      refine ⟨?_, a1, frI_tr hf a2⟩
      congr 1
      omega
    · rw [decide_eq_false q, t_brT (by decide), t_ret, if_neg q, if_neg q]
      exact ⟨rfl, hc, hf⟩
  have j20 : ∀ (μ1 : sm_Mem) (σ1 : Nat × Option (Nat × Nat)), C12 tp n σ1 μ1 → FrI μ μ1 → (σ1.2 = none → σ1 = σ ∧ aKd tp n σ.1 = 2) → (σ1.2 ≠ none → nuF tp n lo hb σ = σ1) → T (fnX12_number_J20 146 (nI lo) hi) μ1 (fun x μ' => x = nI (nuV tp n lo hb σ) ∧ C12 tp n (nuS tp n lo hb σ) μ' ∧ FrI μ μ') := by
    intro μ1 σ1 hc hf z1 z2
    unfold fnX12_number_J20
    rw [t_bnd, t_eq (gd12 hc.2.2.2)]
    by_cases q : σ1.2 = none
    · obtain ⟨rfl, ek⟩ := z1 q
      have h11 := hc.2.2.1.2.2.2 ek
      rw [decide_eq_true q, t_brF (by decide), t_gi, h11, t_bnd, t_eq (in_eq _ _ _ _), Int32.toInt_toInt64, Int32.toInt_toInt64, hh, nI_toInt (by omega)]
      have er : rg (nI (min 99999 (aVl tp n σ1.1))) (lo : Int) ((hb : Int) - 1) = decide (lo ≤ aVl tp n σ1.1 ∧ aVl tp n σ1.1 < hb) := by
        unfold rg
        rw [nI_toInt (by omega)]
        apply decide_eq_decide.mpr
        omega
      rw [er]
      by_cases c : lo ≤ aVl tp n σ1.1 ∧ aVl tp n σ1.1 < hb
      · have e : nuF tp n lo hb σ1 = σ1 := by
          unfold nuF
          rw [if_pos ek, if_pos c]
        rw [decide_eq_true c, t_brF (by decide)]
        exact fin μ1 (by rw [e]; exact hc) hf
      · have e : nuF tp n lo hb σ1 = rfS tp n 2 σ1 := by
          unfold nuF
          rw [if_pos ek, if_neg c]
        rw [decide_eq_false c, t_brT (by decide), li_2, t_bnd]
        refine t_mono (ref12C hn (by omega) (by omega) hc) ?_
        rintro _ μ2 ⟨b1, b2⟩
        exact fin μ2 (by rw [e]; exact b1) (frI_tr hf b2)
    · rw [decide_eq_false q, t_brT (by decide)]
      exact fin μ1 (by rw [z2 q]; exact hc) hf
  have some_eq : σ.2 ≠ none → nuF tp n lo hb σ = σ := by
    intro q
    unfold nuF
    rw [rfS_some q, rfS_some q]
    split
    · split <;> rfl
    · rfl
  unfold fnX12_number
  rw [t_bnd, t_eq (gd12 h4)]
  by_cases q : σ.2 = none
  · rw [decide_eq_true q, t_brF (by decide), t_gi, h3.2.2.1]
    by_cases c1 : aKd tp n σ.1 = 2
    · rw [t_brT (by rw [c1]; rfl)]
      exact j20 μ σ h (frI_rf μ) (fun _ => ⟨rfl, c1⟩) (fun z => absurd q z)
    · have e : nuF tp n lo hb σ = rfS tp n 1 σ := by
        unfold nuF
        rw [if_neg c1]
      rw [t_brF (show ¬ nI (aKd tp n σ.1) = (2 : Int32) from fun z => c1 ((nI_eq (b := 2) (by omega) (by omega)).mp z)), li_1, t_bnd]
      refine t_mono (ref12C hn (by omega) (by omega) h) ?_
      rintro _ μ1 ⟨a1, a2⟩
      refine j20 μ1 _ a1 a2 (fun z => ?_) (fun _ => e)
      rw [rfS_none q] at z
      cases z
  · rw [decide_eq_false q, t_brT (by decide)]
    exact j20 μ σ h (frI_rf μ) (fun z => absurd z q) (fun _ => some_eq q)
theorem pair12C (hn : n ≤ 1600) (hB : Byt tp n) (i : Nat) {lo hb : Nat} {hi : Int32} (hlo : lo ≤ 9) (hh : hi.toInt = (hb : Int) - 1) (hb9 : hb ≤ 1000) (h : C12 tp n σ μ) : T (fnX12_told 146 i (nI lo) hi) μ (fun x μ' => x = nI (prV tp n i lo hb σ) ∧ C12 tp n (prS tp n i lo hb σ) μ' ∧ FrI μ μ') := by
  unfold fnX12_told
  rw [t_bnd]
  refine t_mono (need12C hn hB i h) ?_
  rintro _ μ1 ⟨a1, a2⟩
  rw [t_bnd]
  refine t_mono (num12C hn hB hlo hh hb9 a1) ?_
  rintro x μ2 ⟨b1, b2, b3⟩
  rw [t_ret]
  exact ⟨b1, b2, frI_tr a2 b3⟩
end
