/-! ===== READING: one step ===== -/
section
variable (tp : Nat → Int32) (n : Nat)
def rfS (c : Nat) (σ : Nat × Option (Nat × Nat)) : Nat × Option (Nat × Nat) := match σ.2 with
  | none => (σ.1, some (c, aSt tp n σ.1))
  | some _ => σ
def adS (σ : Nat × Option (Nat × Nat)) : Nat × Option (Nat × Nat) := (aEn tp n σ.1, σ.2)
def flS (i : Nat) (σ : Nat × Option (Nat × Nat)) : Bool := decide (σ.2 = none) && isW tp n i σ.1
def tkS (i : Nat) (σ : Nat × Option (Nat × Nat)) : Nat × Option (Nat × Nat) := if flS tp n i σ = true then adS tp n σ else σ
def ndS (i : Nat) (σ : Nat × Option (Nat × Nat)) : Nat × Option (Nat × Nat) := if flS tp n i σ = true then adS tp n σ else rfS tp n 1 σ
def nuF (lo hb : Nat) (σ : Nat × Option (Nat × Nat)) : Nat × Option (Nat × Nat) := if aKd tp n σ.1 = 2 then (if lo ≤ aVl tp n σ.1 ∧ aVl tp n σ.1 < hb then σ else rfS tp n 2 σ) else rfS tp n 1 σ
def nuS (lo hb : Nat) (σ : Nat × Option (Nat × Nat)) : Nat × Option (Nat × Nat) := if (nuF tp n lo hb σ).2 = none then adS tp n (nuF tp n lo hb σ) else nuF tp n lo hb σ
def nuV (lo hb : Nat) (σ : Nat × Option (Nat × Nat)) : Nat := if (nuF tp n lo hb σ).2 = none then aVl tp n σ.1 else 0
def prS (i lo hb : Nat) (σ : Nat × Option (Nat × Nat)) : Nat × Option (Nat × Nat) := nuS tp n lo hb (ndS tp n i σ)
def prV (i lo hb : Nat) (σ : Nat × Option (Nat × Nat)) : Nat := nuV tp n lo hb (ndS tp n i σ)
end
theorem rfS_some {tp : Nat → Int32} {n c : Nat} {σ : Nat × Option (Nat × Nat)} (h : σ.2 ≠ none) : rfS tp n c σ = σ := by
  unfold rfS
  split
  · rename_i q
    exact absurd q h
  · rfl
theorem rfS_none {tp : Nat → Int32} {n c : Nat} {σ : Nat × Option (Nat × Nat)} (h : σ.2 = none) : rfS tp n c σ = (σ.1, some (c, aSt tp n σ.1)) := by
  unfold rfS
  rw [h]
theorem nuF_none {tp : Nat → Int32} {n lo hb : Nat} {σ : Nat × Option (Nat × Nat)} (h : (nuF tp n lo hb σ).2 = none) : nuF tp n lo hb σ = σ ∧ aKd tp n σ.1 = 2 ∧ lo ≤ aVl tp n σ.1 ∧ aVl tp n σ.1 < hb ∧ σ.2 = none := by
  have rf : ∀ c, (rfS tp n c σ).2 ≠ none := by
    intro c z
    by_cases q : σ.2 = none
    · rw [rfS_none q] at z
      cases z
    · rw [rfS_some q] at z
      exact q z
  unfold nuF at h ⊢
  by_cases c1 : aKd tp n σ.1 = 2
  · rw [if_pos c1] at h ⊢
    by_cases c2 : lo ≤ aVl tp n σ.1 ∧ aVl tp n σ.1 < hb
    · rw [if_pos c2] at h ⊢
      exact ⟨rfl, c1, c2.1, c2.2, h⟩
    · rw [if_neg c2] at h
      exact absurd h (rf 2)
  · rw [if_neg c1] at h
    exact absurd h (rf 1)
theorem nuV_lt {tp : Nat → Int32} {n lo hb : Nat} {σ : Nat × Option (Nat × Nat)} (h : (nuS tp n lo hb σ).2 = none) : lo ≤ nuV tp n lo hb σ ∧ nuV tp n lo hb σ < hb ∧ σ.2 = none ∧ (nuS tp n lo hb σ).1 = aEn tp n σ.1 ∧ nuV tp n lo hb σ = aVl tp n σ.1 := by
  have h0 : (nuF tp n lo hb σ).2 = none := by
    unfold nuS at h
    split at h
    · rename_i q
      exact q
    · exact h
  obtain ⟨a, b, c, d, e⟩ := nuF_none h0
  unfold nuV nuS
  rw [if_pos h0, if_pos h0, a]
  exact ⟨c, d, e, rfl, rfl⟩
theorem ndS_none {tp : Nat → Int32} {n i : Nat} {σ : Nat × Option (Nat × Nat)} (h : (ndS tp n i σ).2 = none) : σ.2 = none ∧ (ndS tp n i σ).1 = aEn tp n σ.1 ∧ isW tp n i σ.1 = true := by
  unfold ndS at h ⊢
  by_cases c : flS tp n i σ = true
  · rw [if_pos c] at h ⊢
    unfold flS at c
    simp only [Bool.and_eq_true, decide_eq_true_eq] at c
    exact ⟨c.1, rfl, c.2⟩
  · rw [if_neg c] at h
    by_cases q : σ.2 = none
    · rw [rfS_none q] at h
      cases h
    · rw [rfS_some q] at h
      exact absurd h q
/-! the component's -/
def FL6 (f : Option (Nat × Nat)) (μ : sm_Mem) : Prop := match f with
  | none => μ.1 2 1 = 0 ∧ μ.1 2 2 = -1
  | some c => μ.1 2 1 = nI c.1 ∧ μ.1 2 2 = nI c.2 ∧ 1 ≤ c.1 ∧ c.1 ≤ 3 ∧ c.2 ≤ 1600
theorem fl6_0 {f : Option (Nat × Nat)} {μ : sm_Mem} (h : FL6 f μ) : μ.1 2 1 = 0 ↔ f = none := by
  cases f with
  | none => exact ⟨fun _ => rfl, fun _ => h.1⟩
  | some c =>
    obtain ⟨h1, h2, h3, h4, h5⟩ := h
    rw [h1]
    constructor
    · intro z
      have := (nI_eq (b := 0) (by omega) (by omega)).mp z
      omega
    · intro z
      cases z
def C6 (tp : Nat → Int32) (n : Nat) (σ : Nat × Option (Nat × Nat)) (μ : sm_Mem) : Prop := Tap6 tp n μ ∧ σ.1 ≤ n ∧ AdK tp n σ.1 μ ∧ FL6 σ.2 μ
def FrG (μ0 μ : sm_Mem) : Prop := (∀ k, (k = 0 ∨ k = 3 ∨ k = 4 ∨ 9 ≤ k) → μ.1 2 k = μ0.1 2 k) ∧ (∀ a, a ≠ 2 → μ.1 a = μ0.1 a) ∧ μ.2 = μ0.2
theorem frG_rf (μ : sm_Mem) : FrG μ μ := ⟨fun _ _ => rfl, fun _ _ => rfl, rfl⟩
theorem frG_tr {μ μ1 μ2 : sm_Mem} (h : FrG μ μ1) (h' : FrG μ1 μ2) : FrG μ μ2 := ⟨fun k q => (h'.1 k q).trans (h.1 k q), fun a q => (h'.2.1 a q).trans (h.2.1 a q), h'.2.2.trans h.2.2⟩
theorem frK_G {μ μ1 : sm_Mem} (h : FrK μ μ1) : FrG μ μ1 := ⟨fun k q => h.1 k (by omega), h.2.1, h.2.2⟩
theorem fl6_K {f : Option (Nat × Nat)} {μ μ1 : sm_Mem} (h : FrK μ μ1) (H : FL6 f μ) : FL6 f μ1 := by
  cases f with
  | none => exact ⟨by rw [h.1 1 (by omega)]; exact H.1, by rw [h.1 2 (by omega)]; exact H.2⟩
  | some c => exact ⟨by rw [h.1 1 (by omega)]; exact H.1, by rw [h.1 2 (by omega)]; exact H.2.1, H.2.2⟩
section
variable {tp : Nat → Int32} {n : Nat} {σ : Nat × Option (Nat × Nat)} {μ : sm_Mem}
theorem adv6C (hn : n ≤ 1600) (h : C6 tp n σ μ) : T (fnX6_advance 2) μ (fun _ μ' => C6 tp n (adS tp n σ) μ' ∧ FrG μ μ') := by
  have hl := adv_le (tp := tp) h.2.1
  refine t_mono (adv6_T hn hl.2.2.1 h.1 h.2.2.1.2.1) ?_
  rintro _ μ1 ⟨a1, a2⟩
  exact ⟨⟨tap6_fr a2 h.1, hl.2.2.1, a1, fl6_K a2 h.2.2.2⟩, frK_G a2⟩
theorem ref6C (hn : n ≤ 1600) {c : Nat} (hc : 1 ≤ c) (hc3 : c ≤ 3) (h : C6 tp n σ μ) : T (fnX6_refuse 2 (nI c)) μ (fun _ μ' => C6 tp n (rfS tp n c σ) μ' ∧ FrG μ μ') := by
  obtain ⟨h1, h2, h3, h4⟩ := id h
  have hl := adv_le (tp := tp) h2
  unfold fnX6_refuse
  rw [t_gi]
  by_cases q : σ.2 = none
  · rw [t_brT ((fl6_0 h4).mpr q), t_si, t_gi, show (u2 μ.1 2 1 (nI c), μ.2).1 2 5 = nI (aSt tp n σ.1) by rw [← h3.1]; simp (disch := omega) only [u2_ne, u2_a, u2_k, u2_at], t_si, t_ret, rfS_none q]
    refine ⟨⟨⟨h1.1, ?_, ?_⟩, h2, ⟨?_, ?_, ?_, ?_⟩, ?_⟩, ?_, ?_, rfl⟩
    · rw [← h1.2.1]
      simp (disch := omega) only [u2_ne, u2_a, u2_k, u2_at]
    · intro k hk
      rw [← h1.2.2 k hk]
      simp (disch := omega) only [u2_ne, u2_a, u2_k, u2_at]
    · rw [← h3.1]
      simp (disch := omega) only [u2_ne, u2_a, u2_k, u2_at]
    · rw [← h3.2.1]
      simp (disch := omega) only [u2_ne, u2_a, u2_k, u2_at]
    · rw [← h3.2.2.1]
      simp (disch := omega) only [u2_ne, u2_a, u2_k, u2_at]
    · intro z
      rw [← h3.2.2.2 z]
      simp (disch := omega) only [u2_ne, u2_a, u2_k, u2_at]
    · refine ⟨?_, ?_, hc, hc3, ?_⟩
      · show u2 (u2 μ.1 2 1 (nI c)) 2 2 (nI (aSt tp n σ.1)) 2 1 = nI c
        simp (disch := omega) only [u2_ne, u2_a, u2_k, u2_at]
      · show u2 (u2 μ.1 2 1 (nI c)) 2 2 (nI (aSt tp n σ.1)) 2 2 = nI (aSt tp n σ.1)
        simp (disch := omega) only [u2_ne, u2_a, u2_k, u2_at]
      · show aSt tp n σ.1 ≤ 1600
        omega
    · intro k hk
      show u2 (u2 μ.1 2 1 (nI c)) 2 2 (nI (aSt tp n σ.1)) 2 k = _
      rw [u2_k (by omega), u2_k (by omega)]
    · intro a ha
      show u2 (u2 μ.1 2 1 (nI c)) 2 2 (nI (aSt tp n σ.1)) a = _
      rw [u2_ne ha, u2_ne ha]
  · rw [t_brF (fun z => q ((fl6_0 h4).mp z)), t_ret, rfS_some q]
    exact ⟨h, frG_rf μ⟩
theorem flag6C (hn : n ≤ 1600) (i : Nat) (h : C6 tp n σ μ) : T (fnX6_readFlag 2 i) μ (fun x μ' => x = flS tp n i σ ∧ C6 tp n (tkS tp n i σ) μ' ∧ FrG μ μ') := by
  obtain ⟨h1, h2, h3, h4⟩ := id h
  unfold fnX6_readFlag tkS flS
  rw [t_gi]
  by_cases q : σ.2 = none
  · rw [t_brT ((fl6_0 h4).mpr q), t_bnd, t_eq (word6 hn h2 h1 h3), decide_eq_true q, Bool.true_and]
    cases hw : isW tp n i σ.1
    · rw [t_brT (by decide), t_ret, if_neg (by decide)]
      exact ⟨rfl, h, frG_rf μ⟩
    · rw [t_brF (by decide), t_bnd, if_pos rfl]
      refine t_mono (adv6C hn h) ?_
      rintro _ μ1 ⟨a1, a2⟩
      rw [t_ret]
      exact ⟨rfl, a1, a2⟩
  · rw [t_brF (fun z => q ((fl6_0 h4).mp z)), t_ret, decide_eq_false q, Bool.false_and, if_neg (by decide)]
    exact ⟨rfl, h, frG_rf μ⟩
theorem num6C (hn : n ≤ 1600) {lo hb : Nat} {hi : Int32} (hlo : lo ≤ 9) (hh : ∀ v, v ≤ 1000 → (nI v ≤ hi ↔ v < hb)) (hb9 : hb ≤ 1000) (h : C6 tp n σ μ) : T (fnX6_readNumber 2 (nI lo) hi) μ (fun x μ' => x = nI (nuV tp n lo hb σ) ∧ C6 tp n (nuS tp n lo hb σ) μ' ∧ FrG μ μ') := by
  obtain ⟨h1, h2, h3, h4⟩ := id h
  have hl := adv_le (tp := tp) h2
  have fin : ∀ (v : Int32) (μ1 : sm_Mem), ((nuF tp n lo hb σ).2 = none → v = nI (aVl tp n σ.1)) → C6 tp n (nuF tp n lo hb σ) μ1 → FrG μ μ1 → T (fnX6_readNumber_J36 2 v) μ1 (fun x μ' => x = nI (nuV tp n lo hb σ) ∧ C6 tp n (nuS tp n lo hb σ) μ' ∧ FrG μ μ') := by
    intro v μ1 hv hc hf
    unfold fnX6_readNumber_J36 nuV nuS
    rw [t_gi]
    by_cases q : (nuF tp n lo hb σ).2 = none
    · rw [t_brT ((fl6_0 hc.2.2.2).mpr q), if_pos q, if_pos q, t_bnd]
      refine t_mono (adv6C hn hc) ?_
      rintro _ μ2 ⟨a1, a2⟩
      rw [t_ret]
      exact ⟨hv q, a1, frG_tr hf a2⟩
    · rw [t_brF (fun z => q ((fl6_0 hc.2.2.2).mp z)), t_ret, if_neg q, if_neg q]
      exact ⟨rfl, hc, hf⟩
  unfold fnX6_readNumber
  rw [t_gi, t_gi, h3.2.2.1]
  by_cases c1 : aKd tp n σ.1 = 2
  · have h8 := h3.2.2.2 c1
    have bad : ¬ (lo ≤ aVl tp n σ.1 ∧ aVl tp n σ.1 < hb) → T (fnX6_readNumber_J31 2 (nI (min 1000 (aVl tp n σ.1)))) μ (fun x μ' => x = nI (nuV tp n lo hb σ) ∧ C6 tp n (nuS tp n lo hb σ) μ' ∧ FrG μ μ') := by
      intro hbad
      have e : nuF tp n lo hb σ = rfS tp n 2 σ := by
        unfold nuF
        rw [if_pos c1, if_neg hbad]
      unfold fnX6_readNumber_J31
      rw [li_2, t_bnd]
      refine t_mono (ref6C hn (by omega) (by omega) h) ?_
      rintro _ μ1 ⟨a1, a2⟩
      rw [← e] at a1
      refine fin _ μ1 (fun z => ?_) a1 a2
      obtain ⟨-, -, b1, b2, -⟩ := nuF_none z
      exact absurd ⟨b1, b2⟩ hbad
    rw [t_brT (by rw [c1]; rfl), h8]
    by_cases c2 : min 1000 (aVl tp n σ.1) < lo
    · rw [t_brT (nI_lt c2 (by omega))]
      exact bad (by omega)
    · rw [t_brF (nI_nlt (by omega) (by omega))]
      have hq := hh (min 1000 (aVl tp n σ.1)) (by omega)
      by_cases c3 : min 1000 (aVl tp n σ.1) < hb
      · have e : nuF tp n lo hb σ = σ := by
          unfold nuF
          rw [if_pos c1, if_pos (by omega)]
        rw [t_brT (hq.mpr c3)]
        refine fin _ μ (fun _ => ?_) (by rw [e]; exact h) (frG_rf μ)
        congr 1
        omega
      · rw [t_brF (fun z => c3 (hq.mp z))]
        exact bad (by omega)
  · have e : nuF tp n lo hb σ = rfS tp n 1 σ := by
      unfold nuF
      rw [if_neg c1]
    rw [t_brF (show ¬ nI (aKd tp n σ.1) = (2 : Int32) from fun z => c1 ((nI_eq (b := 2) (by omega) (by omega)).mp z)), li_1, t_bnd]
    refine t_mono (ref6C hn (by omega) (by omega) h) ?_
    rintro _ μ1 ⟨a1, a2⟩
    rw [← e] at a1
    refine fin _ μ1 (fun z => ?_) a1 a2
    exact absurd (nuF_none z).2.1 c1
theorem pair6C (hn : n ≤ 1600) (i : Nat) {lo hb : Nat} {hi : Int32} (hlo : lo ≤ 9) (hh : ∀ v, v ≤ 1000 → (nI v ≤ hi ↔ v < hb)) (hb9 : hb ≤ 1000) (h : C6 tp n σ μ) : T (fnX6_readPair 2 i (nI lo) hi) μ (fun x μ' => x = nI (prV tp n i lo hb σ) ∧ C6 tp n (prS tp n i lo hb σ) μ' ∧ FrG μ μ') := by
  have fin : ∀ μ1, C6 tp n (ndS tp n i σ) μ1 → FrG μ μ1 → T (fnX6_readPair_J13 2 (nI lo) hi) μ1 (fun x μ' => x = nI (prV tp n i lo hb σ) ∧ C6 tp n (prS tp n i lo hb σ) μ' ∧ FrG μ μ') := by
    intro μ1 hc hf
    unfold fnX6_readPair_J13
    rw [t_bnd]
    refine t_mono (num6C hn hlo hh hb9 hc) ?_
    rintro x μ2 ⟨a1, a2, a3⟩
    rw [t_ret]
    exact ⟨a1, a2, frG_tr hf a3⟩
  unfold fnX6_readPair
  rw [t_bnd]
  refine t_mono (flag6C hn i h) ?_
  rintro x μ1 ⟨rfl, a2, a3⟩
  unfold tkS at a2
  cases q : flS tp n i σ
  · rw [q, if_neg (by decide)] at a2
    rw [t_brT (by decide), li_1, t_bnd]
    refine t_mono (ref6C hn (by omega) (by omega) a2) ?_
    rintro _ μ2 ⟨b1, b2⟩
    refine fin μ2 ?_ (frG_tr a3 b2)
    unfold ndS
    rw [q, if_neg (by decide)]
    exact b1
  · rw [q, if_pos rfl] at a2
    rw [t_brF (by decide)]
    refine fin μ1 ?_ a3
    unfold ndS
    rw [q, if_pos rfl]
    exact a2
end
