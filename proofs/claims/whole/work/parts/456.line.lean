/-! ===== READING: a line, the reference ===== -/
def Fr12 (μ0 μ : sm_Mem) : Prop := (∀ k, (k < 8 ∨ 14 ≤ k) → μ.1 146 k = μ0.1 146 k) ∧ (∀ a, a ≠ 146 → a ≠ 152 → μ.1 a = μ0.1 a) ∧ μ.2 = μ0.2
theorem fr12_rf (μ : sm_Mem) : Fr12 μ μ := ⟨fun _ _ => rfl, fun _ _ _ => rfl, rfl⟩
theorem fr12_tr {μ μ1 μ2 : sm_Mem} (h : Fr12 μ μ1) (h' : Fr12 μ1 μ2) : Fr12 μ μ2 := ⟨fun k q => (h'.1 k q).trans (h.1 k q), fun a q r => (h'.2.1 a q r).trans (h.2.1 a q r), h'.2.2.trans h.2.2⟩
theorem frI_12 {μ μ1 : sm_Mem} (h : FrI μ μ1) : Fr12 μ μ1 := ⟨h.1, fun a q _ => h.2.1 a q, h.2.2⟩
theorem fr12_w {μ0 μ : sm_Mem} {k : Nat} {x : Int32} (h : Fr12 μ0 μ) : Fr12 μ0 (u2 μ.1 152 k x, μ.2) := by
  refine ⟨fun j q => ?_, fun b q r => ?_, h.2.2⟩
  · show u2 μ.1 152 k x 146 j = _
    rw [u2_ne (show 146 ≠ 152 by omega)]
    exact h.1 j q
  · show u2 μ.1 152 k x b = _
    rw [u2_ne r]
    exact h.2.1 b q r
def Bd12 (tp : Nat → Int32) (n : Nat) (τ : Nat × Option (Nat × Nat)) (z : Nat → Nat) (μ0 μ : sm_Mem) : Prop := C12 tp n τ μ ∧ (τ.2 = none → WH 152 z μ) ∧ Fr12 μ0 μ
section
variable {tp : Nat → Int32} {n : Nat} {w z : Nat → Nat} {σ τ : Nat × Option (Nat × Nat)} {μ0 μ : sm_Mem}
theorem c12_w {k : Nat} {x : Int32} (h : C12 tp n σ μ) : C12 tp n σ (u2 μ.1 152 k x, μ.2) := by
  obtain ⟨⟨t1, t2⟩, c2, ⟨a1, a2, a3, a4⟩, c4⟩ := h
  have e6 : (u2 μ.1 152 k x, μ.2).1 146 = μ.1 146 := by
    show u2 μ.1 152 k x 146 = μ.1 146
    rw [u2_ne (show 146 ≠ 152 by omega)]
  have e0 : (u2 μ.1 152 k x, μ.2).1 150 = μ.1 150 := by
    show u2 μ.1 152 k x 150 = μ.1 150
    rw [u2_ne (show 150 ≠ 152 by omega)]
  refine ⟨⟨by rw [e6]; exact t1, by rw [e0]; exact t2⟩, c2, ⟨by rw [e6]; exact a1, by rw [e6]; exact a2, by rw [e6]; exact a3, by rw [e6]; exact a4⟩, ?_⟩
  revert c4
  unfold FL12
  rw [e6]
  exact id
theorem st_bd (h : St12 tp n z τ μ0 μ) : Bd12 tp n τ z μ0 μ := ⟨h.1, fun _ => h.2.1, h.2.2⟩
theorem bd_st (h : Bd12 tp n τ z μ0 μ) (q : τ.2 = none) : St12 tp n z τ μ0 μ := ⟨h.1, h.2.1 q, h.2.2⟩
theorem bd_rf (h : C12 tp n τ μ) (hf : Fr12 μ0 μ) (q : τ.2 ≠ none) : Bd12 tp n τ z μ0 μ := ⟨h, fun e => absurd e q, hf⟩
theorem line83_12 (h : Bd12 tp n τ z μ0 μ) : T (fnX12_readLine_J83 146) μ (fun _ μ' => Bd12 tp n τ (up z 0 (z 0 + 1)) μ0 μ') := by
  have e_152 : ln 152 = 241 := rfl
  unfold fnX12_readLine_J83
  rw [lk_146_14, li_0, t_ai (by omega), t_sai (by omega), t_ret]
  refine ⟨c12_w h.1, fun q => ?_, fr12_w h.2.2⟩
  refine wh_up (h.2.1 q) ?_
  rw [w152 (h.2.1 q) (by omega), nI_1]
  exact eI_lo (by omega)
theorem line72_12 (hn : n ≤ 1600) (hB : Byt tp n) (h : Bd12 tp n τ z μ0 μ) : T (fnX12_readLine_J72 146) μ (fun _ μ' => Bd12 tp n (if τ.2 = none then adS tp n τ else τ) (up z 0 (z 0 + 1)) μ0 μ') := by
  unfold fnX12_readLine_J72
  rw [t_bnd, t_eq (gd12 h.1.2.2.2)]
  by_cases q : τ.2 = none
  · rw [decide_eq_true q, t_brF (by decide), if_pos q, t_bnd]
    refine t_mono (adv12C hn hB h.1) ?_
    rintro _ μ1 ⟨c1, f1⟩
    exact line83_12 (st_bd (st12_g (bd_st h q) c1 f1))
  · rw [decide_eq_false q, t_brT (by decide), if_neg q]
    exact line83_12 h
theorem line52_12 (hn : n ≤ 1600) (hB : Byt tp n) (h : Bd12 tp n τ z μ0 μ) : T (fnX12_readLine_J52 146) μ (fun _ μ' => Bd12 tp n (lnS tp n τ) (up z 0 (z 0 + 1)) μ0 μ') := by
  have hl := adv_le (tp := tp) h.1.2.1
  unfold fnX12_readLine_J52 lnS
  rw [t_bnd, t_eq (gd12 h.1.2.2.2)]
  by_cases q : τ.2 = none
  · rw [decide_eq_true q, t_brF (by decide), t_gi, h.1.2.2.1.2.2.1, if_pos q]
    by_cases c : aKd tp n τ.1 = 3
    · rw [t_brT (by rw [c]; rfl), if_pos c]
      have := line72_12 hn hB h
      rw [if_pos q] at this
      exact this
    · rw [t_brF (show ¬ nI (aKd tp n τ.1) = (3 : Int32) from fun z => c ((nI_eq (b := 3) (by omega) (by omega)).mp z)), if_neg c, li_1, t_bnd]
      refine t_mono (ref12C hn (by omega) (by omega) h.1) ?_
      rintro _ μ1 ⟨c1, f1⟩
      have hs : (rfS tp n 1 τ).2 ≠ none := by
        rw [rfS_none q]
        exact fun z => (by cases z)
      have := line72_12 hn hB (bd_rf (z := z) c1 (fr12_tr h.2.2 (frI_12 f1)) hs)
      rw [if_neg hs] at this
      exact this
  · rw [decide_eq_false q, t_brT (by decide), if_neg q]
    have := line72_12 hn hB h
    rw [if_neg q] at this
    exact this
/-! where a fault stands nothing more is read -/
theorem n102_f (h : Bd12 tp n τ z μ0 μ) (q : τ.2 ≠ none) : T (fnX12_readNext_J102 146) μ (fun _ μ' => Bd12 tp n τ z μ0 μ') := by
  unfold fnX12_readNext_J102
  rw [t_bnd, t_eq (gd12 h.1.2.2.2), decide_eq_false q, t_brT (by decide), t_ret]
  exact h
theorem flS_f {i : Nat} (q : τ.2 ≠ none) : flS tp n i τ = false := by
  unfold flS
  rw [decide_eq_false q, Bool.false_and]
theorem n77_f (hn : n ≤ 1600) (h : Bd12 tp n τ z μ0 μ) (q : τ.2 ≠ none) : T (fnX12_readNext_J77 146) μ (fun _ μ' => Bd12 tp n τ z μ0 μ') := by
  unfold fnX12_readNext_J77
  rw [t_bnd, t_eq (is12C hn 8 h.1), flS_f q, t_brT (by decide)]
  exact n102_f h q
theorem n57_f (hn : n ≤ 1600) (h : Bd12 tp n τ z μ0 μ) (q : τ.2 ≠ none) : T (fnX12_readNext_J57 146) μ (fun _ μ' => Bd12 tp n τ z μ0 μ') := by
  unfold fnX12_readNext_J57
  rw [t_bnd, t_eq (is12C hn 3 h.1), flS_f q, t_brT (by decide)]
  exact n77_f hn h q
theorem n32_f (hn : n ≤ 1600) (h : Bd12 tp n τ z μ0 μ) (q : τ.2 ≠ none) : T (fnX12_readNext_J32 146) μ (fun _ μ' => Bd12 tp n τ z μ0 μ') := by
  unfold fnX12_readNext_J32
  rw [t_bnd, t_eq (is12C hn 15 h.1), flS_f q, t_brT (by decide)]
  exact n57_f hn h q
theorem n97_T (hn : n ≤ 1600) (h : Bd12 tp n σ w μ0 μ) (q : σ.2 = none) : T (fnX12_readNext_J97 146) μ (fun _ μ' => Bd12 tp n (rfS tp n 3 σ) z μ0 μ') := by
  unfold fnX12_readNext_J97
  have hs : (rfS tp n 3 σ).2 ≠ none := by
    rw [rfS_none q]
    exact fun z => (by cases z)
  rw [li_3, t_bnd]
  refine t_mono (ref12C hn (by omega) (by omega) h.1) ?_
  rintro _ μ1 ⟨c1, f1⟩
  exact n102_f (bd_rf c1 (fr12_tr h.2.2 (frI_12 f1)) hs) hs
/-! the four words -/
theorem isW_ne {i j p : Nat} (hd : wL i ≠ wL j ∨ (wC i 0 ≠ wC j 0 ∧ 0 < wL i ∧ 0 < wL j)) (hi : isW tp n i p = true) : isW tp n j p = false := by
  cases hj : isW tp n j p
  · rfl
  · exfalso
    unfold isW at hi hj
    rw [Bool.and_eq_true, Bool.and_eq_true, decide_eq_true_iff, decide_eq_true_iff] at hi hj
    rcases hd with d | ⟨d, l1, l2⟩
    · exact d (hi.2.1.symm.trans hj.2.1)
    · have h1 := hi.2.2
      have h2 := hj.2.2
      rw [show wL i = (wL i - 1) + 1 by omega] at h1
      rw [show wL j = (wL j - 1) + 1 by omega] at h2
      unfold wEq at h1 h2
      by_cases e1 : tp (aSt tp n p + 0) = wC i 0
      · by_cases e2 : tp (aSt tp n p + 0) = wC j 0
        · exact d (e1.symm.trans e2)
        · rw [if_neg e2] at h2
          cases h2
      · rw [if_neg e1] at h1
        cases h1
theorem wd_0_3 : wL 0 ≠ wL 3 ∨ (wC 0 0 ≠ wC 3 0 ∧ 0 < wL 0 ∧ 0 < wL 3) := by decide
theorem wd_0_8 : wL 0 ≠ wL 8 ∨ (wC 0 0 ≠ wC 8 0 ∧ 0 < wL 0 ∧ 0 < wL 8) := by decide
theorem wd_0_15 : wL 0 ≠ wL 15 ∨ (wC 0 0 ≠ wC 15 0 ∧ 0 < wL 0 ∧ 0 < wL 15) := by decide
theorem wd_3_8 : wL 3 ≠ wL 8 ∨ (wC 3 0 ≠ wC 8 0 ∧ 0 < wL 3 ∧ 0 < wL 8) := by decide
theorem wd_3_15 : wL 3 ≠ wL 15 ∨ (wC 3 0 ≠ wC 15 0 ∧ 0 < wL 3 ∧ 0 < wL 15) := by decide
theorem wd_8_15 : wL 8 ≠ wL 15 ∨ (wC 8 0 ≠ wC 15 0 ∧ 0 < wL 8 ∧ 0 < wL 15) := by decide
theorem wd_sym {i j : Nat} (h : wL i ≠ wL j ∨ (wC i 0 ≠ wC j 0 ∧ 0 < wL i ∧ 0 < wL j)) : wL j ≠ wL i ∨ (wC j 0 ≠ wC i 0 ∧ 0 < wL j ∧ 0 < wL i) := by
  rcases h with h | ⟨h1, h2, h3⟩
  · exact Or.inl (fun e => h e.symm)
  · exact Or.inr ⟨fun e => h1 e.symm, h3, h2⟩
theorem wh_cg {a : Nat} (h : WH a z μ) (e : ∀ i, i < 241 → z i = w i) : WH a w μ := fun i hi => by rw [← e i hi]; exact h i hi
end
