/-! ===== READING: river ===== -/
theorem zero12_L {Q : Int32 → sm_Mem → Prop} {μ0 : sm_Mem} (ex : ∀ μ', (∀ i, i < 241 → μ'.1 152 i = 0) → (∀ a, a ≠ 152 → μ'.1 a = μ0.1 a) → μ'.2 = μ0.2 → T (fnX12_river_J50 146) μ' Q) : ∀ (f j : Nat) (μ : sm_Mem), 241 - j < f → j ≤ 241 → (∀ i, i < j → μ.1 152 i = 0) → (∀ a, a ≠ 152 → μ.1 a = μ0.1 a) → μ.2 = μ0.2 → T (fnX12_river_L30 f 146 (nI j)) μ Q := by
  have e_152 : ln 152 = 241 := rfl
  intro f
  induction f with
  | zero => intro j μ h; omega
  | succ f ih =>
    intro j μ hf hj h1 h2 h3
    unfold fnX12_river_L30
    by_cases c : j = 241
    · rw [t_brT (show (241 : Int32) ≤ nI j from nI_le (a := 241) (by omega) (by omega))]
      exact ex μ (fun i hi => h1 i (by omega)) h2 h3
    · rw [t_brF (show ¬ (241 : Int32) ≤ nI j from nI_ge (b := 241) (by omega) (by omega)), lk_146_14, t_sai (by omega), nI_1]
      refine ih (j + 1) _ (by omega) (by omega) (fun i hi => ?_) (fun a ha => ?_) h3
      · show u2 μ.1 152 j 0 152 i = 0
        by_cases d : i = j
        · rw [d, u2_at]
        · rw [u2_k d]
          exact h1 i (by omega)
      · show u2 μ.1 152 j 0 a = μ0.1 a
        rw [u2_ne ha]
        exact h2 a ha
theorem copy12_L {Q : Int32 → sm_Mem → Prop} {μ0 : sm_Mem} (ex : ∀ μ', (∀ i, i < 241 → μ'.1 147 i = μ0.1 152 i) → (∀ a, a ≠ 147 → μ'.1 a = μ0.1 a) → μ'.2 = μ0.2 → T (fnX12_river_J112 146) μ' Q) : ∀ (f j : Nat) (μ : sm_Mem), 241 - j < f → j ≤ 241 → (∀ i, i < j → μ.1 147 i = μ0.1 152 i) → (∀ a, a ≠ 147 → μ.1 a = μ0.1 a) → μ.2 = μ0.2 → T (fnX12_river_L87 f 146 (nI j)) μ Q := by
  have e_152 : ln 152 = 241 := rfl
  have e_147 : ln 147 = 241 := rfl
  intro f
  induction f with
  | zero => intro j μ h; omega
  | succ f ih =>
    intro j μ hf hj h1 h2 h3
    unfold fnX12_river_L87
    by_cases c : j = 241
    · rw [t_brT (show (241 : Int32) ≤ nI j from nI_le (a := 241) (by omega) (by omega))]
      exact ex μ (fun i hi => h1 i (by omega)) h2 h3
    · rw [t_brF (show ¬ (241 : Int32) ≤ nI j from nI_ge (b := 241) (by omega) (by omega)), lk_146_14, lk_146_1, t_ai (by omega), t_sai (by omega), nI_1]
      refine ih (j + 1) _ (by omega) (by omega) (fun i hi => ?_) (fun a ha => ?_) h3
      · show u2 μ.1 147 j (μ.1 152 j) 147 i = μ0.1 152 i
        by_cases d : i = j
        · rw [d, u2_at, h2 152 (by omega)]
        · rw [u2_k d]
          exact h1 i (by omega)
      · show u2 μ.1 147 j (μ.1 152 j) a = μ0.1 a
        rw [u2_ne ha]
        exact h2 a ha
theorem river12_T {tp : Nat → Int32} {n : Nat} {μ : sm_Mem} (hn : n ≤ 1600) (hB : Byt tp n) (h5 : μ.1 146 5 = nI n) (ht : ∀ k, k < n → μ.1 150 k = tp k) : T (fnX12_river 146) μ (fun r μ' => r = (if (allT tp n).2.2 = none then nI ((allT tp n).1 0) else -4) ∧ FL12 (allT tp n).2.2 μ' ∧ μ'.1 146 5 = 0 ∧ ((allT tp n).2.2 = none → WH 147 (allT tp n).1 μ') ∧ ((allT tp n).2.2 ≠ none → μ'.1 147 = μ.1 147) ∧ (∀ k, 14 ≤ k → μ'.1 146 k = μ.1 146 k) ∧ (∀ a, a ≠ 146 → a ≠ 147 → a ≠ 152 → μ'.1 a = μ.1 a) ∧ μ'.2 = μ.2) := by
  have e_147 : ln 147 = 241 := rfl
  have H : ∀ μi : sm_Mem, μi.2 = μ.2 → μi.1 146 7 = nI n → μi.1 146 5 = 0 → μi.1 146 8 = 0 → μi.1 146 12 = 0 → μi.1 146 13 = -1 → (∀ k, 14 ≤ k → μi.1 146 k = μ.1 146 k) → (∀ a, a ≠ 146 → μi.1 a = μ.1 a) → T (fnX12_river_L30 4096 146 (0 : Int32)) μi (fun r μ' => r = (if (allT tp n).2.2 = none then nI ((allT tp n).1 0) else -4) ∧ FL12 (allT tp n).2.2 μ' ∧ μ'.1 146 5 = 0 ∧ ((allT tp n).2.2 = none → WH 147 (allT tp n).1 μ') ∧ ((allT tp n).2.2 ≠ none → μ'.1 147 = μ.1 147) ∧ (∀ k, 14 ≤ k → μ'.1 146 k = μ.1 146 k) ∧ (∀ a, a ≠ 146 → a ≠ 147 → a ≠ 152 → μ'.1 a = μ.1 a) ∧ μ'.2 = μ.2) := by
    intro μi i2 i7 i5 i8 i12 i13 i14 ia
    refine zero12_L (μ0 := μi) ?_ 4096 0 μi (by omega) (by omega) (fun i hi => by omega) (fun _ _ => rfl) rfl
    intro μ1 a1 a2 a3
    have a146 := a2 146 (by omega)
    have hT : Tap12 tp n μ1 := ⟨by rw [a146]; exact i7, fun k hk => by rw [a2 150 (by omega), ia 150 (by omega)]; exact ht k hk⟩
    unfold fnX12_river_J50
    rw [t_bnd]
    refine t_mono (adv12_T (p := 0) hn hB (by omega) hT (by rw [a146]; exact i8)) ?_
    rintro _ μ2 ⟨b1, b2⟩
    have hc : C12 tp n (0, none) μ2 := ⟨tap12_fr b2 hT, by show 0 ≤ n; omega, b1, fl12_J b2 ⟨by rw [a146]; exact i12, by rw [a146]; exact i13⟩⟩
    have hW : WH 152 zW μ2 := fun i hi => by rw [b2.2.1 152 (by omega), a1 i hi, zW_e]
    refine all12_L (μ0 := μ2) hn hB 1600 0 4096 zW (0, none) μ2 (by omega) (by omega) (fun _ => Nat.zero_le _) ⟨hc, fun _ => hW, fr12_rf μ2⟩ (fun _ => ⟨zW_g, zW_lo (by omega)⟩) ?_
    intro μ3 hb
    have hb : Bd12 tp n (allT tp n).2 (allT tp n).1 μ2 μ3 := hb
    obtain ⟨c1, c2, c3, c4, c5⟩ := hb
    have k5 : μ3.1 146 5 = 0 := by
      rw [c3 5 (by omega), b2.1 5 (by omega), a146]
      exact i5
    have k14 : ∀ k, 14 ≤ k → μ3.1 146 k = μ.1 146 k := fun k hk => by
      rw [c3 k (by omega), b2.1 k (by omega), a146]
      exact i14 k hk
    have ka : ∀ a, a ≠ 146 → a ≠ 152 → μ3.1 a = μ.1 a := fun a h1 h2 => by
      rw [c4 a h1 h2, b2.2.1 a h1, a2 a h2]
      exact ia a h1
    have k2 : μ3.2 = μ.2 := by rw [c5, b2.2.2, a3, i2]
    unfold fnX12_river_J75
    rw [t_bnd, t_eq (gd12 c1.2.2.2)]
    by_cases q : (allT tp n).2.2 = none
    · rw [decide_eq_true q, t_brF (by decide)]
      have hW3 := c2 q
      refine copy12_L (μ0 := μ3) ?_ 4096 0 μ3 (by omega) (by omega) (fun i hi => by omega) (fun _ _ => rfl) rfl
      intro μ4 d1 d2 d3
      have hW4 : WH 147 (allT tp n).1 μ4 := fun i hi => by rw [d1 i hi]; exact hW3 i hi
      unfold fnX12_river_J112
      rw [lk_146_1]
      refine (t_ai (r := 147) (k := 0) (by omega)).mpr ?_
      rw [t_ret, hW4 0 (by omega), if_pos q]
      refine ⟨(eI_lo (by omega)).symm, ?_, ?_, fun _ => hW4, fun z => absurd q z, fun k hk => ?_, fun a h1 h2 h3 => ?_, d3.trans k2⟩
      · have := c1.2.2.2
        rw [q] at this ⊢
        exact ⟨by rw [d2 146 (by omega)]; exact this.1, by rw [d2 146 (by omega)]; exact this.2⟩
      · rw [d2 146 (by omega)]
        exact k5
      · rw [d2 146 (by omega)]
        exact k14 k hk
      · rw [d2 a h2]
        exact ka a h1 h3
    · rw [decide_eq_false q, t_brT (by decide), t_ret, if_neg q]
      exact ⟨rfl, c1.2.2.2, k5, fun z => absurd z q, fun _ => ka 147 (by omega) (by omega), k14, fun a h1 _ h3 => ka a h1 h3, k2⟩
  unfold fnX12_river
  rw [t_gi, h5, t_si, t_si, t_si, t_si, t_si]
  exact H _ rfl (by simp (disch := omega) only [u2_ne, u2_a, u2_k, u2_at]) (by simp (disch := omega) only [u2_ne, u2_a, u2_k, u2_at]) (by simp (disch := omega) only [u2_ne, u2_a, u2_k, u2_at]) (by simp (disch := omega) only [u2_ne, u2_a, u2_k, u2_at]) (by simp (disch := omega) only [u2_ne, u2_a, u2_k, u2_at]) (fun k hk => (by simp (disch := omega) only [u2_ne, u2_a, u2_k, u2_at])) (fun a ha => (by simp (disch := omega) only [u2_ne, u2_a, u2_k, u2_at]))
/-- the two faults are one -/
theorem fl_eq {f : Option (Nat × Nat)} {μ μ' : sm_Mem} (h : FL6 f μ) (h' : FL12 f μ') : μ.1 2 1 = μ'.1 146 12 ∧ μ.1 2 2 = μ'.1 146 13 := by
  cases f with
  | none => exact ⟨h.1.trans h'.1.symm, h.2.trans h'.2.symm⟩
  | some c => exact ⟨h.1.trans h'.1.symm, h.2.1.trans h'.2.1.symm⟩
theorem begin_T {w : Nat → Nat} {μ : sm_Mem} (hL : LG w) : T (fnX9_begin 24) μ (fun _ μ' => SH 24 w μ' ∧ (∀ a, (a < 24 ∨ 28 ≤ a) → μ'.1 a = μ.1 a) ∧ μ'.2 = μ.2) := by
  obtain ⟨⟨⟨g3, g4, _⟩, _⟩, h7, hf, h14, h5, h8, h98⟩ := hL
  unfold fnX9_begin
  rw [t_si, lk_24_2, lk_24_3, lk_24_4, t_bnd]
  refine fill_T (n := 24) rfl (fun μ1 a1 a2 a3 => ?_)
  rw [t_bnd]
  refine fill_T (n := 24) rfl (fun μ2 b1 b2 b3 => ?_)
  rw [t_bnd]
  refine fill_T (n := 8) rfl (fun μ3 c1 c2 c3 => ?_)
  rw [t_ret]
  refine ⟨⟨?_, fun s hs => ?_, fun s hs => ?_, fun p hp => ?_⟩, fun a ha => ?_, by rw [c3, b3, a3]⟩
  · rw [c2 24 (by omega), b2 24 (by omega), a2 24 (by omega), h7]
    show u2 μ.1 24 1 0 24 1 = _
    rw [u2_at]
    rfl
  · rw [c2 25 (by omega), b2 25 (by omega), a1 s hs, (hf s (by omega)).2]
    rfl
  · rw [c2 26 (by omega), b1 s (by omega), (hf s (by omega)).1]
    rfl
  · rw [c1 p (by omega), h98 p hp]
    rfl
  · rw [c2 a (by omega), b2 a (by omega), a2 a (by omega)]
    show u2 μ.1 24 1 0 a = _
    rw [u2_ne (show a ≠ 24 by omega)]
theorem op_river : op2 Inv (fnX11_river 0) (fnX12_river 146) := by
  rintro μ ⟨w, hC, hO⟩
  obtain ⟨g, r, s, wh, l, ⟨⟨n, hn, t1, t2, t3⟩, t4, t5⟩, sl, im, rf⟩ := hC
  have hB : Byt (μ.1 1) n := fun k hk => (t3 k hk).2
  have F : T (fnX11_river 0) μ (fun x μ1 => x = (if (allT (μ.1 1) n).2.2 = none then nI ((allT (μ.1 1) n).1 0) else -4) ∧ μ1.1 0 1 = 0 ∧ (∀ μ', FL12 (allT (μ.1 1) n).2.2 μ' → μ1.1 0 2 = μ'.1 146 12 ∧ μ1.1 0 3 = μ'.1 146 13) ∧ ((allT (μ.1 1) n).2.2 = none → Good (allT (μ.1 1) n).1 ∧ RH 14 (allT (μ.1 1) n).1 μ1 ∧ SH 24 (allT (μ.1 1) n).1 μ1 ∧ LKS (allT (μ.1 1) n).1 μ1 ∧ μ1.1 42 8 = mI 1) ∧ ((allT (μ.1 1) n).2.2 ≠ none → ∀ a, 13 ≤ a → μ1.1 a = μ.1 a) ∧ (∀ a, 46 ≤ a → μ1.1 a = μ.1 a) ∧ μ1.2.1 = μ.2.1) := by
    unfold fnX11_river
    rw [t_gi, t1, lk_0_4, lk_0_0, t_bnd]
    refine t_mono (readAll_T (tp := μ.1 1) hn (fun _ _ => rfl)) ?_
    rintro _ μ1 ⟨a1, a2, a3, a4⟩
    rw [t_si, t_gi, t_si, t_gi, t_si, t_gi]
    have fl := a1.2.2.2
    have H : ∀ μ2 : sm_Mem, μ2.1 0 1 = 0 → μ2.1 0 2 = μ1.1 2 1 → μ2.1 0 3 = μ1.1 2 2 → (∀ a, a ≠ 0 → μ2.1 a = μ1.1 a) → μ2.2 = μ1.2 → T (m_br (μ2.1 0 2 = 0) (m_bnd (fnX7_takeFrom (lk 0 5) (lk 2 0)) fun _ => m_bnd (fnX9_begin (lk 0 6)) fun _ => m_bnd (fnX3_lay (lk 0 8) (lk 0 5)) fun _ => m_bnd (fnX5_forget (lk 0 11)) fun _ => m_gi (lk 0 5) 0 fun x95 => m_ret x95) (m_ret (-4 : Int32))) μ2 (fun x μ1 => x = (if (allT (μ.1 1) n).2.2 = none then nI ((allT (μ.1 1) n).1 0) else -4) ∧ μ1.1 0 1 = 0 ∧ (∀ μ', FL12 (allT (μ.1 1) n).2.2 μ' → μ1.1 0 2 = μ'.1 146 12 ∧ μ1.1 0 3 = μ'.1 146 13) ∧ ((allT (μ.1 1) n).2.2 = none → Good (allT (μ.1 1) n).1 ∧ RH 14 (allT (μ.1 1) n).1 μ1 ∧ SH 24 (allT (μ.1 1) n).1 μ1 ∧ LKS (allT (μ.1 1) n).1 μ1 ∧ μ1.1 42 8 = mI 1) ∧ ((allT (μ.1 1) n).2.2 ≠ none → ∀ a, 13 ≤ a → μ1.1 a = μ.1 a) ∧ (∀ a, 46 ≤ a → μ1.1 a = μ.1 a) ∧ μ1.2.1 = μ.2.1) := by
      intro μ2 b1 b2 b3 b4 b5
      have bf : ∀ μ', FL12 (allT (μ.1 1) n).2.2 μ' → μ2.1 0 2 = μ'.1 146 12 ∧ μ2.1 0 3 = μ'.1 146 13 := fun μ' h => by
        rw [b2, b3]
        exact fl_eq fl h
      by_cases q : (allT (μ.1 1) n).2.2 = none
      · obtain ⟨⟨r1, r2, r3⟩, hL⟩ := a2 q
        have hG := hL.1
        rw [t_brT (by rw [b2]; exact (fl6_0 fl).mpr q), lk_0_5, lk_2_0, lk_0_6, lk_0_8, lk_0_11, t_bnd]
        refine t_mono (takeFrom7 rv_14 (show isRv 3 by unfold isRv; decide) (by omega) hG.1.1 hG.1.2.1 (rh_fr (fun a h1 h2 => b4 a (by omega)) r1)) ?_
        rintro _ μ3 ⟨c1, c2, c3⟩
        rw [t_bnd]
        refine t_mono (begin_T hL) ?_
        rintro _ μ4 ⟨d1, d2, d3⟩
        have R4 : RH 14 (allT (μ.1 1) n).1 μ4 := rh_fr (fun a h1 h2 => d2 a (by omega)) c1
        rw [t_bnd]
        refine t_mono (lay_T hG R4) ?_
        rintro _ μ5 ⟨e1, e2, e3⟩
        rw [t_bnd, forget_T, t_gi, t_ret]
        have R5 : RH 14 (allT (μ.1 1) n).1 μ5 := rh_fr (fun a h1 h2 => e1 a (by omega)) R4
        have ne : ∀ a, a ≠ 42 → (u2 μ5.1 42 8 (mI 1), μ5.2).1 a = μ5.1 a := fun a ha => by
          show u2 μ5.1 42 8 (mI 1) a = _
          rw [u2_ne ha]
        have n0 : (u2 μ5.1 42 8 (mI 1), μ5.2).1 0 = μ2.1 0 := by
          rw [ne 0 (by omega), e1 0 (by omega), d2 0 (by omega), c2 0 (by omega)]
        refine ⟨?_, by rw [n0]; exact b1, by rw [n0]; exact bf, fun _ => ⟨hG, rh_fr (fun a h1 h2 => ne a (by omega)) R5, sh_fr (fun a h1 h2 => (ne a (by omega)).trans (e1 a (by omega))) d1, lks_fr (fun a h1 h2 => ne a (by omega)) e3, ?_⟩, fun z => absurd q z, fun a ha => ?_, ?_⟩
        · rw [ne 14 (by omega), R5.1.1, if_pos q]
        · show u2 μ5.1 42 8 (mI 1) 42 8 = _
          rw [u2_at]
        · rw [ne a (by omega), e1 a (by omega), d2 a (by omega), c2 a (by omega), b4 a (by omega), a3 a (by omega)]
        · show μ5.2.1 = _
          rw [e2, d3, c3, b5]
          exact a4
      · rw [t_brF (fun z => q ((fl6_0 fl).mp (b2 ▸ z))), t_ret]
        refine ⟨by rw [if_neg q], b1, bf, fun z => absurd z q, fun _ a ha => ?_, fun a ha => ?_, ?_⟩
        · rw [b4 a (by omega), a3 a (by omega)]
        · rw [b4 a (by omega), a3 a (by omega)]
        · rw [b5]
          exact a4
    exact H _ (by simp (disch := omega) only [u2_ne, u2_a, u2_k, u2_at]) (by simp (disch := omega) only [u2_ne, u2_a, u2_k, u2_at]) (by simp (disch := omega) only [u2_ne, u2_a, u2_k, u2_at]) (fun a ha => (by simp (disch := omega) only [u2_ne, u2_a, u2_k, u2_at])) rfl
  obtain ⟨x, μ1, f1, rfl, p1, p2, p3, p4, p5, p6⟩ := F
  have R := river12_T (tp := μ.1 1) (n := n) (μ := μ1) hn hB (by rw [p5 146 (by omega)]; exact t2) (fun k hk => by rw [p5 150 (by omega)]; exact (t3 k hk).1.symm)
  obtain ⟨x, μ2, f2, rfl, q1, q2, q3, q4, q5, q6, q7⟩ := R
  refine ⟨_, μ1, μ2, f1, f2, ?_⟩
  have b146 : ∀ k, 14 ≤ k → μ2.1 146 k = μ.1 146 k := fun k hk => by rw [q5 k hk, p5 146 (by omega)]
  have both : ∀ a, 46 ≤ a → a ≠ 146 → a ≠ 147 → a ≠ 152 → μ2.1 a = μ.1 a := fun a h1 h2 h3 h4 => by rw [q6 a h2 h3 h4, p5 a h1]
  have tp2 : TP μ2 := by
    have := p2 μ2 q1
    rw [← q6 0 (by omega) (by omega) (by omega)] at this p1
    exact ⟨⟨0, by omega, p1, q2, fun k hk => by omega⟩, this.1, this.2⟩
  have sl2 : SL μ2 := sl_fr (fun a h1 h2 => both a (by omega) (by omega) (by omega) (by omega)) (both 168 (by omega) (by omega) (by omega) (by omega)) (both 169 (by omega) (by omega) (by omega) (by omega)) (fun a _ _ => by rw [q7, p6]) (by rw [q7, p6]) sl
  have im2 : IM μ2 := im_fr (fun a h1 h2 => both a (by omega) (by omega) (by omega) (by omega)) (both 95 (by omega) (by omega) (by omega) (by omega)) (both 148 (by omega) (by omega) (by omega) (by omega)) (both 149 (by omega) (by omega) (by omega) (by omega)) im
  have rf2 : RF μ2 := rf_fr (b146 21 (by omega)) (b146 39 (by omega)) (b146 40 (by omega)) rf
  by_cases q : (allT (μ.1 1) n).2.2 = none
  · obtain ⟨k1, k2, k3, k4, k5⟩ := p3 q
    refine ⟨_, ⟨k1, rh_fr (fun a h1 h2 => q6 a (by omega) (by omega) (by omega)) k2, sh_fr (fun a h1 h2 => q6 a (by omega) (by omega) (by omega)) k3, q3 q, lks_fr (fun a h1 h2 => q6 a (by omega) (by omega) (by omega)) k4, tp2, sl2, im2, rf2⟩, Or.inl ?_⟩
    rw [q6 42 (by omega) (by omega) (by omega)]
    exact k5
  · have k := p4 q
    have k' : ∀ a, 13 ≤ a → a ≠ 146 → a ≠ 147 → a ≠ 152 → μ2.1 a = μ.1 a := fun a h1 h2 h3 h4 => by rw [q6 a h2 h3 h4, k a h1]
    refine ⟨w, ⟨g, rh_fr (fun a h1 h2 => k' a (by omega) (by omega) (by omega) (by omega)) r, sh_fr (fun a h1 h2 => k' a (by omega) (by omega) (by omega) (by omega)) s, wh_fr (fun i _ => by rw [q4 q, k 147 (by omega)]) wh, lks_fr (fun a h1 h2 => k' a (by omega) (by omega) (by omega) (by omega)) l, tp2, sl2, im2, rf2⟩, oh_fr (k' 42 (by omega) (by omega) (by omega) (by omega)) (k' 45 (by omega) (by omega) (by omega) (by omega)) hO⟩
