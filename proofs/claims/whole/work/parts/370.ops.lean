/-! ===== feed, fault ===== -/
def fby (v : Int32) (sh : Nat) : Int32 := vp_nar .byte ((v >>> (nI sh &&& 31)).toInt8.toInt32)
theorem fby_rng (v : Int32) (sh : Nat) : -128 ≤ (fby v sh).toInt ∧ (fby v sh).toInt < 128 := by
  unfold fby
  rw [pk_vb]
  exact lg_i2b_range _
theorem putByte_step {f sh t : Nat} {v : Int32} {μ : sm_Mem} {Q : Unit → sm_Mem → Prop} (hs : sh ≤ 24) (ht : t < 1600) (h : μ.1 0 1 = nI t) : T (fnX11_putBytes_L3 (f + 1) 0 v (nI sh)) μ Q ↔ T (fnX11_putBytes_L3 f 0 v (nI sh + (-8 : Int32))) (u2 (u2 μ.1 1 t (fby v sh)) 0 1 (nI (t + 1)), μ.2) Q := by
  have e_1 : ln 1 = 1600 := rfl
  rw [fnX11_putBytes_L3]
  rw [t_brF (nI_pos (by omega)), t_gi, h, t_brF (show ¬ (1600 : Int32) ≤ nI t from nI_ge (b := 1600) ht (by omega)), t_gi, h, lk_0_0, t_sai (by omega), t_gi, t_si]
  have e : (u2 μ.1 1 t (vp_nar .byte ((v >>> (nI sh &&& 31)).toInt8.toInt32)), μ.2).1 0 1 = nI t := by
    rw [← h]
    simp (disch := omega) only [u2_ne, u2_a, u2_k, u2_at]
  rw [e, nI_1]
  exact Iff.rfl
theorem putBytes_T {t : Nat} {v : Int32} {μ : sm_Mem} (ht : t + 4 ≤ 1600) (h : μ.1 0 1 = nI t) : T (fnX11_putBytes 0 v) μ (fun _ μ' => μ'.1 0 1 = nI (t + 4) ∧ (∀ k, k ≠ 1 → μ'.1 0 k = μ.1 0 k) ∧ (∀ i, i < 4 → μ'.1 1 (t + i) = fby v (24 - 8 * i)) ∧ (∀ i, (i < t ∨ t + 4 ≤ i) → μ'.1 1 i = μ.1 1 i) ∧ (∀ a, a ≠ 0 → a ≠ 1 → μ'.1 a = μ.1 a) ∧ μ'.2 = μ.2) := by
  unfold fnX11_putBytes
  rw [li_24, putByte_step (t := t) (by omega) (by omega) h, show nI 24 + (-8 : Int32) = nI 16 from rfl]
  rw [putByte_step (t := t + 1) (by omega) (by omega) (by simp (disch := omega) only [u2_ne, u2_a, u2_k, u2_at]), show nI 16 + (-8 : Int32) = nI 8 from rfl]
  rw [putByte_step (t := t + 1 + 1) (by omega) (by omega) (by simp (disch := omega) only [u2_ne, u2_a, u2_k, u2_at]), show nI 8 + (-8 : Int32) = nI 0 from rfl]
  rw [putByte_step (t := t + 1 + 1 + 1) (by omega) (by omega) (by simp (disch := omega) only [u2_ne, u2_a, u2_k, u2_at]), fnX11_putBytes_L3, t_brT (by decide), t_ret]
  refine ⟨(by simp (disch := omega) only [u2_ne, u2_a, u2_k, u2_at]), fun k hk => (by simp (disch := omega) only [u2_ne, u2_a, u2_k, u2_at]), ?_, fun i hi => (by simp (disch := omega) only [u2_ne, u2_a, u2_k, u2_at]), fun a a1 a2 => (by simp (disch := omega) only [u2_ne, u2_a, u2_k, u2_at]), rfl⟩
  intro i hi
  have c : i = 0 ∨ i = 1 ∨ i = 2 ∨ i = 3 := by omega
  rcases c with rfl | rfl | rfl | rfl
  · simp (disch := omega) only [u2_a, u2_k, u2_at, Nat.add_zero]
  · simp (disch := omega) only [u2_a, u2_k, u2_at]
  · simp (disch := omega) only [u2_a, u2_k, u2_at]
  · simp (disch := omega) only [u2_a, u2_k, u2_at]
/-- the byte k of five ints -/
def fv5 (a b c d e : Int32) (i : Nat) : Int32 := if i = 0 then a else if i = 1 then b else if i = 2 then c else if i = 3 then d else e
theorem feed11 {t : Nat} {a b c d e : Int32} {μ : sm_Mem} (ht : t + 20 ≤ 1600) (h : μ.1 0 1 = nI t) : T (m_bnd (fnX11_putBytes 0 a) fun _ => m_bnd (fnX11_putBytes 0 b) fun _ => m_bnd (fnX11_putBytes 0 c) fun _ => m_bnd (fnX11_putBytes 0 d) fun _ => m_bnd (fnX11_putBytes 0 e) fun _ => m_gi 0 1 fun x43 => m_ret x43) μ (fun r μ' => r = nI (t + 20) ∧ μ'.1 0 1 = nI (t + 20) ∧ (∀ k, k ≠ 1 → μ'.1 0 k = μ.1 0 k) ∧ (∀ i, i < 20 → μ'.1 1 (t + i) = fby (fv5 a b c d e (i / 4)) (24 - 8 * (i % 4))) ∧ (∀ i, (i < t ∨ t + 20 ≤ i) → μ'.1 1 i = μ.1 1 i) ∧ (∀ z, z ≠ 0 → z ≠ 1 → μ'.1 z = μ.1 z) ∧ μ'.2 = μ.2) := by
  rw [t_bnd]
  refine t_mono (putBytes_T (t := t) (by omega) h) ?_
  rintro - μ1 ⟨a1, a2, a3, a4, a5, a6⟩
  rw [t_bnd]
  refine t_mono (putBytes_T (t := t + 4) (by omega) a1) ?_
  rintro - μ2 ⟨b1, b2, b3, b4, b5, b6⟩
  rw [t_bnd]
  refine t_mono (putBytes_T (t := t + 4 + 4) (by omega) b1) ?_
  rintro - μ3 ⟨c1, c2, c3, c4, c5, c6⟩
  rw [t_bnd]
  refine t_mono (putBytes_T (t := t + 4 + 4 + 4) (by omega) c1) ?_
  rintro - μ4 ⟨d1, d2, d3, d4, d5, d6⟩
  rw [t_bnd]
  refine t_mono (putBytes_T (t := t + 4 + 4 + 4 + 4) (by omega) d1) ?_
  rintro - μ5 ⟨e1, e2, e3, e4, e5, e6⟩
  rw [t_gi, t_ret]
  refine ⟨e1, e1, fun k hk => ?_, ?_, fun i hi => ?_, fun z z1 z2 => ?_, e6.trans (d6.trans (c6.trans (b6.trans a6)))⟩
  · rw [e2 k hk, d2 k hk, c2 k hk, b2 k hk, a2 k hk]
  · intro i hi
    unfold fv5
    rcases Nat.lt_or_ge i 4 with q | q
    · rw [if_pos (by omega), e4 _ (by omega), d4 _ (by omega), c4 _ (by omega), b4 _ (by omega), a3 i q, show i % 4 = i by omega]
    rw [if_neg (by omega)]
    rcases Nat.lt_or_ge i 8 with q | q
    · rw [if_pos (by omega), e4 _ (by omega), d4 _ (by omega), c4 _ (by omega), show t + i = t + 4 + (i - 4) by omega, b3 (i - 4) (by omega), show i % 4 = i - 4 by omega]
    rw [if_neg (by omega)]
    rcases Nat.lt_or_ge i 12 with q | q
    · rw [if_pos (by omega), e4 _ (by omega), d4 _ (by omega), show t + i = t + 4 + 4 + (i - 8) by omega, c3 (i - 8) (by omega), show i % 4 = i - 8 by omega]
    rw [if_neg (by omega)]
    rcases Nat.lt_or_ge i 16 with q | q
    · rw [if_pos (by omega), e4 _ (by omega), show t + i = t + 4 + 4 + 4 + (i - 12) by omega, d3 (i - 12) (by omega), show i % 4 = i - 12 by omega]
    · rw [if_neg (by omega), show t + i = t + 4 + 4 + 4 + 4 + (i - 16) by omega, e3 (i - 16) (by omega), show i % 4 = i - 16 by omega]
  · rw [e4 i (by omega), d4 i (by omega), c4 i (by omega), b4 i (by omega), a4 i (by omega)]
  · rw [e5 z z1 z2, d5 z z1 z2, c5 z z1 z2, b5 z z1 z2, a5 z z1 z2]
theorem feed12_L {t : Nat} {a b c d e : Int32} {μ0 : sm_Mem} (ht : t + 20 ≤ 1600) (h0 : μ0.1 146 5 = nI t) (h5 : ∀ i, i < 5 → μ0.1 151 i = fv5 a b c d e i) : ∀ (f k : Nat) (μ : sm_Mem), 20 - k < f → k ≤ 20 → (∀ z, z ≠ 150 → μ.1 z = μ0.1 z) → μ.2 = μ0.2 → (∀ i, i < k → μ.1 150 (t + i) = fby (fv5 a b c d e (i / 4)) (24 - 8 * (i % 4))) → (∀ i, i < t → μ.1 150 i = μ0.1 150 i) →
    T (fnX12_feed_L55 f 146 (nI k)) μ (fun r μ' => r = nI (t + 20) ∧ μ'.1 146 5 = nI (t + 20) ∧ (∀ k, k ≠ 5 → μ'.1 146 k = μ0.1 146 k) ∧ (∀ i, i < 20 → μ'.1 150 (t + i) = fby (fv5 a b c d e (i / 4)) (24 - 8 * (i % 4))) ∧ (∀ i, i < t → μ'.1 150 i = μ0.1 150 i) ∧ (∀ z, z ≠ 146 → z ≠ 150 → μ'.1 z = μ0.1 z) ∧ μ'.2 = μ0.2) := by
  have e_150 : ln 150 = 1600 := rfl
  have e_151 : ln 151 = 5 := rfl
  intro f
  induction f with
  | zero =>
    intro j μ h
    omega
  | succ f ih =>
    intro k μ hf hk ho h2 hb hl
    have x5 : μ.1 146 5 = nI t := by rw [ho 146 (by omega)]; exact h0
    rw [fnX12_feed_L55]
    by_cases ck : 20 ≤ k
    · have : k = 20 := by omega
      subst this
      rw [t_brT (by decide)]
      unfold fnX12_feed_J101
      simp only [t_gi, t_si, t_ret, x5, u2_at, li_20, nI_add]
      refine ⟨(by first | rfl | trivial), (by first | rfl | trivial), ?_, ?_, ?_, ?_, h2⟩
      · intro k hk'
        rw [← ho 146 (by omega)]
        simp (disch := omega) only [u2_ne, u2_a, u2_k, u2_at]
      · intro i hi
        rw [← hb i hi]
        simp (disch := omega) only [u2_ne, u2_a, u2_k, u2_at]
      · intro i hi
        rw [← hl i hi]
        simp (disch := omega) only [u2_ne, u2_a, u2_k, u2_at]
      · intro z z1 z2
        rw [← ho z z2]
        simp (disch := omega) only [u2_ne, u2_a, u2_k, u2_at]
    · rw [t_brF (show ¬ (20 : Int32) ≤ nI k from nI_ge (b := 20) (by omega) (by omega)), t_gi, x5, t_gd (by decide), li_4, pk_div (by omega) (by omega) (by omega), lk_146_6, t_ai (by omega), t_gd (by decide)]
      have y : μ.1 151 (k / 4) = fv5 a b c d e (k / 4) := by rw [ho 151 (by omega)]; exact h5 _ (by omega)
      rw [y, lk_146_4, nI_add, t_sai (by omega)]
      have sh : (24 : Int32) - (8 : Int32) * (nI k - nI (k / 4) * nI 4) = nI (24 - 8 * (k % 4)) := by
        rw [pk_mul, pk_sub (by omega), li_24, li_8, pk_mul, pk_sub (by omega), show k - k / 4 * 4 = k % 4 by omega]
      rw [sh, nI_1]
      refine ih (k + 1) _ (by omega) (by omega) ?_ h2 ?_ ?_
      · intro z hz
        rw [← ho z hz]
        simp (disch := omega) only [u2_ne, u2_a, u2_k, u2_at]
      · intro i hi
        by_cases e' : i = k
        · subst e'
          simp only [u2_at]
          rfl
        · rw [← hb i (by omega)]
          simp (disch := omega) only [u2_ne, u2_a, u2_k, u2_at]
      · intro i hi
        rw [← hl i hi]
        simp (disch := omega) only [u2_ne, u2_a, u2_k, u2_at]
theorem op_feed (a b c d e : Int32) : op2 Inv (fnX11_feed 0 a b c d e) (fnX12_feed 146 a b c d e) := by
  apply t_op2
  rintro μ ⟨w, hC, hO⟩
  obtain ⟨hG, hR, hS, hW, hL, hT, hSl, hI, hF⟩ := id hC
  obtain ⟨⟨t, ht, t1, t2, t3⟩, t4, t5⟩ := id hT
  have e_151 : ln 151 = 5 := rfl
  unfold fnX11_feed fnX12_feed
  rw [t_gi, t1, li_20, nI_add, li_1600]
  by_cases q : t + 20 ≤ 1600
  · rw [t_brT (by rw [nI_leI (by omega) (by omega)]; exact q)]
    refine t_mono (feed11 q t1) ?_
    rintro r μ1 ⟨a1, a2, a3, a4, a5, a6, a7⟩
    have x5 : μ1.1 146 5 = nI t := by rw [a6 146 (by omega) (by omega)]; exact t2
    rw [t_gi, x5, nI_add, t_brT (by rw [nI_leI (by omega) (by omega)]; exact q), lk_146_6, li_0, li_1, li_2, li_3, li_4, t_sai (by omega), t_sai (by omega), t_sai (by omega), t_sai (by omega), t_sai (by omega)]
    refine t_mono (feed12_L (t := t) (a := a) (b := b) (c := c) (d := d) (e := e) (μ0 := (u2 (u2 (u2 (u2 (u2 μ1.1 151 0 a) 151 1 b) 151 2 c) 151 3 d) 151 4 e, μ1.2)) q ?_ ?_ 4096 0 _ (by omega) (by omega) (fun _ _ => rfl) rfl (fun i hi => absurd hi (by omega)) (fun _ _ => rfl)) ?_
    · rw [← x5]
      simp (disch := omega) only [u2_ne, u2_a, u2_k, u2_at]
    · intro i hi
      have cs : i = 0 ∨ i = 1 ∨ i = 2 ∨ i = 3 ∨ i = 4 := by omega
      rcases cs with rfl | rfl | rfl | rfl | rfl <;> simp (disch := omega) only [u2_k, u2_at] <;> rfl
    rintro r' μ2 ⟨b1, b2, b3, b4, b5, b6, b7⟩
    have fr : ∀ z, z ≠ 0 → z ≠ 1 → z ≠ 146 → z ≠ 150 → z ≠ 151 → μ2.1 z = μ.1 z := by
      intro z z1 z2 z3 z4 z5
      rw [b6 z z3 z4, ← a6 z z1 z2]
      simp (disch := omega) only [u2_ne, u2_a, u2_k, u2_at]
    have f0 : μ2.1 0 = μ1.1 0 := by
      rw [b6 0 (by omega) (by omega)]
      simp (disch := omega) only [u2_ne, u2_a, u2_k, u2_at]
    have f1 : μ2.1 1 = μ1.1 1 := by
      rw [b6 1 (by omega) (by omega)]
      simp (disch := omega) only [u2_ne, u2_a, u2_k, u2_at]
    have f146 : ∀ k, k ≠ 5 → μ2.1 146 k = μ.1 146 k := by
      intro k hk
      rw [b3 k hk, ← a6 146 (by omega) (by omega)]
      simp (disch := omega) only [u2_ne, u2_a, u2_k, u2_at]
    have fl : μ2.2 = μ.2 := b7.trans a7
    refine ⟨b1.trans a1.symm, w, ⟨hG, rh_fr (fun z q1 q2 => fr z (by omega) (by omega) (by omega) (by omega) (by omega)) hR, sh_fr (fun z q1 q2 => fr z (by omega) (by omega) (by omega) (by omega) (by omega)) hS, wh_fr (fun i _ => by rw [fr 147 (by omega) (by omega) (by omega) (by omega) (by omega)]) hW, lks_fr (fun z q1 q2 => fr z (by omega) (by omega) (by omega) (by omega) (by omega)) hL, ?_, ?_, ?_, ?_⟩, oh_fr (fr 42 (by omega) (by omega) (by omega) (by omega) (by omega)) (fr 45 (by omega) (by omega) (by omega) (by omega) (by omega)) hO⟩
    · refine ⟨⟨t + 20, q, by rw [f0]; exact a2, b2, ?_⟩, ?_, ?_⟩
      · intro k hk
        rw [f1]
        by_cases ck : k < t
        · have z := t3 k ck
          rw [a5 k (by omega), b5 k ck]
          have y : μ1.1 150 = μ.1 150 := a6 150 (by omega) (by omega)
          have y2 : (u2 (u2 (u2 (u2 (u2 μ1.1 151 0 a) 151 1 b) 151 2 c) 151 3 d) 151 4 e, μ1.2).1 150 k = μ.1 150 k := by
            rw [← y]
            simp (disch := omega) only [u2_ne, u2_a, u2_k, u2_at]
          rw [y2]
          exact z
        · have y1 := a4 (k - t) (by omega)
          have y2 := b4 (k - t) (by omega)
          rw [show t + (k - t) = k by omega] at y1 y2
          rw [y1, y2]
          exact ⟨rfl, fby_rng _ _⟩
      · rw [f0, a3 2 (by omega), f146 12 (by omega)]
        exact t4
      · rw [f0, a3 3 (by omega), f146 13 (by omega)]
        exact t5
    · exact sl_fr (fun z q1 q2 => fr z (by omega) (by omega) (by omega) (by omega) (by omega)) (fr 168 (by omega) (by omega) (by omega) (by omega) (by omega)) (fr 169 (by omega) (by omega) (by omega) (by omega) (by omega)) (fun _ _ _ => by rw [fl]) (by rw [fl]) hSl
    · exact im_fr (fun z q1 q2 => fr z (by omega) (by omega) (by omega) (by omega) (by omega)) (fr 95 (by omega) (by omega) (by omega) (by omega) (by omega)) (fr 148 (by omega) (by omega) (by omega) (by omega) (by omega)) (fr 149 (by omega) (by omega) (by omega) (by omega) (by omega)) hI
    · exact rf_fr (f146 21 (by omega)) (f146 39 (by omega)) (f146 40 (by omega)) hF
  · rw [t_brF (by rw [nI_leI (by omega) (by omega)]; exact q), t_ret, t_gi, t2, nI_add, t_brF (by rw [nI_leI (by omega) (by omega)]; exact q), t_ret]
    exact ⟨rfl, w, hC, hO⟩
theorem op_flt (k : Int32) : op2 Inv (fnX11_fault 0 k) (fnX12_fault 146 k) := by
  apply op_fault
  · rintro μ ⟨w, ⟨-, -, -, -, -, hT, -⟩, -⟩
    exact hT.2.1
  · rintro μ ⟨w, ⟨-, -, -, -, -, hT, -⟩, -⟩
    exact hT.2.2
