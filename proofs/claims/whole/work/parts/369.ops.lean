/-! ===== image, back ===== -/
def isRv (c : Nat) : Prop := c ∈ [3, 14, 104, 118, 132]
theorem rv_lk {c : Nat} (h : isRv c) : (lk c 8 = c + 1 ∧ lk c 9 = c + 2 ∧ lk c 10 = c + 3 ∧ lk c 11 = c + 4 ∧ lk c 12 = c + 5 ∧ lk c 13 = c + 6 ∧ lk c 14 = c + 7 ∧ lk c 15 = c + 8 ∧ lk c 16 = c + 9) ∧ (ln (c + 1) = 24 ∧ ln (c + 2) = 24 ∧ ln (c + 3) = 24 ∧ ln (c + 4) = 24 ∧ ln (c + 5) = 24 ∧ ln (c + 6) = 8 ∧ ln (c + 7) = 8 ∧ ln (c + 8) = 8 ∧ ln (c + 9) = 8) := by
  have e : ∀ c ∈ [3, 14, 104, 118, 132], (lk c 8 = c + 1 ∧ lk c 9 = c + 2 ∧ lk c 10 = c + 3 ∧ lk c 11 = c + 4 ∧ lk c 12 = c + 5 ∧ lk c 13 = c + 6 ∧ lk c 14 = c + 7 ∧ lk c 15 = c + 8 ∧ lk c 16 = c + 9) ∧ (ln (c + 1) = 24 ∧ ln (c + 2) = 24 ∧ ln (c + 3) = 24 ∧ ln (c + 4) = 24 ∧ ln (c + 5) = 24 ∧ ln (c + 6) = 8 ∧ ln (c + 7) = 8 ∧ ln (c + 8) = 8 ∧ ln (c + 9) = 8) := by decide +kernel
  exact e c h
theorem rv_im {k : Nat} (hk : k < 3) : isRv (104 + 14 * k) ∧ isScK (114 + 14 * k) ∧ lk 93 k = 104 + 14 * k ∧ lk 94 k = 114 + 14 * k := by
  unfold isRv isScK
  have e : ∀ k, k < 3 → 104 + 14 * k ∈ [3, 14, 104, 118, 132] ∧ 114 + 14 * k ∈ [24, 28, 46, 50, 54, 58, 62, 66, 70, 114, 128, 142] ∧ lk 93 k = 104 + 14 * k ∧ lk 94 k = 114 + 14 * k := by decide +kernel
  exact e k hk
theorem rv_14 : isRv 14 := by unfold isRv; decide
def tkP (a b : Nat) (μ0 : sm_Mem) (k i : Nat) (μ : sm_Mem) : Prop := (∀ j, j < k → μ.1 a j = μ0.1 b j) ∧ (∀ j, j < i → ∀ z, z < (if j < 5 then 24 else 8) → μ.1 (a + 1 + j) z = μ0.1 (b + 1 + j) z) ∧ (∀ c, (c < a ∨ a + 10 ≤ c) → μ.1 c = μ0.1 c) ∧ μ.2 = μ0.2
theorem tk_f {a b : Nat} (hab : a + 10 ≤ b ∨ b + 10 ≤ a) {μ0 μ : sm_Mem} {k : Nat} {f : sm_M Unit} {Q : Unit → sm_Mem → Prop} (h : tkP a b μ0 k 0 μ) (ex : ∀ μ', tkP a b μ0 (k + 1) 0 μ' → T f μ' Q) : T (m_gi b k fun x => m_si a k x <| f) μ Q := by
  obtain ⟨h1, h2, h3, h4⟩ := h
  rw [t_gi, t_si]
  refine ex _ ⟨?_, fun j hj => absurd hj (by omega), ?_, h4⟩
  · intro j hj
    by_cases e : j = k
    · subst e
      rw [← h3 b (by omega)]
      exact u2_at
    · rw [← h1 j (by omega)]
      exact u2_k e
  · intro c hc
    rw [← h3 c hc]
    exact u2_ne (by omega)
theorem tk_a {a b i n : Nat} (hab : a + 10 ≤ b ∨ b + 10 ≤ a) (hi : i < 9) (hn : n = if i < 5 then 24 else 8) {μ0 μ : sm_Mem} {f : sm_M Unit} {Q : Unit → sm_Mem → Prop} {r t : Nat} (hr : r = b + 1 + i) (ht : t = a + 1 + i) (lr : ln r = n) (lt : ln t = n) (h : tkP a b μ0 8 i μ) (ex : ∀ μ', tkP a b μ0 8 (i + 1) μ' → T f μ' Q) : T (m_cpi r (0 : Int32) t (0 : Int32) (nI n) f) μ Q := by
  obtain ⟨h1, h2, h3, h4⟩ := h
  rw [t_cpi (by omega) (by omega)]
  subst hr ht
  refine ex _ ⟨?_, ?_, ?_, h4⟩
  · intro j hj
    rw [← h1 j hj]
    simp (disch := omega) only [u1_ne]
  · intro j hj z hz
    by_cases e : j = i
    · subst e
      rw [← hn] at hz
      rw [← h3 (b + 1 + j) (by omega)]
      simp (disch := omega) only [u1_at, sb_cpy0]
    · rw [← h2 j (by omega) z hz]
      simp (disch := omega) only [u1_ne]
  · intro c hc
    rw [← h3 c hc]
    simp (disch := omega) only [u1_ne]
theorem takeFrom7 {a b : Nat} {w : Nat → Nat} {μ : sm_Mem} (ha : isRv a) (hb : isRv b) (hab : a + 10 ≤ b ∨ b + 10 ≤ a) (h3 : w 3 ≤ 24) (h4 : w 4 ≤ 8) (hR : RH b w μ) : T (fnX7_takeFrom a b) μ (fun _ μ' => RH a w μ' ∧ (∀ c, (c < a ∨ a + 10 ≤ c) → μ'.1 c = μ.1 c) ∧ μ'.2 = μ.2) := by
  obtain ⟨⟨a8, a9, a10, a11, a12, a13, a14, a15, a16⟩, x1, x2, x3, x4, x5, x6, x7, x8, x9⟩ := rv_lk ha
  obtain ⟨⟨b8, b9, b10, b11, b12, b13, b14, b15, b16⟩, y1, y2, y3, y4, y5, y6, y7, y8, y9⟩ := rv_lk hb
  unfold fnX7_takeFrom
  rw [a8, a9, a10, a11, a12, a13, a14, a15, a16, b8, b9, b10, b11, b12, b13, b14, b15, b16, li_24, li_8]
  refine tk_f hab (μ0 := μ) ⟨fun j hj => absurd hj (by omega), fun j hj => absurd hj (by omega), fun _ _ => rfl, rfl⟩ (fun μ1 m1 => ?_)
  refine tk_f hab m1 (fun μ2 m2 => ?_)
  refine tk_f hab m2 (fun μ3 m3 => ?_)
  refine tk_f hab m3 (fun μ4 m4 => ?_)
  refine tk_f hab m4 (fun μ5 m5 => ?_)
  refine tk_f hab m5 (fun μ6 m6 => ?_)
  refine tk_f hab m6 (fun μ7 m7 => ?_)
  refine tk_f hab m7 (fun μ8 m8 => ?_)
  refine tk_a (i := 0) hab (by omega) rfl rfl rfl y1 x1 m8 (fun μ9 m9 => ?_)
  refine tk_a (i := 1) hab (by omega) rfl rfl rfl y2 x2 m9 (fun μ10 m10 => ?_)
  refine tk_a (i := 2) hab (by omega) rfl rfl rfl y3 x3 m10 (fun μ11 m11 => ?_)
  refine tk_a (i := 3) hab (by omega) rfl rfl rfl y4 x4 m11 (fun μ12 m12 => ?_)
  refine tk_a (i := 4) hab (by omega) rfl rfl rfl y5 x5 m12 (fun μ13 m13 => ?_)
  refine tk_a (i := 5) hab (by omega) rfl rfl rfl y6 x6 m13 (fun μ14 m14 => ?_)
  refine tk_a (i := 6) hab (by omega) rfl rfl rfl y7 x7 m14 (fun μ15 m15 => ?_)
  refine tk_a (i := 7) hab (by omega) rfl rfl rfl y8 x8 m15 (fun μ16 m16 => ?_)
  refine tk_a (i := 8) hab (by omega) rfl rfl rfl y9 x9 m16 (fun μ17 m17 => ?_)
  rw [t_ret]
  obtain ⟨f1, f2, f3, f4⟩ := m17
  obtain ⟨⟨r0, r1, r2, r3, r4, r5⟩, s1, s2, s3, s4⟩ := hR
  have g5 : ∀ j, j < 5 → ∀ z, z < 24 → μ17.1 (a + 1 + j) z = μ.1 (b + 1 + j) z := fun j hj z hz => f2 j (by omega) z (by rw [if_pos hj]; exact hz)
  have g8 : ∀ j, 5 ≤ j → j < 9 → ∀ z, z < 8 → μ17.1 (a + 1 + j) z = μ.1 (b + 1 + j) z := fun j hj hj2 z hz => f2 j (by omega) z (by rw [if_neg (by omega)]; exact hz)
  refine ⟨⟨⟨?_, ?_, ?_, ?_, ?_, ?_⟩, ?_, ?_, ?_, ?_⟩, f3, f4⟩
  · rw [f1 0 (by omega)]; exact r0
  · rw [f1 1 (by omega)]; exact r1
  · rw [f1 2 (by omega)]; exact r2
  · rw [f1 3 (by omega)]; exact r3
  · rw [f1 4 (by omega)]; exact r4
  · rw [f1 5 (by omega)]; exact r5
  · rw [f1 6 (by omega)]; exact s1
  · rw [f1 7 (by omega)]; exact s2
  · intro s hs
    obtain ⟨z1, z2, z3, z4, z5⟩ := s3 s hs
    exact ⟨(g5 0 (by omega) s (by omega)).trans z1, (g5 1 (by omega) s (by omega)).trans z2, (g5 2 (by omega) s (by omega)).trans z3, (g5 3 (by omega) s (by omega)).trans z4, (g5 4 (by omega) s (by omega)).trans z5⟩
  · intro s hs
    obtain ⟨z1, z2, z3, z4⟩ := s4 s hs
    exact ⟨(g8 5 (by omega) (by omega) s (by omega)).trans z1, (g8 6 (by omega) (by omega) s (by omega)).trans z2, (g8 7 (by omega) (by omega) s (by omega)).trans z3, (g8 8 (by omega) (by omega) s (by omega)).trans z4⟩
theorem image12_L {k : Nat} (hk : k < 3) {μ0 : sm_Mem} : ∀ (f j : Nat) (μ : sm_Mem), 241 - j < f → j ≤ 241 → (∀ a, a ≠ 148 → μ.1 a = μ0.1 a) → μ.2 = μ0.2 → (∀ i, i < j → μ.1 148 (241 * k + i) = μ0.1 147 i) → (∀ z, (z < 241 * k ∨ 241 * k + 241 ≤ z) → μ.1 148 z = μ0.1 148 z) →
    T (fnX12_image_L17 f 146 (nI k) (nI j)) μ (fun r μ' => r = 0 ∧ (∀ a, a ≠ 148 → a ≠ 149 → μ'.1 a = μ0.1 a) ∧ μ'.2 = μ0.2 ∧ (∀ i, i < 241 → μ'.1 148 (241 * k + i) = μ0.1 147 i) ∧ (∀ z, (z < 241 * k ∨ 241 * k + 241 ≤ z) → μ'.1 148 z = μ0.1 148 z) ∧ μ'.1 149 k = 1 ∧ ∀ z, z ≠ k → μ'.1 149 z = μ0.1 149 z) := by
  have e_147 : ln 147 = 241 := rfl
  have e_148 : ln 148 = 723 := rfl
  have e_149 : ln 149 = 3 := rfl
  intro f
  induction f with
  | zero =>
    intro j μ h
    omega
  | succ f ih =>
    intro j μ hf hj ho h2 hd hz
    unfold fnX12_image_L17 fnX12_image_J48
    simp (disch := (first | assumption | omega)) only [t_br, li_241, nI_leI, lk_146_1, lk_146_2, lk_146_3, pk_mul, nI_add, li_1]
    by_cases c : 241 ≤ j
    · rw [if_pos c]
      simp (disch := (first | assumption | omega)) only [t_sai, t_ret]
      have h149 := ho 149 (by omega)
      refine ⟨(by first | rfl | trivial), ?_, h2, ?_, ?_, ?_, ?_⟩
      · intro a a1 a2
        rw [← ho a a1]
        simp (disch := omega) only [u2_ne, u2_a, u2_k, u2_at]
      · intro i hi
        rw [← hd i (by omega)]
        simp (disch := omega) only [u2_ne, u2_a, u2_k, u2_at]
      · intro z hz'
        rw [← hz z hz']
        simp (disch := omega) only [u2_ne, u2_a, u2_k, u2_at]
      · simp only [u2_at]
        rfl
      · intro z hz'
        rw [← h149]
        simp (disch := omega) only [u2_ne, u2_a, u2_k, u2_at]
    · rw [if_neg c]
      simp (disch := (first | assumption | omega)) only [t_ai, t_sai]
      refine ih (j + 1) _ (by omega) (by omega) ?_ h2 ?_ ?_
      · intro a ha
        rw [← ho a ha]
        simp (disch := omega) only [u2_ne, u2_a, u2_k, u2_at]
      · intro i hi
        by_cases e : i = j
        · subst e
          have := ho 147 (by omega)
          simp (disch := (first | assumption | omega)) only [u2_at, this]
        · rw [← hd i (by omega)]
          simp (disch := omega) only [u2_ne, u2_a, u2_k, u2_at]
      · intro z hz'
        rw [← hz z hz']
        simp (disch := omega) only [u2_ne, u2_a, u2_k, u2_at]
theorem op_image (k : Int32) : op2 Inv (fnX11_image 0 k) (fnX12_image 146 k) := by
  apply t_op2
  rintro μ ⟨w, hC, hO⟩
  obtain ⟨hG, hR, hS, hW, hL, hT, hSl, hI, hF⟩ := id hC
  have n := hG.1
  have e_93 : ln 93 = 3 := rfl
  have e_94 : ln 94 = 3 := rfl
  have e_95 : ln 95 = 3 := rfl
  unfold fnX11_image fnX12_image
  rw [t_bnd, t_eq (isImage11 k μ)]
  cases hh : rg k 0 2
  · rw [t_brT (by decide), t_ret, t_bnd, t_eq (in_eq _ _ _ _), t64_0, t64_2, hh, t_brT (by decide), t_ret]
    exact ⟨rfl, w, hC, hO⟩
  rw [t_brF (by decide)]
  obtain ⟨j, -, hj, rfl⟩ := rg_nat (a := 0) (b := 2) hh (by omega)
  obtain ⟨v1, v2, v3, v4⟩ := rv_im (k := j) (by omega)
  simp (disch := (first | assumption | omega)) only [lk_0_15, lk_0_16, lk_0_17, lk_0_5, lk_0_6, t_ap, v3]
  rw [t_bnd]
  refine t_mono (takeFrom7 v1 rv_14 (Or.inr (by omega)) n.1 n.2.1 hR) ?_
  rintro - μ1 ⟨a1, a2, a3⟩
  have hS1 : SH 24 w μ1 := sh_fr (fun a q1 q2 => a2 a (by omega)) hS
  simp (disch := (first | assumption | omega)) only [t_ap, v4]
  rw [t_bnd]
  refine t_mono (takeFrom9 v2 (scK_of sc_24) (Or.inr (by omega)) hG hS1) ?_
  rintro - μ2 ⟨b1, b2, b3⟩
  simp (disch := (first | assumption | omega)) only [t_sai, t_ret]
  rw [t_bnd, t_eq (in_eq _ _ _ _), t64_0, t64_2, hh, t_brF (by decide)]
  have x1 : vp_nar .boolean (1 : Int32) = 1 := rfl
  rw [x1]
  refine t_mono (image12_L (k := j) (by omega) 4096 0 (u2 μ2.1 95 j 1, μ2.2) (by omega) (by omega) (fun _ _ => rfl) rfl (fun i hi => absurd hi (by omega)) (fun _ _ => rfl)) ?_
  rintro r μ3 ⟨c1, c2, c3, c4, c5, c6, c7⟩
  have fr : ∀ a, a ≠ 95 → a ≠ 148 → a ≠ 149 → (a < 104 + 14 * j ∨ 118 + 14 * j ≤ a) → μ3.1 a = μ.1 a := by
    intro a q1 q2 q3 q4
    rw [c2 a q2 q3]
    simp (disch := omega) only [u2_ne]
    rw [b2 a (by omega), a2 a (by omega)]
  have fl : μ3.2 = μ.2 := c3.trans (b3.trans a3)
  refine ⟨c1, w, ⟨hG, rh_fr (fun a q1 q2 => fr a (by omega) (by omega) (by omega) (by omega)) hR, sh_fr (fun a q1 q2 => fr a (by omega) (by omega) (by omega) (by omega)) hS, wh_fr (fun i _ => by rw [fr 147 (by omega) (by omega) (by omega) (by omega)]) hW, lks_fr (fun a q1 q2 => fr a (by omega) (by omega) (by omega) (by omega)) hL, ?_, ?_, ?_, ?_⟩, oh_fr (fr 42 (by omega) (by omega) (by omega) (by omega)) (fr 45 (by omega) (by omega) (by omega) (by omega)) hO⟩
  · have f146 := fr 146 (by omega) (by omega) (by omega) (by omega)
    exact tp_fr (fr 0 (by omega) (by omega) (by omega) (by omega)) (fr 1 (by omega) (by omega) (by omega) (by omega)) (fr 150 (by omega) (by omega) (by omega) (by omega)) (by rw [f146]) (by rw [f146]) (by rw [f146]) hT
  · exact sl_fr (fun a q1 q2 => fr a (by omega) (by omega) (by omega) (by omega)) (fr 168 (by omega) (by omega) (by omega) (by omega)) (fr 169 (by omega) (by omega) (by omega) (by omega)) (fun _ _ _ => by rw [fl]) (by rw [fl]) hSl
  · intro i hi
    have h95 : ∀ z, μ3.1 95 z = if z = j then 1 else μ.1 95 z := by
      intro z
      rw [c2 95 (by omega) (by omega)]
      by_cases e : z = j
      · subst e
        rw [if_pos rfl]
        simp (disch := omega) only [u2_ne, u2_a, u2_k, u2_at]
      · rw [if_neg e]
        simp (disch := omega) only [u2_k]
        rw [b2 95 (by omega), a2 95 (by omega)]
    have f149 : ∀ z, z ≠ j → μ3.1 149 z = μ.1 149 z := by
      intro z hz
      rw [c7 z hz]
      simp (disch := omega) only [u2_a]
      rw [b2 149 (by omega), a2 149 (by omega)]
    by_cases e : i = j
    · subst e
      refine ⟨by rw [h95, if_pos rfl, c6], Or.inr ⟨by rw [h95, if_pos rfl], w, hG, ?_, ?_, ?_⟩⟩
      · refine rh_fr (fun a q1 q2 => ?_) a1
        rw [c2 a (by omega) (by omega)]
        simp (disch := omega) only [u2_ne]
        rw [b2 a (by omega)]
      · refine sh_fr (fun a q1 q2 => ?_) b1
        rw [c2 a (by omega) (by omega)]
        simp (disch := omega) only [u2_ne]
      · intro z hz
        rw [c4 z hz]
        simp (disch := omega) only [u2_a]
        rw [b2 147 (by omega), a2 147 (by omega)]
        exact hW z hz
    · obtain ⟨p1, p2⟩ := hI i hi
      unfold IMk
      rw [h95, if_neg e, f149 i e]
      refine ⟨p1, ?_⟩
      rcases p2 with p2 | ⟨p2, w', g, r, s, z⟩
      · exact Or.inl p2
      · refine Or.inr ⟨p2, w', g, rh_fr (fun a q1 q2 => fr a (by omega) (by omega) (by omega) (by omega)) r, sh_fr (fun a q1 q2 => fr a (by omega) (by omega) (by omega) (by omega)) s, ?_⟩
        intro y hy
        rw [c5 _ (by omega)]
        simp (disch := omega) only [u2_a]
        rw [b2 148 (by omega), a2 148 (by omega)]
        exact z y hy
  · have f146 := fr 146 (by omega) (by omega) (by omega) (by omega)
    exact rf_fr (by rw [f146]) (by rw [f146]) (by rw [f146]) hF
theorem back12_L {k : Nat} (hk : k < 3) {μ0 : sm_Mem} : ∀ (f j : Nat) (μ : sm_Mem), 241 - j < f → j ≤ 241 → (∀ a, a ≠ 147 → μ.1 a = μ0.1 a) → μ.2 = μ0.2 → (∀ i, i < j → μ.1 147 i = μ0.1 148 (241 * k + i)) →
    T (fnX12_back_L29 f 146 (nI k) (nI j)) μ (fun r μ' => r = 0 ∧ (∀ a, a ≠ 147 → μ'.1 a = μ0.1 a) ∧ μ'.2 = μ0.2 ∧ ∀ i, i < 241 → μ'.1 147 i = μ0.1 148 (241 * k + i)) := by
  have e_147 : ln 147 = 241 := rfl
  have e_148 : ln 148 = 723 := rfl
  intro f
  induction f with
  | zero =>
    intro j μ h
    omega
  | succ f ih =>
    intro j μ hf hj ho h2 hd
    unfold fnX12_back_L29
    simp (disch := (first | assumption | omega)) only [t_br, li_241, nI_leI, lk_146_1, lk_146_2, pk_mul, nI_add, li_1, t_ret]
    by_cases c : 241 ≤ j
    · rw [if_pos c]
      exact ⟨(by first | rfl | trivial), ho, h2, fun i hi => hd i (by omega)⟩
    · rw [if_neg c]
      simp (disch := (first | assumption | omega)) only [t_ai, t_sai]
      refine ih (j + 1) _ (by omega) (by omega) ?_ h2 ?_
      · intro a ha
        rw [← ho a ha]
        simp (disch := omega) only [u2_ne, u2_a, u2_k, u2_at]
      · intro i hi
        by_cases e : i = j
        · subst e
          have := ho 148 (by omega)
          simp (disch := (first | assumption | omega)) only [u2_at, this]
        · rw [← hd i (by omega)]
          simp (disch := omega) only [u2_ne, u2_a, u2_k, u2_at]
theorem op_back (k : Int32) : op2 Inv (fnX11_back 0 k) (fnX12_back 146 k) := by
  apply t_op2
  rintro μ ⟨w, hC, hO⟩
  obtain ⟨hG, hR, hS, hW, hL, hT, hSl, hI, hF⟩ := id hC
  have n := hG.1
  have e_93 : ln 93 = 3 := rfl
  have e_94 : ln 94 = 3 := rfl
  have e_95 : ln 95 = 3 := rfl
  have e_149 : ln 149 = 3 := rfl
  unfold fnX11_back fnX12_back
  rw [t_bnd, t_eq (isImage11 k μ)]
  cases hh : rg k 0 2
  · rw [t_brT (by decide), t_ret, t_bnd, t_eq (in_eq _ _ _ _), t64_0, t64_2, hh, t_brT (by decide), t_ret]
    exact ⟨rfl, w, hC, hO⟩
  rw [t_brF (by decide)]
  obtain ⟨j, -, hj, rfl⟩ := rg_nat (a := 0) (b := 2) hh (by omega)
  obtain ⟨v1, v2, v3, v4⟩ := rv_im (k := j) (by omega)
  obtain ⟨p1, p2⟩ := hI j (by omega)
  simp (disch := (first | assumption | omega)) only [lk_0_15, lk_0_16, lk_0_17, lk_0_5, lk_0_6, lk_0_8, lk_0_11, t_ai]
  rcases p2 with p2 | ⟨p2, w', g, r, s, z⟩
  · rw [t_brT p2, t_ret, t_bnd, t_eq (in_eq _ _ _ _), t64_0, t64_2, hh, t_brF (by decide)]
    simp (disch := (first | assumption | omega)) only [lk_146_3, t_ai]
    rw [t_brT (by rw [← p1]; exact p2), t_ret]
    exact ⟨rfl, w, hC, hO⟩
  rw [t_brF (by rw [p2]; exact ok_m1)]
  have n' := g.1
  simp (disch := (first | assumption | omega)) only [t_ap, v3]
  rw [t_bnd]
  refine t_mono (takeFrom7 rv_14 v1 (Or.inl (by omega)) n'.1 n'.2.1 r) ?_
  rintro - μ1 ⟨a1, a2, a3⟩
  have s1 : SH (114 + 14 * j) w' μ1 := sh_fr (fun a q1 q2 => a2 a (by omega)) s
  simp (disch := (first | assumption | omega)) only [t_ap, v4]
  rw [t_bnd]
  refine t_mono (takeFrom9 (scK_of sc_24) v2 (Or.inl (by omega)) g s1) ?_
  rintro - μ2 ⟨b1, b2, b3⟩
  have hR2 : RH 14 w' μ2 := rh_fr (fun a q1 q2 => b2 a (by omega)) a1
  rw [t_bnd]
  refine t_mono (lay_T g hR2) ?_
  rintro - μ3 ⟨c1, c2, c3⟩
  rw [t_bnd, forget_T, t_ret, t_bnd, t_eq (in_eq _ _ _ _), t64_0, t64_2, hh, t_brF (by decide)]
  have fr : ∀ a, (a < 14 ∨ (28 ≤ a ∧ a < 33) ∨ 36 ≤ a) → a ≠ 42 → (u2 μ3.1 42 8 (mI 1), μ3.2).1 a = μ.1 a := by
    intro a q1 q2
    simp (disch := omega) only [u2_ne]
    rw [c1 a (by omega), b2 a (by omega), a2 a (by omega)]
  simp (disch := (first | assumption | omega)) only [lk_146_3, t_ai]
  rw [t_brF (by
    have := fr 149 (by omega) (by omega)
    simp only at this
    rw [this, ← p1, p2]
    exact ok_m1)]
  refine t_mono (back12_L (k := j) (by omega) 4096 0 (u2 μ3.1 42 8 (mI 1), μ3.2) (by omega) (by omega) (fun _ _ => rfl) rfl (fun i hi => absurd hi (by omega))) ?_
  rintro r' μ4 ⟨d1, d2, d3, d4⟩
  have fr4 : ∀ a, (a < 14 ∨ (28 ≤ a ∧ a < 33) ∨ 36 ≤ a) → a ≠ 42 → a ≠ 147 → μ4.1 a = μ.1 a := fun a q1 q2 q3 => (d2 a q3).trans (fr a q1 q2)
  have fl : μ4.2 = μ.2 := d3.trans (c2.trans (b3.trans a3))
  have f146 := fr4 146 (by omega) (by omega) (by omega)
  refine ⟨d1, w', ⟨g, ?_, ?_, ?_, ?_, ?_, ?_, ?_, ?_⟩, Or.inl ?_⟩
  · refine rh_fr (fun a q1 q2 => ?_) hR2
    rw [d2 a (by omega)]
    simp (disch := omega) only [u2_ne]
    rw [c1 a (by omega)]
  · refine sh_fr (fun a q1 q2 => ?_) b1
    rw [d2 a (by omega)]
    simp (disch := omega) only [u2_ne]
    rw [c1 a (by omega)]
  · intro i hi
    rw [d4 i hi, fr 148 (by omega) (by omega)]
    exact z i hi
  · refine lks_fr (fun a q1 q2 => ?_) c3
    rw [d2 a (by omega)]
    simp (disch := omega) only [u2_ne]
  · exact tp_fr (fr4 0 (by omega) (by omega) (by omega)) (fr4 1 (by omega) (by omega) (by omega)) (fr4 150 (by omega) (by omega) (by omega)) (by rw [f146]) (by rw [f146]) (by rw [f146]) hT
  · exact sl_fr (fun a q1 q2 => fr4 a (by omega) (by omega) (by omega)) (fr4 168 (by omega) (by omega) (by omega)) (fr4 169 (by omega) (by omega) (by omega)) (fun _ _ _ => by rw [fl]) (by rw [fl]) hSl
  · exact im_fr (fun a q1 q2 => fr4 a (by omega) (by omega) (by omega)) (fr4 95 (by omega) (by omega) (by omega)) (fr4 148 (by omega) (by omega) (by omega)) (fr4 149 (by omega) (by omega) (by omega)) hI
  · exact rf_fr (by rw [f146]) (by rw [f146]) (by rw [f146]) hF
  · rw [d2 42 (by omega)]
    simp (disch := omega) only [u2_ne, u2_a, u2_k, u2_at]
