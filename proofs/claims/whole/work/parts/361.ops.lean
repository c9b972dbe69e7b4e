/-! ===== hands; worlds that differ in what changes alone ===== -/
theorem hd_m1 {h : Nat} (hh : h < 2 ^ 30) : (nI h - 1 = (-1 : Int32)) ↔ h = 0 := by
  have e : (nI h - 1).toInt = (h : Int) - 1 := pk_sub_toInt (a := h) (b := 1) (by omega) (by omega)
  have e2 : (-1 : Int32).toInt = -1 := by decide
  rw [fa_eq, e, e2]
  omega
theorem hd_m1' {h : Nat} (hh : h < 2 ^ 30) : (nI h - nI 1 = mI 1) ↔ h = 0 := hd_m1 hh
theorem hd_q {h : Nat} (h0 : h ≠ 0) : nI h - nI 1 = nI (h - 1) := pk_sub (by omega)
theorem hd_q' {h : Nat} (h0 : h ≠ 0) : nI h - 1 = nI (h - 1) := pk_sub (a := h) (b := 1) (by omega)
def Same (w w' : Nat → Nat) : Prop := (∀ i, i < 7 → w' i = w i) ∧ (∀ s k, s < 25 → k < 5 → w' (10 + 7 * s + k) = w (10 + 7 * s + k)) ∧ (∀ p k, p < 8 → k < 6 → w' (185 + 7 * p + k) = w (185 + 7 * p + k))
theorem same_rf (w : Nat → Nat) : Same w w := ⟨fun _ _ => rfl, fun _ _ _ _ => rfl, fun _ _ _ _ => rfl⟩
theorem same_tr {w w1 w2 : Nat → Nat} (h : Same w w1) (h' : Same w1 w2) : Same w w2 := ⟨fun i q => (h'.1 i q).trans (h.1 i q), fun s k q1 q2 => (h'.2.1 s k q1 q2).trans (h.2.1 s k q1 q2), fun s k q1 q2 => (h'.2.2 s k q1 q2).trans (h.2.2 s k q1 q2)⟩
theorem same_up {w : Nat → Nat} {i v : Nat} (h : i = 7 ∨ (∃ s, s < 25 ∧ i = 15 + 7 * s) ∨ (∃ s, s < 25 ∧ i = 16 + 7 * s) ∨ ∃ p, i = 191 + 7 * p) : Same w (up w i v) := by
  refine ⟨fun j hj => up_ne (by rcases h with h | ⟨s, hs, h⟩ | ⟨s, hs, h⟩ | ⟨s, h⟩ <;> omega), fun s k hs hk => up_ne (by rcases h with h | ⟨s, hs, h⟩ | ⟨s, hs, h⟩ | ⟨s, h⟩ <;> omega), fun p k hp hk => up_ne (by rcases h with h | ⟨s, hs, h⟩ | ⟨s, hs, h⟩ | ⟨s, h⟩ <;> omega)⟩
theorem same_stp {w w' : Nat → Nat} (h : Same w w') (hG : Good w) {a b : Nat} (ha : a < w 3 ∨ a = 98 ∨ a = 99) (hb : b < w 3 ∨ b = 98 ∨ b = 99) (r : Nat) : stp w' a b r = stp w a b r := by
  have n24 := hG.1.1
  have e1 := h.1 1 (by omega)
  have y : ∀ a, (a < w 3 ∨ a = 98 ∨ a = 99) → yOf w' a = yOf w a := by
    intro a ha
    unfold yOf
    by_cases h1 : a = 98
    · rw [if_pos h1, if_pos h1]
    · rw [if_neg h1, if_neg h1]
      by_cases h2 : a = 99
      · rw [if_pos h2, if_pos h2, e1]
      · rw [if_neg h2, if_neg h2]
        have := h.2.1 a 1 (by omega) (by omega)
        rw [show 11 + 7 * a = 10 + 7 * a + 1 by omega]
        exact this
  unfold stp sq
  rw [y a ha, y b hb]
  by_cases c : 98 ≤ a ∨ 98 ≤ b
  · rw [if_pos c, if_pos c]
  · have x1 := h.2.1 a 0 (by omega) (by omega)
    have x2 := h.2.1 b 0 (by omega) (by omega)
    rw [Nat.add_zero] at x1 x2
    rw [if_neg c, if_neg c, x1, x2]
theorem same_rh {w w' : Nat → Nat} (h : Same w w') (hG : Good w) {r : Nat} {μ : sm_Mem} (H : RH r w μ) : RH r w' μ := by
  have n := hG.1
  obtain ⟨⟨a0, a1, a2, a3, a4, a5⟩, b, c, d, e⟩ := H
  have h3 := h.1 3 (by omega)
  have h4 := h.1 4 (by omega)
  unfold RH
  rw [h.1 0 (by omega), h.1 1 (by omega), h.1 2 (by omega), h.1 6 (by omega), h3, h4]
  have st : ∀ s, s < w 3 → ∀ k, k < 5 → w' (10 + k + 7 * s) = w (10 + k + 7 * s) := by
    intro s hs k hk
    have := h.2.1 s k (by omega) hk
    rw [show 10 + k + 7 * s = 10 + 7 * s + k by omega]
    exact this
  have pt : ∀ p, p < w 4 → ∀ k, k < 6 → w' (185 + k + 7 * p) = w (185 + k + 7 * p) := by
    intro s hs k hk
    have := h.2.2 s k (by omega) hk
    rw [show 185 + k + 7 * s = 185 + 7 * s + k by omega]
    exact this
  refine ⟨⟨a0, a1, a2, a3, a4, a5⟩, ?_, ?_, ?_, ?_⟩
  · intro p hp
    rw [b p hp]
    apply decide_eq_decide.mpr
    constructor
    · rintro ⟨q1, q2⟩
      exact ⟨q1, by rw [pt p q1 3 (by omega)]; exact q2⟩
    · rintro ⟨q1, q2⟩
      exact ⟨q1, by rw [pt p q1 3 (by omega)] at q2; exact q2⟩
  · intro p hp
    rw [c p hp]
    apply decide_eq_decide.mpr
    constructor
    · rintro ⟨q1, q2⟩
      exact ⟨q1, by rw [pt p q1 4 (by omega)]; exact q2⟩
    · rintro ⟨q1, q2⟩
      exact ⟨q1, by rw [pt p q1 4 (by omega)] at q2; exact q2⟩
  · intro s hs
    rw [st s hs 0 (by omega), st s hs 1 (by omega), st s hs 2 (by omega), st s hs 3 (by omega), st s hs 4 (by omega)]
    exact d s hs
  · intro p hp
    rw [pt p hp 0 (by omega), pt p hp 1 (by omega), pt p hp 2 (by omega), pt p hp 5 (by omega)]
    exact e p hp
theorem same_lks {w w' : Nat → Nat} (h : Same w w') (hG : Good w) {μ : sm_Mem} (H : LKS w μ) : LKS w' μ := by
  have h3 := h.1 3 (by omega)
  intro r r1 r2 s hs
  obtain ⟨a, b, c⟩ := H r r1 r2 s hs
  unfold adw
  rw [h3]
  refine ⟨?_, ?_, ?_⟩
  · rw [a]
    by_cases q : s < w 3
    · rw [same_stp h hG (Or.inr (Or.inl rfl)) (Or.inl q)]
    · rw [decide_eq_false q, Bool.false_and, Bool.false_and]
  · rw [b]
    by_cases q : s < w 3
    · rw [same_stp h hG (Or.inl q) (Or.inr (Or.inr rfl))]
    · rw [decide_eq_false q, Bool.false_and, Bool.false_and]
  · intro t ht
    rw [c t ht]
    unfold adw
    by_cases q : t < w 3 ∧ s < w 3
    · rw [same_stp h hG (Or.inl q.1) (Or.inl q.2)]
    · rw [decide_eq_false q, Bool.false_and, Bool.false_and]
theorem same_good {w w' : Nat → Nat} (h : Same w w') (hG : Good w) (d1 : w' 7 ≤ 23) (d2 : ∀ s, s < w 3 → w' (15 + 7 * s) ≤ 2 ∧ w' (16 + 7 * s) ≤ 9) (d3 : ∀ s, w 3 ≤ s → s < 25 → w' (16 + 7 * s) = 0) (d4 : ∀ p, p < w 4 → w' (191 + 7 * p) < w 3 ∨ w' (191 + 7 * p) = 98 ∨ w' (191 + 7 * p) = 99) : Good w' := by
  obtain ⟨⟨g1, g2, g3, g4, g5⟩, g6, g7, g8, g9, g10, g11, g12, g13, g14⟩ := hG
  have h3 := h.1 3 (by omega)
  have h4 := h.1 4 (by omega)
  have st : ∀ s, s < w 3 → ∀ k, k < 5 → w' (10 + k + 7 * s) = w (10 + k + 7 * s) := by
    intro s hs k hk
    have := h.2.1 s k (by omega) hk
    rw [show 10 + k + 7 * s = 10 + 7 * s + k by omega]
    exact this
  have pt : ∀ p, p < w 4 → ∀ k, k < 6 → w' (185 + k + 7 * p) = w (185 + k + 7 * p) := by
    intro s hs k hk
    have := h.2.2 s k (by omega) hk
    rw [show 185 + k + 7 * s = 185 + 7 * s + k by omega]
    exact this
  unfold Good
  rw [h.1 0 (by omega), h.1 1 (by omega), h.1 2 (by omega), h.1 6 (by omega), h3, h4]
  refine ⟨⟨g1, g2, g3, g4, d1⟩, g6, g7, ?_, d3, ?_, ?_, ?_, ?_, d4⟩
  · intro s hs
    rw [st s hs 0 (by omega), st s hs 1 (by omega), st s hs 2 (by omega), st s hs 3 (by omega), st s hs 4 (by omega)]
    have a := g8 s hs
    have b := d2 s hs
    refine ⟨a.1, a.2.1, a.2.2.1, a.2.2.2.1, a.2.2.2.2.1, a.2.2.2.2.2.1, a.2.2.2.2.2.2.1, b.1, b.2⟩
  · have e : fb_ct (fun s => decide (0 < w' (14 + 7 * s))) (w 3) = fb_ct (fun s => decide (0 < w (14 + 7 * s))) (w 3) := fb_ct_cong (fun k hk => by rw [st k hk 4 (by omega)])
    rw [e]
    exact g10
  · intro s t hs ht e1 e2
    rw [st s hs 0 (by omega), st t ht 0 (by omega)] at e1
    rw [st s hs 1 (by omega), st t ht 1 (by omega)] at e2
    exact g11 s t hs ht e1 e2
  · intro p hp
    rw [pt p hp 0 (by omega), pt p hp 1 (by omega), pt p hp 2 (by omega), pt p hp 3 (by omega), pt p hp 4 (by omega)]
    exact g12 p hp
  · intro p hp
    rw [pt p hp 5 (by omega)]
    rcases g13 p hp with q | ⟨q, a, b, c, d⟩
    · exact Or.inl q
    · exact Or.inr ⟨q, a, b, c, by rw [pt q b 5 (by omega)]; exact d⟩
theorem wh_up {a : Nat} {w : Nat → Nat} {μ : sm_Mem} {i v : Nat} {x : Int32} (H : WH a w μ) (hx : x = eI i v) : WH a (up w i v) (u2 μ.1 a i x, μ.2) := by
  intro j hj
  by_cases e : j = i
  · subst e
    rw [up_at, ← hx]
    exact u2_at
  · rw [up_ne e, ← H j hj]
    exact u2_k e
/-! ===== person, end, hour, know, fresh ===== -/
theorem hand14 {w : Nat → Nat} {μ : sm_Mem} (hR : RH 14 w μ) {p : Nat} (hp : p < w 4) : μ.1 23 p = nI (w (190 + 7 * p)) - nI 1 := (hR.2.2.2.2 p hp).2.2.2
theorem op_person (p k : Int32) : op2 Inv (fnX11_person 0 p k) (fnX12_person 146 p k) := by
  apply op_ro
  rintro w μ ⟨hG, hR, hS, hW, -⟩
  unfold fnX11_person fnX12_person
  simp only [m_bnd, m_br, m_ret, lk_0_5, lk_0_6, isPerson11 hR hG, isPerson12 hW hG, in_eq, t64_0, t64_2, bI_0]
  cases hA : rg p 0 ((w 4 : Int) - 1)
  · exact ⟨_, rfl, rfl⟩
  have n24 := hG.1
  obtain ⟨j, hj, rfl⟩ := rg_nI hA (by omega)
  have b1 : μ.1 27 j = nI (w (191 + 7 * j)) := hS.2.2.2 j hj
  have b2 := hand14 hR hj
  have b3 : fnX12_of 146 (nI j) (nI 5) μ = some (nI (w (190 + 7 * j)) - nI 1, μ) := ofH_eq hW (by omega)
  have g := hG.2.2.2.2.2.2.2.2.1 j hj
  have hl : w (190 + 7 * j) ≤ 8 := by
    rcases g with q | ⟨q, a, b, -⟩ <;> omega
  have e_27 : ln 27 = 8 := rfl
  have e_23 : ln 23 = 8 := rfl
  have f6 : 185 + 7 * j + 6 = 191 + 7 * j := by omega
  have hu : fnX7_unitOf 14 (nI j) μ = some (if w (190 + 7 * j) = 0 ∨ j < w (190 + 7 * j) - 1 then nI j else nI (w (190 + 7 * j)) - nI 1, μ) := by
    unfold fnX7_unitOf jmin
    simp (disch := (first | assumption | omega)) only [m_bnd, m_br, m_gi, m_gl, m_ret, m_nm, e_ai, e_al, e_ap, lk_14_16, b2, ↓lm_1, hd_m1']
    by_cases h0 : w (190 + 7 * j) = 0
    · rw [if_pos h0, if_pos (Or.inl h0)]
    · rw [if_neg h0]
      simp (disch := (first | assumption | omega)) only [hd_q h0, nI_ltI]
      (repeat' split) <;> first | rfl | (exfalso; omega)
  have hl' : fnX12_leads 146 (nI j) μ = some (decide (w (190 + 7 * j) = 0 ∨ j < w (190 + 7 * j) - 1), μ) := by
    unfold fnX12_leads
    simp (disch := (first | assumption | omega)) only [m_bnd, m_br, m_gi, m_gl, m_ret, m_nm, e_ai, e_al, e_ap, li_5, b3, ↓lm_1, hd_m1']
    by_cases h0 : w (190 + 7 * j) = 0
    · rw [if_pos h0, decide_eq_true (Or.inl h0)]
    · rw [if_neg h0]
      simp (disch := (first | assumption | omega)) only [hd_q h0, nI_leI]
      by_cases c : w (190 + 7 * j) - 1 ≤ j
      · rw [if_pos c, decide_eq_false (by omega)]
      · rw [if_neg c, decide_eq_true (by omega)]
  cases hk : rg k 0 2
  · have no : ∀ z : Nat, z ≤ 2 → ¬ k = nI z := by
      intro z hz e
      subst e
      rw [rg_of (by omega) (by omega) (by omega)] at hk
      cases hk
    refine ⟨-2, ?_, rfl⟩
    rw [if_neg (by decide), if_neg (show ¬ k = 0 from no 0 (by omega)), if_neg (show ¬ k = 1 from no 1 (by omega)), if_neg (show ¬ k = 2 from no 2 (by omega))]
  obtain ⟨k', -, h2, rfl⟩ := rg_nat (a := 0) (b := 2) hk (by omega)
  simp (disch := (first | assumption | omega)) only [li_0, li_1, li_2, li_5, li_6, nI_eq, lk_14_16, lk_24_4, e_ai, b1, b2, b3, hu, hl', bI_n0, bI_0, of_eq hW, f6, m_ret]
  have cs : k' = 0 ∨ k' = 1 ∨ k' = 2 := by omega
  rcases cs with rfl | rfl | rfl
  · exact ⟨nI (w (191 + 7 * j)), by simp, by simp⟩
  · exact ⟨nI (w (190 + 7 * j)) - nI 1, by simp, by simp⟩
  · by_cases c : w (190 + 7 * j) = 0 ∨ j < w (190 + 7 * j) - 1
    · exact ⟨nI j, by simp [c], by simp [c]⟩
    · exact ⟨nI (w (190 + 7 * j)) - nI 1, by simp [c], by simp [c]⟩
theorem op_end (n : Int32) : op2 Inv (fnX11_end 0 n) (fnX12_end 146 n) := by
  apply t_op2
  rintro μ ⟨w, ⟨hG, hR, hS, hW, hL, hT, hSl, hI, hF⟩, hO⟩
  obtain ⟨⟨k, hk, t1, t2, t3⟩, t4, t5⟩ := id hT
  have r : rg n 0 k = decide (¬ n < 0 ∧ n ≤ nI k) := by
    unfold rg
    apply decide_eq_decide.mpr
    rw [fa_lt, fa_le, nI_toInt (by omega)]
    have : (0 : Int32).toInt = 0 := by decide
    omega
  have hin : ∀ μ1, fnX12_in n.toInt64 (0 : Int64) (nI k).toInt64 μ1 = some (rg n 0 k, μ1) := by
    intro μ1
    rw [in_eq, Int32.toInt_toInt64, nI_toInt (by omega), t64_0]
  unfold fnX11_end fnX12_end
  simp only [t_br, t_ret, t_gi, t_si, t_bnd, t1]
  by_cases c1 : n < 0
  · rw [if_pos c1]
    simp only [t2, t_eq (hin μ), r, bI_0]
    rw [if_pos (by simp [c1])]
    exact ⟨trivial, w, ⟨hG, hR, hS, hW, hL, hT, hSl, hI, hF⟩, hO⟩
  · rw [if_neg c1]
    by_cases c2 : n ≤ nI k
    · rw [if_pos c2]
      have q : u2 μ.1 0 1 n 146 5 = nI k := (u2_a (show 146 ≠ 0 by omega)).trans t2
      simp only [q, t_eq (hin _), r, bI_0]
      rw [if_neg (by simp [c1, c2])]
      obtain ⟨j, hj, rfl⟩ := nI_of2 (n := k) (nI_toInt (by omega)) c1 c2
      refine ⟨trivial, w, ⟨hG, ?_, ?_, ?_, ?_, ?_, ?_, ?_, ?_⟩, ?_⟩
      · exact rh_fr (fun a h1 h2 => (by simp (disch := omega) only [u2_ne, u2_a, u2_k, u2_at])) hR
      · exact sh_fr (fun a h1 h2 => (by simp (disch := omega) only [u2_ne, u2_a, u2_k, u2_at])) hS
      · exact wh_fr (fun a h1 => (by simp (disch := omega) only [u2_ne, u2_a, u2_k, u2_at])) hW
      · exact lks_fr (fun a h1 h2 => (by simp (disch := omega) only [u2_ne, u2_a, u2_k, u2_at])) hL
      · refine ⟨⟨j, by omega, (by simp (disch := omega) only [u2_ne, u2_a, u2_k, u2_at]), (by simp (disch := omega) only [u2_ne, u2_a, u2_k, u2_at]), ?_⟩, ?_, ?_⟩
        · intro i hi
          have a := t3 i (by omega)
          have e1 : (u2 (u2 μ.1 0 1 (nI j)) 146 5 (nI j)) 1 i = μ.1 1 i := (by simp (disch := omega) only [u2_ne, u2_a, u2_k, u2_at])
          have e2 : (u2 (u2 μ.1 0 1 (nI j)) 146 5 (nI j)) 150 i = μ.1 150 i := (by simp (disch := omega) only [u2_ne, u2_a, u2_k, u2_at])
          show (u2 (u2 μ.1 0 1 (nI j)) 146 5 (nI j)) 1 i = (u2 (u2 μ.1 0 1 (nI j)) 146 5 (nI j)) 150 i ∧ _ ≤ ((u2 (u2 μ.1 0 1 (nI j)) 146 5 (nI j)) 1 i).toInt ∧ ((u2 (u2 μ.1 0 1 (nI j)) 146 5 (nI j)) 1 i).toInt < _
          rw [e1, e2]
          exact a
        · have z : μ.1 0 2 = μ.1 146 12 := t4
          simpa (disch := omega) only [u2_ne, u2_a, u2_k, u2_at] using z
        · have z : μ.1 0 3 = μ.1 146 13 := t5
          simpa (disch := omega) only [u2_ne, u2_a, u2_k, u2_at] using z
      · exact sl_fr (μ := μ) (fun a h1 h2 => (by simp (disch := omega) only [u2_ne, u2_a, u2_k, u2_at])) (by simp (disch := omega) only [u2_ne, u2_a, u2_k, u2_at]) (by simp (disch := omega) only [u2_ne, u2_a, u2_k, u2_at]) (fun _ _ _ => rfl) rfl hSl
      · exact im_fr (fun a h1 h2 => (by simp (disch := omega) only [u2_ne, u2_a, u2_k, u2_at])) ((by simp (disch := omega) only [u2_ne, u2_a, u2_k, u2_at])) ((by simp (disch := omega) only [u2_ne, u2_a, u2_k, u2_at])) ((by simp (disch := omega) only [u2_ne, u2_a, u2_k, u2_at])) hI
      · obtain ⟨z1, z2, z3⟩ := hF
        refine ⟨?_, ?_, ?_⟩
        · simpa (disch := omega) only [u2_ne, u2_a, u2_k, u2_at] using z1
        · simpa (disch := omega) only [u2_ne, u2_a, u2_k, u2_at] using z2
        · simpa (disch := omega) only [u2_ne, u2_a, u2_k, u2_at] using z3
      · exact oh_fr ((by simp (disch := omega) only [u2_ne, u2_a, u2_k, u2_at])) ((by simp (disch := omega) only [u2_ne, u2_a, u2_k, u2_at])) hO
    · rw [if_neg c2]
      simp only [t_gi, t2, t_eq (hin μ), r, bI_0, t_bnd, t_br, t_ret, t_si]
      rw [if_pos (by simp [c2])]
      exact ⟨trivial, w, ⟨hG, hR, hS, hW, hL, hT, hSl, hI, hF⟩, hO⟩
