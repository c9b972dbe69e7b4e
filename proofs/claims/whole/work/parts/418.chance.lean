/-! ===== CHANCES: the component's outer loop ===== -/
theorem lN_I {n : Nat} (h : n < 2 ^ 62) : (lN n).toInt = (n : Int) := lg_ofNat_toInt (by omega)
theorem cmp_le {a b : Nat} (ha : a < 2 ^ 62) (hb : b < 2 ^ 62) : (lg_cmp (lN a) (lN b) ≤ 0) ↔ a ≤ b := by
  rw [lg_cmp_le, fa_le64, lN_I ha, lN_I hb]
  omega
theorem cmp_gt {a b : Nat} (ha : a < 2 ^ 62) (hb : b < 2 ^ 62) : (0 < lg_cmp (lN a) (lN b)) ↔ b < a := by
  rw [lg_cmp_gt, fa_lt64, lN_I ha, lN_I hb]
  omega
theorem shl4 {k : Nat} (h : k ≤ 4) : (1 : Int32) <<< (nI k &&& 31) = nI (2 ^ k) := by
  have cs : k = 0 ∨ k = 1 ∨ k = 2 ∨ k = 3 ∨ k = 4 := by omega
  rcases cs with rfl | rfl | rfl | rfl | rfl <;> decide
theorem chance131 {c : Nat} {k36 : Nat → Nat → Int32 → Int32 → Int64 → Int32 → sm_M Int64} {Q : Int64 → sm_Mem → Prop} {w : Nat → Nat} {op rk D : Nat → Bool} {r best h d : Nat} {v4 m : Int32} {μ : sm_Mem} (hG : Good w) (hL : LKS w μ) (hr : 1 ≤ r) (hr9 : r ≤ 9) (hb : best ≤ 1000000000) (hh : h ≤ 1000000000) (hm : ∀ s, s < 32 → bt m s = (decide (s < w 3) && alw op rk D s))
    (ex : ∀ best', best' ≤ 1000000000 → best ≤ best' → (crD w op rk r D → h ≤ best') → (best' = best ∨ (best' = h ∧ crD w op rk r D)) → T (k36 74 c (nI r) v4 (lN best') (nI (d + 1))) μ Q) :
    T (fnX1_chance_J131 k36 74 c (nI r) v4 (lN best) (nI d) (lN h) m) μ Q := by
  unfold fnX1_chance_J131 fnX1_chance_J156
  rw [nI_1]
  by_cases c1 : h ≤ best
  · rw [t_brT ((cmp_le (by omega) (by omega)).mpr c1)]
    exact ex best hb (Nat.le_refl _) (fun _ => c1) (Or.inl rfl)
  · rw [t_brF (fun z => c1 ((cmp_le (by omega) (by omega)).mp z)), lk_74_0]
    obtain ⟨x, e, hx⟩ := crosses_eq (op := alw op rk D) hL hG hr hr9 hm
    rw [t_bnd, t_eq e]
    cases x
    · rw [t_brT (by decide)]
      refine ex best hb (Nat.le_refl _) (fun q => ?_) (Or.inl rfl)
      exact absurd (hx.mpr q) (by decide)
    · rw [t_brF (by decide)]
      exact ex h hh (by omega) (fun _ => Nat.le_refl _) (Or.inr ⟨rfl, hx.mp rfl⟩)
theorem chance36 {c : Nat} (hc : isSc c) {w : Nat → Nat} (hG : Good w) {r wt : Nat} (hr : 1 ≤ r) (hr9 : r ≤ 9) (hw2 : wt < 100) {μ : sm_Mem} (hR : RH 14 w μ) (hL : LKS w μ) (h2 : μ.1 74 2 = nI (fb_ct (rkW w wt) (w 3))) (h75 : ∀ t, t < w 3 → rkW w wt t = true → μ.1 75 (fb_ct (rkW w wt) t) = nI t) :
    ∀ (f d best : Nat), 16 - d < f → d ≤ 2 ^ fb_ct (rkW w wt) (w 3) → best ≤ 1000000000 → (∀ d', d' < d → crD w (opn w wt) (rkW w wt) r (dOf (rkW w wt) d') → HD (w 3) (rkW w wt) (dN w) (dOf (rkW w wt) d') ≤ best) → (best = 0 ∨ ∃ D, crD w (opn w wt) (rkW w wt) r D ∧ best = HD (w 3) (rkW w wt) (dN w) D) →
    T (fnX1_chance_L36 f 74 c (nI r) (mk (opn w wt) (w 3)) (lN best) (nI d)) μ (fun x μ' => (∃ v, x = lN v ∧ v ≤ 1000000000 ∧ SurP w (opn w wt) (rkW w wt) (dN w) r v) ∧ μ' = μ) := by
  have r4c := rk_4 hG wt
  have p16 : 2 ^ fb_ct (rkW w wt) (w 3) ≤ 16 := Nat.pow_le_pow_right (n := 2) (by omega) r4c
  intro f
  induction f with
  | zero =>
    intro d best h
    omega
  | succ f ih =>
    intro d best hf hd hb h1 h3
    unfold fnX1_chance_L36
    rw [t_gi, h2, shl4 r4c]
    by_cases c1 : 2 ^ fb_ct (rkW w wt) (w 3) ≤ d
    · rw [t_brT (nI_le c1 (by omega)), t_ret]
      refine ⟨⟨best, rfl, hb, ?_, h3⟩, rfl⟩
      intro D hD
      obtain ⟨d', e1, e2⟩ := mask_ex r4c D
      have eH : HD (w 3) (rkW w wt) (dN w) (dOf (rkW w wt) d') = HD (w 3) (rkW w wt) (dN w) D := hd_cong e2
      rw [← eH]
      refine h1 d' (by omega) ?_
      obtain ⟨s, s1, s2, s3⟩ := hD
      refine ⟨s, s1, s2, rch_mono ?_ s3⟩
      intro x hx ha
      unfold alw at *
      cases hrx : rkW w wt x
      · rw [hrx] at ha
        exact ha
      · rw [e2 x hx hrx]
        rw [hrx] at ha
        exact ha
    · rw [t_brF (nI_ge (by omega) (by omega))]
      have e0 : (1000000000 : Int64) = lN (HD (w 3) (rkW w wt) (dN w) (dUp (rkW w wt) d 0)) := by
        rw [show HD (w 3) (rkW w wt) (dN w) (dUp (rkW w wt) d 0) = 1000000000 from ?_]
        · rfl
        · rw [← hd_0 (n := w 3) (rk := rkW w wt) (N := dN w) r4c]
          apply hd_cong
          intro s _ _
          unfold dUp
          rw [decide_eq_false (by omega), Bool.and_false]
      rw [e0]
      refine chance59 hc hG hw2 (show d < 16 by omega) hR h2 h75 ?_ 4096 0 _ (by omega) (by omega) ?_
      · intro m hm
        refine chance131 hG hL hr hr9 hb (hd_le r4c _) hm ?_
        intro best' b1 b2 b3 b4
        have t1 : 16 - (d + 1) < f := by clear b4 h3; omega
        have t2 : d + 1 ≤ 2 ^ fb_ct (rkW w wt) (w 3) := by clear b4 h3; omega
        refine ih (d + 1) best' t1 t2 b1 ?_ ?_
        · intro d' hd' hcr
          by_cases ce : d' = d
          · rw [ce]
            rw [ce] at hcr
            exact b3 hcr
          · have := h1 d' (by omega) hcr
            omega
        · rcases b4 with z | ⟨z, q⟩
          · rw [z]
            exact h3
          · exact Or.inr ⟨_, q, z⟩
      · intro s hs
        rw [opn_hom hG wt s hs]
        unfold aUp
        rw [decide_eq_false (show ¬ fb_ct (rkW w wt) s < 0 by omega), Bool.and_false]
        simp
theorem chance11_T {c : Nat} (hc : isSc c) {w : Nat → Nat} (hG : Good w) {r wt : Nat} (hr : 1 ≤ r) (hr9 : r ≤ 9) (hw2 : wt < 100) {μ : sm_Mem} (hR : RH 14 w μ) (hS : SH c w μ) (hL : LKS w μ) :
    T (fnX1_chance 74 c (nI r) (nI wt)) μ (fun x μ' => x = lN (sureW w r wt) ∧ sureW w r wt ≤ 1000000000 ∧ (∀ a, a ≠ 74 → a ≠ 75 → μ'.1 a = μ.1 a) ∧ μ'.2 = μ.2) := by
  obtain ⟨k0, -⟩ := sc_lk hc
  have hcc : c + 4 ≤ 74 ∨ 76 ≤ c := by
    unfold isSc at hc
    simp only [List.mem_cons, List.not_mem_nil, or_false] at hc
    omega
  have n := hG.1
  have w1 : w 1 ≤ 12 := by
    rcases Nat.eq_zero_or_pos (w 0) with z | z
    · have := hG.2.1 z
      omega
    · have := hG.2.2.1 z
      omega
  unfold fnX1_chance
  rw [k0, t_gi, hR.1.2.1]
  by_cases c1 : w 1 ≤ r
  · rw [t_brF (nI_nlt c1 (by omega)), t_ret]
    have e : sureW w r wt = 1000000000 := by
      unfold sureW
      rw [if_pos c1]
    rw [e]
    exact ⟨rfl, Nat.le_refl _, fun _ _ _ => rfl, rfl⟩
  · rw [t_brT (nI_lt (by omega) (by omega)), t_bnd, t_eq (openFor_eq hR hS hc hG hw2), t_bnd]
    unfold fnX1_gather
    rw [t_si]
    refine t_mono (gather_L hc hG hw2 (μ0 := (u2 μ.1 74 2 (nI 0), μ.2)) (rh_fr (fun a _ _ => (by simp (disch := omega) only [u2_ne, u2_a, u2_k, u2_at])) hR) (sh_fr (fun a _ _ => (by simp (disch := omega) only [u2_ne, u2_a, u2_k, u2_at])) hS) 4096 0 _ (by omega) (by omega) (by simp (disch := omega) only [u2_ne, u2_a, u2_k, u2_at]; rfl) (fun t ht => by omega) (fun _ _ _ => rfl) rfl) ?_
    rintro u μ1 ⟨a1, a2, a3, a4⟩
    have fr : ∀ a, a ≠ 74 → a ≠ 75 → μ1.1 a = μ.1 a := by
      intro a q1 q2
      rw [a3 a q1 q2]
      simp (disch := omega) only [u2_ne, u2_a, u2_k, u2_at]
    refine t_mono (chance36 hc hG hr hr9 hw2 (rh_fr (fun a _ _ => fr a (by omega) (by omega)) hR) (lks_fr (fun a _ _ => fr a (by omega) (by omega)) hL) a1 a2 4096 0 0 (by omega) (Nat.zero_le _) (by omega) (fun d' h => by omega) (Or.inl rfl)) ?_
    rintro x μ2 ⟨⟨v, e1, e2, e3⟩, rfl⟩
    rw [sureW_eq c1 e3]
    exact ⟨e1, e2, fr, a4⟩
