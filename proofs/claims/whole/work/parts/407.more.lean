/-! ===== MORE ===== -/
noncomputable def moreW (w : Nat → Nat) (x y bv r : Nat) : Nat := if w 1 ≤ r then 999 else netV (prP w 24) (up (sx w) 24 x) (up (sy w) 24 y) (up (fun s => lf w s / 1) 24 bv) (w 1) r
/-- so many numbers, and one at 24 -/
def rh24 (n k : Nat) : Nat := if k < n then k else 24
theorem minC_24 {n : Nat} (hn : n ≤ 24) {gx gy b : Nat → Nat} {W r v : Nat} {E L : Nat → Bool} (H : MinC (n + 1) (fun k => b (rh24 n k)) (pNear none (fun k => gy (rh24 n k)) r) (pFar none W (fun k => gy (rh24 n k)) r) (pAdj none (fun k => gx (rh24 n k)) (fun k => gy (rh24 n k)) r) v E L) : ∃ E' L', MinC 25 (zB (fun s => decide (s < n ∨ s = 24)) b) (zNear (fun s => decide (s < n ∨ s = 24)) gy r) (zFar (fun s => decide (s < n ∨ s = 24)) W gy r) (zAdj (fun s => decide (s < n ∨ s = 24)) gx gy r) v E' L' := by
  have r1 : ∀ k, k < n → rh24 n k = k := fun k hk => by unfold rh24; rw [if_pos hk]
  have r2 : rh24 n n = 24 := by unfold rh24; rw [if_neg (by omega)]
  have pk : ∀ k, k < n + 1 → decide (rh24 n k < n ∨ rh24 n k = 24) = true := by
    intro k hk
    by_cases c : k < n
    · rw [r1 k c]
      exact decide_eq_true (Or.inl c)
    · have : k = n := by omega
      rw [this, r2]
      exact decide_eq_true (Or.inr rfl)
  refine ⟨_, _, minC_map (ρ := rh24 n) (inv := fun s => if s < n then s else n) (pr := fun s => decide (s < n ∨ s = 24)) (m := n + 1) ?_ ?_ ?_ ?_ ?_ (minC_cong ?_ ?_ H)⟩
  · intro k hk
    refine ⟨?_, pk k hk, ?_⟩
    · unfold rh24
      split <;> omega
    · show (if rh24 n k < n then rh24 n k else n) = k
      by_cases c : k < n
      · rw [r1 k c, if_pos c]
      · have : k = n := by omega
        rw [this, r2, if_neg (by omega)]
  · intro s hs hp
    have hp := of_decide_eq_true hp
    show (if s < n then s else n) < n + 1 ∧ rh24 n (if s < n then s else n) = s
    by_cases c : s < n
    · rw [if_pos c]
      exact ⟨by omega, r1 s c⟩
    · rw [if_neg c, r2]
      omega
  · intro F hF
    have e1 : fb_sm F 25 = fb_sm F 24 + F 24 := fb_sm_succ F 24
    have e2 : fb_sm F 24 = fb_sm F n := sm_tail hn (fun k q1 q2 => hF k (by omega) (decide_eq_false (by omega)))
    have e3 : fb_sm (fun k => F (rh24 n k)) (n + 1) = fb_sm (fun k => F (rh24 n k)) n + F (rh24 n n) := fb_sm_succ _ n
    have e4 : fb_sm (fun k => F (rh24 n k)) n = fb_sm F n := fb_sm_cong (fun k hk => by rw [r1 k hk])
    rw [e1, e2, e3, e4, r2]
  · intro s hs hp
    have hp : decide (s < n ∨ s = 24) = false := hp
    unfold zB zNear
    show (if decide (s < n ∨ s = 24) = true then b s else 0) = 0 ∧ (decide (s < n ∨ s = 24) && gNear gy r s) = false
    rw [hp]
    exact ⟨rfl, rfl⟩
  · intro s t hst
    unfold zAdj at hst
    simp only [Bool.and_eq_true] at hst
    exact hst.1.2
  · intro k hk
    show b (rh24 n k) = (if decide (rh24 n k < n ∨ rh24 n k = 24) = true then b (rh24 n k) else 0)
    rw [pk k hk, if_pos rfl]
  · intro k hk
    refine ⟨?_, ?_, fun l hl => ?_⟩
    · show (false || gNear (fun k => gy (rh24 n k)) r k) = (decide (rh24 n k < n ∨ rh24 n k = 24) && gNear gy r (rh24 n k))
      rw [pk k hk]
      rfl
    · show (false || gFar W (fun k => gy (rh24 n k)) r k) = (decide (rh24 n k < n ∨ rh24 n k = 24) && gFar W gy r (rh24 n k))
      rw [pk k hk]
      rfl
    · show (decide (k ≠ l) && (false || gAdj (fun k => gx (rh24 n k)) (fun k => gy (rh24 n k)) r k l)) = ((decide (rh24 n k < n ∨ rh24 n k = 24) && decide (rh24 n l < n ∨ rh24 n l = 24)) && gAdj gx gy r (rh24 n k) (rh24 n l))
      rw [pk k hk, pk l hl, Bool.false_or]
      have inj : rh24 n k = rh24 n l ↔ k = l := by
        unfold rh24
        split <;> split <;> omega
      unfold gAdj gSq
      by_cases c : k = l
      · rw [decide_eq_false (fun z => z c), Bool.false_and, decide_eq_false (p := rh24 n k ≠ rh24 n l ∧ _) (fun z => z.1 (inj.mpr c))]
        rfl
      · rw [decide_eq_true c, Bool.true_and, Bool.true_and]
        apply decide_eq_decide.mpr
        exact ⟨fun z => ⟨fun q => c (inj.mp q), z.2⟩, fun z => ⟨c, z.2⟩⟩
theorem withMore12_T {w : Nat → Nat} (hG : Good w) {x y bv r : Nat} (h9 : r ≤ 9) (hx : x < w 2) (hy : y ≤ w 1) (hb : bv ≤ 9) {μ : sm_Mem} (hW : WH 147 w μ) (h39 : μ.1 146 39 = mI 1) : T (fnX12_withMore 146 (nI x) (nI y) (nI bv) (nI r)) μ (fun z μ' => z = nI (moreW w x y bv r) ∧ (r < w 1 → ∃ E L, MinC 25 (zB (prP w 24) (up (fun s => lf w s / 1) 24 bv)) (zNear (prP w 24) (up (sy w) 24 y) r) (zFar (prP w 24) (w 1) (up (sy w) 24 y) r) (zAdj (prP w 24) (up (sx w) 24 x) (up (sy w) 24 y) r) (moreW w x y bv r) E L) ∧ FrN μ μ') := by
  have n := hG.1
  have gw := good_wide hG
  obtain ⟨w12, hgx, hgy⟩ := geo hG
  unfold fnX12_withMore
  rw [li_1, t_bnd]
  refine t_mono (fillNodes_T hG (by omega) (by omega) hW) ?_
  rintro - μ1 ⟨N1, f1⟩
  rw [t_bnd]
  refine t_mono (addNode_T (by omega) N1 x y bv) ?_
  rintro - μ2 ⟨N2, f2⟩
  have fr := frN_tr f1 f2
  have p39 : μ2.1 146 39 = mI 1 := (fr.2.1 39 (by omega)).trans h39
  have e1 : ∀ s, s < w 3 → rh24 (w 3) s = s := fun s hs => by unfold rh24; rw [if_pos hs]
  have e2 : rh24 (w 3) (w 3) = 24 := by unfold rh24; rw [if_neg (by omega)]
  have N3 : NdH (w 3 + 1 + 2) (ndx (fun k => up (sx w) 24 x (rh24 (w 3) k))) (ndy (w 1) (fun k => up (sy w) 24 y (rh24 (w 3) k))) (ndh (fun k => if k < w 3 + 1 then up (fun s => lf w s / 1) 24 bv (rh24 (w 3) k) else 0)) μ2 := by
    refine ndH_cong N2 ?_ ?_ ?_
    · intro k hk
      by_cases c : k = w 3 + 2
      · rw [c, up_at]
        unfold ndx
        rw [if_neg (by omega), show w 3 + 2 - 2 = w 3 by omega]
        show x = up (sx w) 24 x (rh24 (w 3) (w 3))
        rw [e2, up_at]
      · rw [up_ne c]
        unfold ndx
        by_cases c2 : k < 2
        · rw [if_pos c2, if_pos c2]
        · rw [if_neg c2, if_neg c2]
          show sx w (k - 2) = up (sx w) 24 x (rh24 (w 3) (k - 2))
          rw [e1 (k - 2) (by omega), up_ne (by omega)]
    · intro k hk
      by_cases c : k = w 3 + 2
      · rw [c, up_at]
        unfold ndy
        rw [if_neg (by omega), if_neg (by omega), show w 3 + 2 - 2 = w 3 by omega]
        show y = up (sy w) 24 y (rh24 (w 3) (w 3))
        rw [e2, up_at]
      · rw [up_ne c]
        unfold ndy
        by_cases c2 : k = 0
        · rw [if_pos c2, if_pos c2]
        · rw [if_neg c2, if_neg c2]
          by_cases c3 : k = 1
          · rw [if_pos c3, if_pos c3]
          · rw [if_neg c3, if_neg c3]
            show sy w (k - 2) = up (sy w) 24 y (rh24 (w 3) (k - 2))
            rw [e1 (k - 2) (by omega), up_ne (by omega)]
    · intro k hk
      by_cases c : k = w 3 + 2
      · rw [c, up_at]
        unfold ndh
        rw [if_neg (by omega), show w 3 + 2 - 2 = w 3 by omega]
        show bv = (if w 3 < w 3 + 1 then up (fun s => lf w s / 1) 24 bv (rh24 (w 3) (w 3)) else 0)
        rw [if_pos (by omega), e2, up_at]
      · rw [up_ne c]
        unfold ndh
        by_cases c2 : k < 2
        · rw [if_pos c2, if_pos c2]
        · rw [if_neg c2, if_neg c2]
          show lf w (k - 2) / 1 = (if k - 2 < w 3 + 1 then up (fun s => lf w s / 1) 24 bv (rh24 (w 3) (k - 2)) else 0)
          rw [if_pos (by omega), e1 (k - 2) (by omega), up_ne (by omega)]
  have kx : ∀ s, s < w 3 + 1 → up (sx w) 24 x (rh24 (w 3) s) ≤ 20 := by
    intro s hs
    by_cases c : s < w 3
    · rw [e1 s c, up_ne (by omega)]
      exact hgx s c
    · have : s = w 3 := by omega
      rw [this, e2, up_at]
      omega
  have ky : ∀ s, s < w 3 + 1 → up (sy w) 24 y (rh24 (w 3) s) ≤ w 1 := by
    intro s hs
    by_cases c : s < w 3
    · rw [e1 s c, up_ne (by omega)]
      exact hgy s c
    · have : s = w 3 := by omega
      rw [this, e2, up_at]
      omega
  have kb : ∀ s, (fun k => if k < w 3 + 1 then up (fun s => lf w s / 1) 24 bv (rh24 (w 3) k) else 0) s ≤ 9 := by
    intro s
    show (if s < w 3 + 1 then up (fun s => lf w s / 1) 24 bv (rh24 (w 3) s) else 0) ≤ 9
    by_cases c : s < w 3 + 1
    · rw [if_pos c]
      by_cases c2 : s < w 3
      · rw [e1 s c2, up_ne (by omega)]
        have := lf_le hG c2
        show lf w s / 1 ≤ 9
        rw [Nat.div_one]
        omega
      · have : s = w 3 := by omega
        rw [this, e2, up_at]
        omega
    · rw [if_neg c]
      omega
  rw [t_bnd]
  unfold moreW
  by_cases c1 : r < w 1
  · rw [if_neg (by omega)]
    refine t_mono (flowN_T (n := w 3 + 1) (po := none) (by omega) h9 w12 kx ky kb rfl c1 N3 p39) ?_
    rintro z μ3 ⟨v, S, q1, q2, q3, q4, q5⟩
    rw [t_ret]
    obtain ⟨E', L', m25⟩ := minC_24 (b := up (fun s => lf w s / 1) 24 bv) n.1 (minC_cong (b' := fun k => up (fun s => lf w s / 1) 24 bv (rh24 (w 3) k)) (fun s hs => by
      show (if s < w 3 + 1 then up (fun s => lf w s / 1) 24 bv (rh24 (w 3) s) else 0) = _
      rw [if_pos hs]) (fun s hs => ⟨rfl, rfl, fun t ht => rfl⟩) q3)
    have ev : netV (prP w 24) (up (sx w) 24 x) (up (sy w) 24 y) (up (fun s => lf w s / 1) 24 bv) (w 1) r = v := mcV_eq m25
    exact ⟨by rw [ev]; exact q1, fun _ => ⟨E', L', by rw [ev]; exact m25⟩, frN_tr fr (frR_N q5)⟩
  · rw [if_pos (by omega), t_eq (flowN_999 (n := w 3 + 1) (po := none) (by omega) h9 w12 kx ky (Or.inr (by omega)) N3 p39), t_ret]
    exact ⟨rfl, fun z => absurd z c1, fr⟩
theorem prM_24 {w : Nat → Nat} (hG : Good w) : prM w 24 = prW w := by
  have n := hG.1
  funext s
  unfold prM prW
  apply decide_eq_decide.mpr
  omega
theorem zB_24 {w : Nat → Nat} (hG : Good w) {bv : Nat} (hb : bv ≤ 9) : ∀ s, s < 25 → zB (prP w 24) (up (fun s => lf w s / 1) 24 bv) s ≤ 9 := by
  have n := hG.1
  intro s _
  unfold zB prP
  by_cases c : s = 24
  · subst c
    rw [up_at]
    split <;> omega
  · rw [up_ne c]
    by_cases c2 : s < w 3
    · have := lf_le hG c2
      rw [decide_eq_true (Or.inl c2), if_pos rfl]
      show lf w s / 1 ≤ 9
      rw [Nat.div_one]
      omega
    · rw [decide_eq_false (by omega), if_neg (by decide)]
      omega
/-- put and fill, over a flow at hand -/
theorem putfill_T {w : Nat → Nat} (hG : Good w) {x y bv r : Nat} (h9 : r ≤ 9) (hx : x < w 2) (hy : y ≤ w 1) (hb : bv ≤ 9) (hrw : r < w 1) {g : Nat → Nat} {h : Nat → Nat → Nat} {src snk : Nat → Nat} {μ : sm_Mem} (hR : RH 14 w μ) (h7 : μ.1 76 7 = nI r) (F : Fl 25 (zB (prW w) (fun s => lf w s / 1)) (zNear (prW w) (sy w) r) (zFar (prW w) (w 1) (sy w) r) (zAdj (prW w) (sx w) (sy w) r) g src snk h) (N : NtH 77 (zNear (prW w) (sy w) r) (zFar (prW w) (w 1) (sy w) r) (zAdj (prW w) (sx w) (sy w) r) (zB (prW w) (fun s => lf w s / 1)) g h μ) (h2 : μ.1 77 2 = nI (fb_sm src 25)) :
    T (m_bnd (fnX2_put 76 14 (24 : Int32) (nI x) (nI y) (nI bv)) fun _ => m_bnd (fnX2_fill 76) fun x97 => m_ret x97) μ (fun z μ' => z = nI (moreW w x y bv r) ∧ moreW w x y bv r ≤ 225 ∧ (∃ E L, MinC 25 (zB (prP w 24) (up (fun s => lf w s / 1) 24 bv)) (zNear (prP w 24) (up (sy w) 24 y) r) (zFar (prP w 24) (w 1) (up (sy w) 24 y) r) (zAdj (prP w 24) (up (sx w) 24 x) (up (sy w) 24 y) r) (moreW w x y bv r) E L) ∧ FrC μ μ' ∧ (∀ a, 83 ≤ a → a < 89 → μ'.1 a = μ.1 a) ∧ μ'.1 76 7 = nI r) := by
  have n := hG.1
  have gw := good_wide hG
  have N' : NtH 77 (zNear (prM w 24) (sy w) r) (zFar (prM w 24) (w 1) (sy w) r) (zAdj (prM w 24) (sx w) (sy w) r) (zB (prM w 24) (fun s => lf w s / 1)) g h μ := by rw [prM_24 hG]; exact N
  rw [li_24, t_bnd]
  refine t_mono (put_T (b := fun s => lf w s / 1) (bv := bv) hG (show x ≤ 20 by omega) (show y ≤ 12 by omega) hy h9 (show 24 < 25 by omega) hR h7 N') ?_
  rintro - μ1 ⟨N1, fz⟩
  have F1 : Fl 25 (zB (prP w 24) (up (fun s => lf w s / 1) 24 bv)) (zNear (prP w 24) (up (sy w) 24 y) r) (zFar (prP w 24) (w 1) (up (sy w) 24 y) r) (zAdj (prP w 24) (up (sx w) 24 x) (up (sy w) 24 y) r) g src snk h := by
    have pw : ∀ s, prW w s = true → s < w 3 ∧ s ≠ 24 ∧ prP w 24 s = true := by
      intro s hs
      unfold prW at hs
      have hs := of_decide_eq_true hs
      exact ⟨hs, by omega, by unfold prP; exact decide_eq_true (Or.inl hs)⟩
    intro s hs
    obtain ⟨q1, q2, q3, q4, q5, q6⟩ := F s hs
    refine ⟨?_, q2, q3, fun z => ?_, fun z => ?_, fun t ht z => ?_⟩
    · refine Nat.le_trans q1 ?_
      unfold zB
      by_cases c : prW w s = true
      · obtain ⟨z1, z2, z3⟩ := pw s c
        rw [if_pos c, if_pos z3, up_ne z2]
        exact Nat.le_refl _
      · rw [if_neg c]
        omega
    · have := q4 z
      unfold zNear at this ⊢
      simp only [Bool.and_eq_true] at this
      obtain ⟨z1, z2, z3⟩ := pw s this.1
      unfold gNear at this ⊢
      rw [z3, up_ne z2]
      exact this.2
    · have := q5 z
      unfold zFar at this ⊢
      simp only [Bool.and_eq_true] at this
      obtain ⟨z1, z2, z3⟩ := pw s this.1
      unfold gFar at this ⊢
      rw [z3, up_ne z2]
      exact this.2
    · have := q6 t ht z
      unfold zAdj at this ⊢
      simp only [Bool.and_eq_true] at this
      obtain ⟨z1, z2, z3⟩ := pw s this.1.1
      obtain ⟨y1, y2, y3⟩ := pw t this.1.2
      unfold gAdj gSq at this ⊢
      rw [z3, y3, up_ne z2, up_ne z2, up_ne y2, up_ne y2]
      exact this.2
  rw [t_bnd]
  refine t_mono (filC_T (zB_24 hG hb) (zAdj_self _ _ _ _) F1 N1 (by rw [fz.2.1 2 (by omega)]; exact h2)) ?_
  rintro z μ2 hP
  rw [t_ret]
  obtain ⟨a1, a2, ⟨g', h', src', snk', vis, -, -, -, -, -, mc, -, -⟩, a4⟩ := fiP_net (zB_24 hG hb) hP
  have ev : moreW w x y bv r = mcV (zB (prP w 24) (up (fun s => lf w s / 1) 24 bv)) (zNear (prP w 24) (up (sy w) 24 y) r) (zFar (prP w 24) (w 1) (up (sy w) 24 y) r) (zAdj (prP w 24) (up (sx w) 24 x) (up (sy w) 24 y) r) := by
    unfold moreW
    rw [if_neg (by omega)]
    rfl
  rw [ev]
  exact ⟨a1, a2, ⟨_, _, mc⟩, frC_tr (frZ_C fz) (frW_C a4), fun a q1 q2 => by rw [a4.1 a (by omega), fz.1 a (by omega)], by rw [a4.2.1 7 (by omega), fz.1 76 (by omega)]; exact h7⟩
theorem op_more (vx vy vb vr : Int32) : op2 Inv (fnX11_more 0 vx vy vb vr) (fnX12_more 146 vx vy vb vr) := by
  apply op_two
  intro w μ hC hO
  obtain ⟨hG, hR, hS, hW, hL, hT, hSl, hI', hF⟩ := id hC
  have gw := good_wide hG
  unfold fnX11_more fnX12_more
  cases q0 : decide (0 < w 0)
  · refine ⟨-2, w, same_rf w, hG, ?_, ?_⟩
    · rw [t_bnd, t_eq (isStride11 hR hG _), q0, Bool.false_and, t_brT (by decide), t_ret]
      exact ⟨rfl, cp_rf hS⟩
    · intro μ1 _ _ hW1
      rw [t_bnd, t_eq (isRiver12 hW1 hG), q0, t_brT (by decide), t_ret]
      exact ⟨rfl, rp_rf hW1⟩
  cases qa : (rg vr 1 9 && (rg vb 1 9 && inB w vx vy))
  · refine ⟨-2, w, same_rf w, hG, ?_, ?_⟩
    · rw [t_bnd, t_eq (isStride11 hR hG _), q0, Bool.true_and]
      cases q1 : rg vr 1 9
      · rw [t_brT (by decide), t_ret]
        exact ⟨rfl, cp_rf hS⟩
      rw [t_brF (by decide), t_bnd, t_eq (isLoad11 _ _)]
      cases q2 : rg vb 1 9
      · rw [t_brT (by decide), t_ret]
        exact ⟨rfl, cp_rf hS⟩
      rw [q1, q2, Bool.true_and, Bool.true_and] at qa
      rw [t_brF (by decide), lk_0_5, t_bnd, t_eq (inWater7 hR hG _ _), qa, t_brT (by decide), t_ret]
      exact ⟨rfl, cp_rf hS⟩
    · intro μ1 _ _ hW1
      rw [t_bnd, t_eq (isRiver12 hW1 hG), q0, t_brF (by decide), t_bnd, t_eq (isSpot12 hW1 hG _ _)]
      cases q3 : inB w vx vy
      · rw [t_brT (by decide), t_ret]
        exact ⟨rfl, rp_rf hW1⟩
      rw [t_brF (by decide), t_bnd, t_eq (in_eq _ _ _ _), t64_1, t64_9]
      cases q2 : rg vb 1 9
      · rw [t_brT (by decide), t_ret]
        exact ⟨rfl, rp_rf hW1⟩
      rw [q3, q2, Bool.and_true, Bool.and_true] at qa
      rw [t_brF (by decide), t_bnd, t_eq (isStride12 _ _), qa, t_brT (by decide), t_ret]
      exact ⟨rfl, rp_rf hW1⟩
  simp only [Bool.and_eq_true] at qa
  obtain ⟨qr, qb, qi⟩ := qa
  have qi' := qi
  obtain ⟨x, y, rfl, rfl, hx, hy1, hy⟩ := in_nat hG qi
  obtain ⟨r, r1, r2, rfl⟩ := rg_nat (a := 1) (b := 9) qr (by omega)
  obtain ⟨b, b1, b2, rfl⟩ := rg_nat (a := 1) (b := 9) qb (by omega)
  obtain ⟨k, k1, k2⟩ := stoneAt7 hR hG (x := x) (y := y) (by omega) (by omega)
  cases qo : onB w x y
  · by_cases hrw : r < w 1
    · obtain ⟨u0, μb, hfb, N, m2, m7, fy⟩ := layC_T sc_24 hG r1 r2 (show 1 ≤ 1 by omega) (show 1 < 100 by omega) hR hS hL
      obtain ⟨z, μc, hfc, rfl, -, -, fc, -, -⟩ := putfill_T (bv := b) hG r2 hx (show y ≤ w 1 by omega) b2 hrw (rh_fr (fun a q1 q2 => fy.1 a (by omega)) hR) m7 (fl_zero _ _ _ _) N (by rw [m2, sm_0])
      refine ⟨nI (moreW w x y b r), w, same_rf w, hG, ?_, ?_⟩
      · rw [t_bnd, t_eq (isStride11 hR hG _), q0, qr, t_brF (by decide), t_bnd, t_eq (isLoad11 _ _), qb, t_brF (by decide), lk_0_5, lk_0_6, lk_0_13, t_bnd, t_eq (inWater7 hR hG _ _), qi', t_brF (by decide), t_bnd, t_eq k1, t_brT (k2.mpr qo), t_gi, hR.1.2.1, t_brT (nI_lt hrw (by omega)), li_1, t_bnd, t_eq hfb, t_eq hfc]
        exact ⟨rfl, cp_fl hS (frC_tr (frY_C fy) fc)⟩
      · intro μ1 h1 h2 hW1
        have h39 : μ1.1 146 39 = mI 1 := by rw [h1 146 (by omega)]; exact hF.2.1
        obtain ⟨k', k1', k2'⟩ := stoneOn12 hW1 hG (x := x) (y := y) (by omega) (by omega)
        rw [t_bnd, t_eq (isRiver12 hW1 hG), q0, t_brF (by decide), t_bnd, t_eq (isSpot12 hW1 hG _ _), qi', t_brF (by decide), t_bnd, t_eq (in_eq _ _ _ _), t64_1, t64_9, qb, t_brF (by decide), t_bnd, t_eq (isStride12 _ _), qr, t_brF (by decide), t_bnd, t_eq k1', t_brT (k2'.mpr qo), t_bnd]
        refine t_mono (withMore12_T hG r2 hx (by omega) b2 hW1 h39) ?_
        rintro z μ2 ⟨e1, -, e3⟩
        rw [t_ret]
        exact ⟨e1, rp_fl hW1 e3⟩
    · have m9 : moreW w x y b r = 999 := by
        unfold moreW
        rw [if_pos (by omega)]
      refine ⟨999, w, same_rf w, hG, ?_, ?_⟩
      · rw [t_bnd, t_eq (isStride11 hR hG _), q0, qr, t_brF (by decide), t_bnd, t_eq (isLoad11 _ _), qb, t_brF (by decide), lk_0_5, lk_0_6, lk_0_13, t_bnd, t_eq (inWater7 hR hG _ _), qi', t_brF (by decide), t_bnd, t_eq k1, t_brT (k2.mpr qo), t_gi, hR.1.2.1, t_brF (nI_nlt (by omega) (by omega)), t_ret]
        exact ⟨rfl, cp_rf hS⟩
      · intro μ1 h1 h2 hW1
        have h39 : μ1.1 146 39 = mI 1 := by rw [h1 146 (by omega)]; exact hF.2.1
        obtain ⟨k', k1', k2'⟩ := stoneOn12 hW1 hG (x := x) (y := y) (by omega) (by omega)
        rw [t_bnd, t_eq (isRiver12 hW1 hG), q0, t_brF (by decide), t_bnd, t_eq (isSpot12 hW1 hG _ _), qi', t_brF (by decide), t_bnd, t_eq (in_eq _ _ _ _), t64_1, t64_9, qb, t_brF (by decide), t_bnd, t_eq (isStride12 _ _), qr, t_brF (by decide), t_bnd, t_eq k1', t_brT (k2'.mpr qo), t_bnd]
        refine t_mono (withMore12_T hG r2 hx (by omega) b2 hW1 h39) ?_
        rintro z μ2 ⟨e1, -, e3⟩
        rw [t_ret, e1, m9]
        exact ⟨rfl, rp_fl hW1 e3⟩
  · refine ⟨-5, w, same_rf w, hG, ?_, ?_⟩
    · rw [t_bnd, t_eq (isStride11 hR hG _), q0, qr, t_brF (by decide), t_bnd, t_eq (isLoad11 _ _), qb, t_brF (by decide), lk_0_5, lk_0_6, lk_0_13, t_bnd, t_eq (inWater7 hR hG _ _), qi', t_brF (by decide), t_bnd, t_eq k1, t_brF (fun z => by rw [k2.mp z] at qo; cases qo), t_ret]
      exact ⟨rfl, cp_rf hS⟩
    · intro μ1 h1 h2 hW1
      obtain ⟨k', k1', k2'⟩ := stoneOn12 hW1 hG (x := x) (y := y) (by omega) (by omega)
      rw [t_bnd, t_eq (isRiver12 hW1 hG), q0, t_brF (by decide), t_bnd, t_eq (isSpot12 hW1 hG _ _), qi', t_brF (by decide), t_bnd, t_eq (in_eq _ _ _ _), t64_1, t64_9, qb, t_brF (by decide), t_bnd, t_eq (isStride12 _ _), qr, t_brF (by decide), t_bnd, t_eq k1', t_brF (fun z => by rw [k2'.mp z] at qo; cases qo), t_ret]
      exact ⟨rfl, rp_rf hW1⟩
