/-! ===== BARS, PRICE, KEEP ===== -/
/-- the reference's flow over so many nodes, as a network of spots -/
theorem flowW_T {n W : Nat} (hn : n ≤ 25) {gx gy b : Nat → Nat} {r : Nat} (hr : r ≤ 9) (hW : W ≤ 12) (hx : ∀ s, s < n → gx s ≤ 20) (hy : ∀ s, s < n → gy s ≤ W) (hb : ∀ s, s < n → b s ≤ 9) (hrW : r < W) {μ : sm_Mem} (hN : NdH (n + 2) (ndx gx) (ndy W gy) (ndh b) μ) (hp : μ.1 146 39 = mI 1) :
    T (fnX12_flow 146 (nI r)) μ (fun x μ' => ∃ (v : Nat) (E L : Nat → Bool), x = nI v ∧ MinC 25 (zB (fun s => decide (s < n)) b) (zNear (fun s => decide (s < n)) gy r) (zFar (fun s => decide (s < n)) W gy r) (zAdj (fun s => decide (s < n)) gx gy r) v E L ∧ FrN μ μ') := by
  have a1' : NdH (n + 2) (ndx gx) (ndy W gy) (ndh (fun s => if s < n then b s else 0)) μ := ndH_cong hN (fun _ _ => rfl) (fun _ _ => rfl) (fun k hk => by
    unfold ndh
    by_cases q : k < 2
    · rw [if_pos q, if_pos q]
    · rw [if_neg q, if_neg q]
      show b (k - 2) = (if k - 2 < n then b (k - 2) else 0)
      rw [if_pos (by omega)])
  have b9 : ∀ s, (fun s => if s < n then b s else 0) s ≤ 9 := by
    intro s
    show (if s < n then b s else 0) ≤ 9
    split
    · rename_i q
      exact hb s q
    · omega
  refine t_mono (flowN_T (po := none) hn hr hW hx hy b9 rfl hrW a1' hp) ?_
  rintro x μ2 ⟨v, S, e1, e2, e3, e4, e5⟩
  refine ⟨v, _, _, e1, minC_cong ?_ (fun s hs => ⟨rfl, rfl, fun t ht => rfl⟩) (minC_id hn e3), frR_N e5⟩
  intro s hs
  unfold zB
  show (if decide (s < n) = true then (if s < n then b s else 0) else 0) = (if decide (s < n) = true then b s else 0)
  by_cases q : s < n
  · rw [if_pos q]
  · rw [decide_eq_false q, if_neg (by decide), if_neg (by decide)]
theorem geo {w : Nat → Nat} (hG : Good w) : w 1 ≤ 12 ∧ (∀ s, s < w 3 → sx w s ≤ 20) ∧ (∀ s, s < w 3 → sy w s ≤ w 1) := by
  have gw := good_wide hG
  refine ⟨gw.2.1, fun s hs => ?_, fun s hs => ?_⟩
  · have := hG.2.2.2.1 s hs
    unfold sx
    omega
  · have := hG.2.2.2.1 s hs
    unfold sy
    omega
theorem op_bars (z v u : Int32) : op2 Inv (fnX11_bars 0 z v u) (fnX12_bars 146 z v u) := by
  apply op_two
  intro w μ hC hO
  obtain ⟨hG, hR, hS, hW, hL, hT, hSl, hI', hF⟩ := id hC
  have n := hG.1
  obtain ⟨w12, hx, hy⟩ := geo hG
  unfold fnX11_bars fnX12_bars
  cases qz : rg z 0 ((w 3 : Int) - 1)
  · refine ⟨-2, w, same_rf w, hG, ?_, ?_⟩
    · rw [t_bnd, t_eq (isStone11 hR hG _), qz, t_brT (by decide), t_ret]
      exact ⟨rfl, cp_rf hS⟩
    · intro μ1 _ _ hW1
      rw [t_bnd, t_eq (isStone12 hW1 hG _), qz, t_brT (by decide), t_ret]
      exact ⟨rfl, rp_rf hW1⟩
  obtain ⟨s, hs, rfl⟩ := rg_nI qz (by omega)
  cases hq : (decide (0 < w 0) && (rg v 1 9 && rg u 1 6))
  · refine ⟨-2, w, same_rf w, hG, ?_, ?_⟩
    · rw [t_bnd, t_eq (isStone11 hR hG _), qz, t_brF (by decide), t_bnd, t_eq (isStride11 hR hG _)]
      cases q1 : (decide (0 < w 0) && rg v 1 9)
      · rw [t_brT (by decide), t_ret]
        exact ⟨rfl, cp_rf hS⟩
      rw [t_brF (by decide), t_bnd, t_eq (isWeight11 _ _)]
      cases q2 : rg u 1 6
      · rw [t_brT (by decide), t_ret]
        exact ⟨rfl, cp_rf hS⟩
      exfalso
      simp only [Bool.and_eq_true] at q1
      rw [q1.1, q1.2, q2] at hq
      cases hq
    · intro μ1 _ _ hW1
      rw [t_bnd, t_eq (isStone12 hW1 hG _), qz, t_brF (by decide), t_bnd, t_eq (isLoad12 hW1 hG _ _), hq, t_brT (by decide), t_ret]
      exact ⟨rfl, rp_rf hW1⟩
  obtain ⟨h0, ⟨r, r1, r2, rfl⟩, t, t1, t2, rfl⟩ := load_nat hq
  have hq2 := hq
  simp only [Bool.and_eq_true] at hq2
  have f1 : (decide (0 < w 0) && rg (nI r) 1 9) = true := by rw [hq2.1, hq2.2.1]; rfl
  have x1 := hR.1.2.1
  by_cases hrw : r < w 1
  · -- the component runs
    obtain ⟨xa, μa, hfa, rfl, -, -, fa⟩ := mostOf11_T sc_24 hG r1 r2 t1 (show t < 100 by omega) hR hS hL
    have hRa : RH 14 w μa := rh_fr (fun a q1 q2 => fa.1 a (by omega)) hR
    have hSa : SH 24 w μa := sh_fr (fun a q1 q2 => fa.1 a (by omega)) hS
    have hLa : LKS w μa := lks_fr (fun a q1 q2 => fa.1 a (by omega)) hL
    obtain ⟨ub, μb, hfb, N, m2, -, fy⟩ := layC_T sc_24 hG r1 r2 t1 (show t < 100 by omega) hRa hSa hLa
    obtain ⟨uc, μc, hfc, N2, fz⟩ := lift_T (s0 := s) (by omega) N
    have b9 : ∀ k, k < 25 → zB (prN (prW w) s) (fun s => lf w s / t) k ≤ 9 := by
      intro k hk
      have := zB_9 hG (wt := t) k hk
      unfold zB prN at *
      split
      · rename_i q
        simp only [Bool.and_eq_true] at q
        rw [if_pos q.1] at this
        exact this
      · omega
    obtain ⟨xd, μd, hfd, hP⟩ := filC_T b9 (zAdj_self _ _ _ _) (fl_zero _ _ _ _) N2 (by rw [fz.2.1 2 (by omega), m2, sm_0])
    obtain ⟨d1, d2, ⟨g, h, src, snk, vis, -, -, -, -, -, mc, -, -⟩, fw⟩ := fiP_net b9 hP
    subst d1
    refine ⟨nI (mostW w r t) - nI (mcV (zB (prN (prW w) s) (fun s => lf w s / t)) (zNear (prN (prW w) s) (sy w) r) (zFar (prN (prW w) s) (w 1) (sy w) r) (zAdj (prN (prW w) s) (sx w) (sy w) r)), w, same_rf w, hG, ?_, ?_⟩
    · rw [t_bnd, t_eq (isStone11 hR hG _), qz, t_brF (by decide), t_bnd, t_eq (isStride11 hR hG _), f1, t_brF (by decide), t_bnd, t_eq (isWeight11 _ _), hq2.2.2, t_brF (by decide), lk_0_5, lk_0_6, lk_0_13, t_gi, x1, t_brT (nI_lt hrw (by omega)), t_bnd, t_eq hfa, t_bnd, t_eq hfb, t_bnd, t_eq hfc, t_bnd, t_eq hfd, t_ret]
      exact ⟨rfl, cp_fl hS (frC_tr (frC_tr fa (frY_C fy)) (frC_tr (frZ_C fz) (frW_C fw)))⟩
    · intro μ1 h1 h2 hW1
      have h39 : μ1.1 146 39 = mI 1 := by rw [h1 146 (by omega)]; exact hF.2.1
      have e_163 : ln 163 = 27 := rfl
      rw [t_bnd, t_eq (isStone12 hW1 hG _), qz, t_brF (by decide), t_bnd, t_eq (isLoad12 hW1 hG _ _), hq, t_brF (by decide), t_bnd]
      refine t_mono (mostOf12_T hG r2 t1 (by omega) hW1 h39) ?_
      rintro x μ2 ⟨rfl, -, a3⟩
      rw [t_bnd]
      refine t_mono (fillNodes_T hG t1 (show t < 100 by omega) (rp_fl hW1 a3).1) ?_
      rintro - μ3 ⟨N3, a4⟩
      have fr3 := frN_tr a3 a4
      rw [lk_146_34, li_2, li_0, nI_add, t_sai (by omega), t_bnd]
      have N4 : NdH (w 3 + 2) (ndx (sx w)) (ndy (w 1) (sy w)) (ndh (up (fun s => lf w s / t) s 0)) (u2 μ3.1 163 (2 + s) (nI 0), μ3.2) := by
        refine ⟨by rw [← N3.1]; simp (disch := omega) only [u2_ne, u2_a, u2_k, u2_at], fun k q1 q2 => by rw [← N3.2.1 k q1 q2]; simp (disch := omega) only [u2_ne, u2_a, u2_k, u2_at], fun k q => by rw [← N3.2.2.1 k q]; simp (disch := omega) only [u2_ne, u2_a, u2_k, u2_at], fun k q => ?_⟩
        by_cases c : k = 2 + s
        · subst c
          unfold ndh
          rw [if_neg (by omega), show 2 + s - 2 = s by omega, up_at]
          simp (disch := omega) only [u2_ne, u2_a, u2_k, u2_at]
        · have := N3.2.2.2 k q
          unfold ndh at this ⊢
          by_cases c2 : k < 2
          · rw [if_pos c2] at this ⊢
            rw [← this]
            simp (disch := omega) only [u2_ne, u2_a, u2_k, u2_at]
          · rw [if_neg c2] at this ⊢
            rw [up_ne (by omega), ← this]
            simp (disch := omega) only [u2_ne, u2_a, u2_k, u2_at]
      refine t_mono (flowW_T (by omega) r2 w12 hx hy ?_ hrw N4 (by rw [← h39, ← fr3.2.1 39 (by omega)]; simp (disch := omega) only [u2_ne, u2_a, u2_k, u2_at])) ?_
      · intro k hk
        by_cases c : k = s
        · subst c
          rw [up_at]
          omega
        · rw [up_ne c]
          have := lf_le hG hk
          have := Nat.div_le_self (lf w k) t
          show lf w k / t ≤ 9
          omega
      · rintro x μ4 ⟨v', E', L', rfl, mc', fr⟩
        rw [t_ret]
        refine ⟨?_, rp_fl hW1 (frN_tr fr3 ⟨fun a q1 q2 => ?_, fun k q => ?_, fr.2.2⟩)⟩
        · rw [bars_eq (pr := prW w) mc mc']
        · rw [fr.1 a q1 q2]
          simp (disch := omega) only [u2_ne, u2_a, u2_k, u2_at]
        · rw [fr.2.1 k q]
          simp (disch := omega) only [u2_ne, u2_a, u2_k, u2_at]
  · refine ⟨0, w, same_rf w, hG, ?_, ?_⟩
    · rw [t_bnd, t_eq (isStone11 hR hG _), qz, t_brF (by decide), t_bnd, t_eq (isStride11 hR hG _), f1, t_brF (by decide), t_bnd, t_eq (isWeight11 _ _), hq2.2.2, t_brF (by decide), lk_0_5, t_gi, x1, t_brF (nI_nlt (by omega) (by omega)), t_ret]
      exact ⟨rfl, cp_rf hS⟩
    · intro μ1 h1 h2 hW1
      have h39 : μ1.1 146 39 = mI 1 := by rw [h1 146 (by omega)]; exact hF.2.1
      have e_163 : ln 163 = 27 := rfl
      rw [t_bnd, t_eq (isStone12 hW1 hG _), qz, t_brF (by decide), t_bnd, t_eq (isLoad12 hW1 hG _ _), hq, t_brF (by decide), t_bnd]
      refine t_mono (mostOf12_T hG r2 t1 (by omega) hW1 h39) ?_
      rintro x μ2 ⟨rfl, -, a3⟩
      rw [t_bnd]
      refine t_mono (fillNodes_T hG t1 (show t < 100 by omega) (rp_fl hW1 a3).1) ?_
      rintro - μ3 ⟨N3, a4⟩
      have fr3 := frN_tr a3 a4
      rw [lk_146_34, li_2, li_0, nI_add, t_sai (by omega), t_bnd]
      have fin := flowN_999 (n := w 3) (W := w 1) (gx := sx w) (gy := sy w) (b := fun k => (if k = s then 0 else lf w k / t)) (po := none) (r := r) (by omega) r2 w12 hx hy (Or.inr (by omega)) (μ := (u2 μ3.1 163 (2 + s) (nI 0), μ3.2)) ?_ (by show (u2 μ3.1 163 (2 + s) (nI 0), μ3.2).1 146 39 = mI 1; rw [← h39, ← fr3.2.1 39 (by omega)]; simp (disch := omega) only [u2_ne, u2_a, u2_k, u2_at])
      · have m9 : mostW w r t = 999 := by
          unfold mostW
          rw [if_pos (by omega)]
        rw [t_eq fin, t_ret, m9]
        refine ⟨rfl, rp_fl hW1 (frN_tr fr3 ⟨fun a q1 q2 => (by simp (disch := omega) only [u2_ne, u2_a, u2_k, u2_at]), fun k q => (by simp (disch := omega) only [u2_ne, u2_a, u2_k, u2_at]), rfl⟩)⟩
      · refine ⟨by rw [← N3.1]; simp (disch := omega) only [u2_ne, u2_a, u2_k, u2_at], fun k q1 q2 => by rw [← N3.2.1 k q1 q2]; simp (disch := omega) only [u2_ne, u2_a, u2_k, u2_at], fun k q => by rw [← N3.2.2.1 k q]; simp (disch := omega) only [u2_ne, u2_a, u2_k, u2_at], fun k q => ?_⟩
        have := N3.2.2.2 k q
        unfold ndh at this ⊢
        by_cases c2 : k < 2
        · rw [if_pos c2] at this ⊢
          rw [← this]
          simp (disch := omega) only [u2_ne, u2_a, u2_k, u2_at]
        · rw [if_neg c2] at this ⊢
          show _ = nI (if k - 2 = s then 0 else lf w (k - 2) / t)
          by_cases c : k = 2 + s
          · rw [if_pos (by omega), c]
            simp (disch := omega) only [u2_ne, u2_a, u2_k, u2_at]
          · rw [if_neg (by omega), ← this]
            simp (disch := omega) only [u2_ne, u2_a, u2_k, u2_at]
