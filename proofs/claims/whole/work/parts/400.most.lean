/-! ===== MOST, CUT, BARS ===== -/
noncomputable def mostW (w : Nat → Nat) (r wt : Nat) : Nat := if w 1 ≤ r then 999 else netV (prW w) (sx w) (sy w) (fun s => lf w s / wt) (w 1) r
/-- a full network at hand -/
def NetP (b : Nat → Nat) (near far : Nat → Bool) (adj : Nat → Nat → Bool) (v : Nat) (μ : sm_Mem) : Prop := ∃ (g : Nat → Nat) (h : Nat → Nat → Nat) (src snk : Nat → Nat) (vis : Nat → Bool), Fl 25 b near far adj g src snk h ∧ fb_sm src 25 = v ∧ v ≤ 225 ∧ μ.1 77 2 = nI v ∧ NtH 77 near far adj b g h μ ∧ MinC 25 b near far adj v vis (fun s => vis (32 + s)) ∧ MkE vis μ ∧ MkL vis μ
theorem fiP_net {b : Nat → Nat} (hb : ∀ s, s < 25 → b s ≤ 9) {near far : Nat → Bool} {adj : Nat → Nat → Bool} {x : Int32} {μ0 μ : sm_Mem} (H : FiP b near far adj x μ0 μ) : x = nI (mcV b near far adj) ∧ mcV b near far adj ≤ 225 ∧ NetP b near far adj (mcV b near far adj) μ ∧ FrW μ0 μ := by
  obtain ⟨g, h, src, snk, vis, h1, h2, h3, h4, h5, h6, h7, h8⟩ := H
  have e := mcV_eq h5
  have l := (fl_small h1 hb).2.2
  rw [e]
  exact ⟨h2, l, ⟨g, h, src, snk, vis, h1, rfl, l, h3, h4, h5, h6, h7⟩, h8⟩
def FrC (μ0 μ : sm_Mem) : Prop := (∀ a, (a < 76 ∨ 92 ≤ a) → μ.1 a = μ0.1 a) ∧ μ.2 = μ0.2
theorem frC_rf (μ : sm_Mem) : FrC μ μ := ⟨fun _ _ => rfl, rfl⟩
theorem frC_tr {μ μ1 μ2 : sm_Mem} (h : FrC μ μ1) (h' : FrC μ1 μ2) : FrC μ μ2 := ⟨fun a q => (h'.1 a q).trans (h.1 a q), h'.2.trans h.2⟩
theorem frW_C {μ μ' : sm_Mem} (h : FrW μ μ') : FrC μ μ' := ⟨fun a q => h.1 a (by omega), h.2.2.2⟩
theorem frY_C {μ μ' : sm_Mem} (h : FrY μ μ') : FrC μ μ' := ⟨fun a q => h.1 a (by omega), h.2.2⟩
theorem frZ_C {μ μ' : sm_Mem} (h : FrZ μ μ') : FrC μ μ' := ⟨fun a q => h.1 a (by omega), h.2.2⟩
theorem zB_9 {w : Nat → Nat} (hG : Good w) {wt : Nat} : ∀ s, s < 25 → zB (prW w) (fun s => lf w s / wt) s ≤ 9 := by
  intro s _
  unfold zB prW
  by_cases c : s < w 3
  · rw [decide_eq_true c, if_pos rfl]
    have := lf_le hG c
    have := Nat.div_le_self (lf w s) wt
    show lf w s / wt ≤ 9
    omega
  · rw [decide_eq_false c, if_neg (by decide)]
    omega
/-- lay and fill -/
theorem layfill_T {c : Nat} (hc : isSc c) {w : Nat → Nat} (hG : Good w) {r wt : Nat} (h1 : 1 ≤ r) (h9 : r ≤ 9) (hw : 1 ≤ wt) (hw2 : wt < 100) {μ : sm_Mem} (hR : RH 14 w μ) (hS : SH c w μ) (hL : LKS w μ) : T (m_bnd (fnX2_lay 76 c (nI r) (nI wt)) fun _ => m_bnd (fnX2_fill 76) fun x29 => m_ret x29) μ (fun x μ' => x = nI (netV (prW w) (sx w) (sy w) (fun s => lf w s / wt) (w 1) r) ∧ netV (prW w) (sx w) (sy w) (fun s => lf w s / wt) (w 1) r ≤ 225 ∧ NetP (zB (prW w) (fun s => lf w s / wt)) (zNear (prW w) (sy w) r) (zFar (prW w) (w 1) (sy w) r) (zAdj (prW w) (sx w) (sy w) r) (netV (prW w) (sx w) (sy w) (fun s => lf w s / wt) (w 1) r) μ' ∧ μ'.1 76 7 = nI r ∧ FrC μ μ') := by
  rw [t_bnd]
  refine t_mono (layC_T hc hG h1 h9 hw hw2 hR hS hL) ?_
  rintro - μ1 ⟨N, h2, h7, fy⟩
  rw [t_bnd]
  refine t_mono (filC_T (zB_9 hG) (zAdj_self _ _ _ _) (fl_zero _ _ _ _) N (by rw [h2, sm_0])) ?_
  rintro x μ2 hP
  rw [t_ret]
  obtain ⟨a1, a2, a3, a4⟩ := fiP_net (zB_9 hG) hP
  exact ⟨a1, a2, a3, by rw [a4.2.1 7 (by omega)]; exact h7, frC_tr (frY_C fy) (frW_C a4)⟩
theorem mostOf11_T {c : Nat} (hc : isSc c) {w : Nat → Nat} (hG : Good w) {r wt : Nat} (h1 : 1 ≤ r) (h9 : r ≤ 9) (hw : 1 ≤ wt) (hw2 : wt < 100) {μ : sm_Mem} (hR : RH 14 w μ) (hS : SH c w μ) (hL : LKS w μ) : T (fnX11_mostOf 0 c (nI r) (nI wt)) μ (fun x μ' => x = nI (mostW w r wt) ∧ mostW w r wt ≤ 999 ∧ (r < w 1 → mostW w r wt ≤ 225 ∧ NetP (zB (prW w) (fun s => lf w s / wt)) (zNear (prW w) (sy w) r) (zFar (prW w) (w 1) (sy w) r) (zAdj (prW w) (sx w) (sy w) r) (mostW w r wt) μ' ∧ μ'.1 76 7 = nI r) ∧ FrC μ μ') := by
  have gw := good_wide hG
  unfold fnX11_mostOf mostW
  rw [lk_0_5, lk_0_13, t_gi, hR.1.2.1]
  by_cases c1 : r < w 1
  · rw [t_brT (nI_lt c1 (by omega)), if_neg (by omega)]
    refine t_mono (layfill_T hc hG h1 h9 hw hw2 hR hS hL) ?_
    rintro x μ1 ⟨a1, a2, a3, a4, a5⟩
    exact ⟨a1, by omega, fun _ => ⟨a2, a3, a4⟩, a5⟩
  · rw [t_brF (nI_nlt (by omega) (by omega)), t_ret, if_pos (by omega)]
    exact ⟨rfl, by omega, fun z => absurd z c1, frC_rf μ⟩
/-- the reference's spots are the component's -/
theorem minC_id {n : Nat} (hn : n ≤ 25) {gx gy b : Nat → Nat} {W r v : Nat} {E L : Nat → Bool} (H : MinC n b (pNear none gy r) (pFar none W gy r) (pAdj none gx gy r) v E L) : MinC 25 (zB (fun s => decide (s < n)) b) (zNear (fun s => decide (s < n)) gy r) (zFar (fun s => decide (s < n)) W gy r) (zAdj (fun s => decide (s < n)) gx gy r) v (fun s => decide (s < n) && E s) (fun s => decide (s < n) && L s) := by
  refine minC_map (ρ := fun s => s) (inv := fun s => s) (pr := fun s => decide (s < n)) (m := n) (fun k hk => ⟨by omega, decide_eq_true hk, rfl⟩) (fun s _ hp => ⟨of_decide_eq_true hp, rfl⟩) ?_ ?_ ?_ ?_
  · intro F hF
    exact sm_tail hn (fun k q1 q2 => hF k q2 (decide_eq_false (by omega)))
  · intro s _ hp
    unfold zB zNear
    show (if decide (s < n) = true then b s else 0) = 0 ∧ (decide (s < n) && gNear gy r s) = false
    have hp : decide (s < n) = false := hp
    rw [hp]
    exact ⟨rfl, rfl⟩
  · intro s t hst
    unfold zAdj at hst
    simp only [Bool.and_eq_true] at hst
    exact hst.1.2
  · refine minC_cong ?_ ?_ H
    · intro s hs
      show b s = zB _ b s
      unfold zB
      show b s = (if decide (s < n) = true then b s else 0)
      rw [decide_eq_true hs, if_pos rfl]
    · intro s hs
      refine ⟨?_, ?_, fun t ht => ?_⟩
      · show (false || gNear gy r s) = (decide (s < n) && gNear gy r s)
        rw [decide_eq_true hs]
        rfl
      · show (false || gFar W gy r s) = (decide (s < n) && gFar W gy r s)
        rw [decide_eq_true hs]
        rfl
      · show (decide (s ≠ t) && (false || gAdj gx gy r s t)) = ((decide (s < n) && decide (t < n)) && gAdj gx gy r s t)
        rw [decide_eq_true hs, decide_eq_true ht, Bool.false_or]
        by_cases c : s = t
        · subst c
          unfold gAdj
          rw [decide_eq_false (fun z => z rfl), decide_eq_false (p := s ≠ s ∧ _) (fun z => z.1 rfl)]
          rfl
        · rw [decide_eq_true c]
          rfl
theorem frR_N {μ μ' : sm_Mem} (h : FrR μ μ') : FrN μ μ' := ⟨fun a q1 q2 => h.1 a (by omega) (by omega) (by omega), fun k _ => by rw [h.1 146 (by omega) (by omega) (by omega)], h.2⟩
theorem mostOf12_T {w : Nat → Nat} (hG : Good w) {r wt : Nat} (h9 : r ≤ 9) (hw : 1 ≤ wt) (hw2 : wt < 100) {μ : sm_Mem} (hW : WH 147 w μ) (h39 : μ.1 146 39 = mI 1) : T (fnX12_mostOf 146 (nI r) (nI wt)) μ (fun x μ' => x = nI (mostW w r wt) ∧ (r < w 1 → ∃ S : Nat → Bool, MinC 25 (zB (prW w) (fun s => lf w s / wt)) (zNear (prW w) (sy w) r) (zFar (prW w) (w 1) (sy w) r) (zAdj (prW w) (sx w) (sy w) r) (mostW w r wt) (fun s => prW w s && S (2 * (s + 2))) (fun s => prW w s && S (2 * (s + 2) + 1)) ∧ ∀ k, k < 2 * (w 3 + 2) → (μ'.1 165 k = mI 1 ↔ S k = false)) ∧ FrN μ μ') := by
  have n := hG.1
  have gw := good_wide hG
  have hx : ∀ s, s < w 3 → sx w s ≤ 20 := fun s hs => by
    have := hG.2.2.2.1 s hs
    unfold sx
    omega
  have hy : ∀ s, s < w 3 → sy w s ≤ w 1 := fun s hs => by
    have := hG.2.2.2.1 s hs
    unfold sy
    omega
  unfold fnX12_mostOf
  rw [t_bnd]
  refine t_mono (fillNodes_T hG hw hw2 hW) ?_
  rintro - μ1 ⟨a1, a2⟩
  have p1 : PkH none μ1 := (a2.2.1 39 (by omega)).trans h39
  rw [t_bnd]
  unfold mostW
  by_cases c1 : r < w 1
  · rw [if_neg (by omega)]
    -- what a stone beyond the last bears doesn't matter
    have a1' : NdH (w 3 + 2) (ndx (sx w)) (ndy (w 1) (sy w)) (ndh (fun s => if s < w 3 then lf w s / wt else 0)) μ1 := ndH_cong a1 (fun _ _ => rfl) (fun _ _ => rfl) (fun k hk => by
      unfold ndh
      by_cases q : k < 2
      · rw [if_pos q, if_pos q]
      · rw [if_neg q, if_neg q]
        show lf w (k - 2) / wt = (if k - 2 < w 3 then lf w (k - 2) / wt else 0)
        rw [if_pos (by omega)])
    have b9 : ∀ s, (fun s => if s < w 3 then lf w s / wt else 0) s ≤ 9 := by
      intro s
      show (if s < w 3 then lf w s / wt else 0) ≤ 9
      split
      · rename_i q
        have := lf_le hG q
        have := Nat.div_le_self (lf w s) wt
        omega
      · omega
    refine t_mono (flowN_T (by omega) h9 (by omega) hx hy b9 rfl c1 a1' p1) ?_
    rintro x μ2 ⟨v, S, e1, e2, e3, e4, e5⟩
    rw [t_ret]
    have m25 : MinC 25 (zB (prW w) (fun s => lf w s / wt)) (zNear (prW w) (sy w) r) (zFar (prW w) (w 1) (sy w) r) (zAdj (prW w) (sx w) (sy w) r) v (fun s => prW w s && S (2 * (s + 2))) (fun s => prW w s && S (2 * (s + 2) + 1)) := by
      refine minC_cong ?_ (fun s hs => ⟨rfl, rfl, fun t ht => rfl⟩) (minC_id (by omega) e3)
      intro s hs
      unfold zB prW
      show (if decide (s < w 3) = true then (if s < w 3 then lf w s / wt else 0) else 0) = (if decide (s < w 3) = true then lf w s / wt else 0)
      by_cases q : s < w 3
      · rw [if_pos q]
      · rw [decide_eq_false q, if_neg (by decide), if_neg (by decide)]
    have ev : netV (prW w) (sx w) (sy w) (fun s => lf w s / wt) (w 1) r = v := mcV_eq m25
    refine ⟨by rw [ev]; exact e1, fun _ => ⟨S, by rw [ev]; exact m25, e4⟩, frN_tr a2 (frR_N e5)⟩
  · rw [if_pos (by omega), t_eq (flowN_999 (by omega) h9 (by omega) hx hy (Or.inr (by omega)) a1 p1), t_ret]
    exact ⟨rfl, fun z => absurd z c1, a2⟩
/-- in thought, beside the flow -/
theorem cp_fl {w : Nat → Nat} {μ μ1 : sm_Mem} (hS : SH 24 w μ) (h : FrC μ μ1) : CP w w μ μ1 := ⟨sh_fr (fun a _ _ => h.1 a (by omega)) hS, fun a _ => h.1 a (by omega), by rw [h.2], Or.inr ⟨rfl, h.1 42 (by omega), h.1 45 (by omega)⟩⟩
theorem rp_fl {w : Nat → Nat} {μ μ1 : sm_Mem} (hW : WH 147 w μ) (h : FrN μ μ1) : RP w μ μ1 := ⟨wh_fr (fun i _ => by rw [h.1 147 (by omega) (by omega)]) hW, fun a _ => h.1 a (by omega) (by omega), fun k _ => h.2.1 k (by omega), fun a _ => by rw [h.2.2]⟩
theorem load_nat {w : Nat → Nat} {v u : Int32} (h : (decide (0 < w 0) && (rg v 1 9 && rg u 1 6)) = true) : 0 < w 0 ∧ (∃ r, 1 ≤ r ∧ r ≤ 9 ∧ v = nI r) ∧ ∃ t, 1 ≤ t ∧ t ≤ 6 ∧ u = nI t := by
  simp only [Bool.and_eq_true, decide_eq_true_eq] at h
  obtain ⟨h0, h1, h2⟩ := h
  obtain ⟨r, r1, r2, r3⟩ := rg_nat (a := 1) (b := 9) h1 (by omega)
  obtain ⟨t, t1, t2, t3⟩ := rg_nat (a := 1) (b := 6) h2 (by omega)
  exact ⟨h0, ⟨r, r1, r2, r3⟩, t, t1, t2, t3⟩
theorem op_most (v u : Int32) : op2 Inv (fnX11_most 0 v u) (fnX12_most 146 v u) := by
  apply op_two
  intro w μ hC hO
  obtain ⟨hG, hR, hS, hW, hL, hT, hSl, hI, hF⟩ := id hC
  unfold fnX11_most fnX12_most
  cases hq : (decide (0 < w 0) && (rg v 1 9 && rg u 1 6))
  · refine ⟨-2, w, same_rf w, hG, ?_, ?_⟩
    · rw [t_bnd, t_eq (isStride11 hR hG _)]
      cases q1 : (decide (0 < w 0) && rg v 1 9)
      · rw [t_brT (by decide), t_ret]
        exact ⟨rfl, cp_rf hS⟩
      rw [t_brF (by decide), t_bnd, t_eq (isWeight11 _ _)]
      cases q2 : rg u 1 6
      · rw [t_brT (by decide), t_ret]
        exact ⟨rfl, cp_rf hS⟩
      exfalso
      simp only [Bool.and_eq_true] at q1
      rw [q1.1, q1.2, q2] at hq
      cases hq
    · intro μ1 _ _ hW1
      rw [t_bnd, t_eq (isLoad12 hW1 hG _ _), hq, t_brT (by decide), t_ret]
      exact ⟨rfl, rp_rf hW1⟩
  obtain ⟨h0, ⟨r, r1, r2, rfl⟩, t, t1, t2, rfl⟩ := load_nat hq
  have hq2 := hq
  simp only [Bool.and_eq_true] at hq2
  have f1 : (decide (0 < w 0) && rg (nI r) 1 9) = true := by rw [hq2.1, hq2.2.1]; rfl
  refine ⟨nI (mostW w r t), w, same_rf w, hG, ?_, ?_⟩
  · rw [t_bnd, t_eq (isStride11 hR hG _), f1, t_brF (by decide), t_bnd, t_eq (isWeight11 _ _), hq2.2.2, t_brF (by decide), lk_0_6, t_bnd]
    refine t_mono (mostOf11_T sc_24 hG r1 r2 t1 (by omega) hR hS hL) ?_
    rintro x μ1 ⟨a1, -, -, a3⟩
    rw [t_ret]
    exact ⟨a1, cp_fl hS a3⟩
  · intro μ1 h1 h2 hW1
    have h39 : μ1.1 146 39 = mI 1 := by rw [h1 146 (by omega)]; exact hF.2.1
    rw [t_bnd, t_eq (isLoad12 hW1 hG _ _), hq, t_brF (by decide), t_bnd]
    refine t_mono (mostOf12_T hG r2 t1 (by omega) hW1 h39) ?_
    rintro x μ2 ⟨a1, -, a3⟩
    rw [t_ret]
    exact ⟨a1, rp_fl hW1 a3⟩
