/-! ===== PRICE, KEEP ===== -/
theorem minC_mono {n : Nat} {b b' : Nat → Nat} {near far : Nat → Bool} {adj : Nat → Nat → Bool} {v v' : Nat} {E L E' L' : Nat → Bool} (hb : ∀ s, s < n → b' s ≤ b s) (H : MinC n b near far adj v E L) (H' : MinC n b' near far adj v' E' L') : v' ≤ v := by
  refine minC_le H H' ?_
  intro A B c
  refine ⟨A, B, c, ?_⟩
  unfold capOf
  apply fb_sm_le
  intro s hs
  have := hb s hs
  cases (A s && !B s)
  · exact Nat.le_refl _
  · exact this
/-- what a way kept costs -/
noncomputable def prcW (w : Nat → Nat) (r d way : Nat) : Option Nat := match findW w d 1 way 98 with
  | none => none
  | some l => some (mostW w r 1 - mostW (wearW w l 1) r 1)
theorem price11_T {w : Nat → Nat} (hG : Good w) {r d way : Nat} (h1 : 1 ≤ r) (h9 : r ≤ 9) (d1 : 1 ≤ d) (d9 : d ≤ 9) (hw : way < 4) {μ : sm_Mem} (hR : RH 14 w μ) (hS : SH 24 w μ) (hL : LKS w μ) : T (fnX11_priceOf 0 (nI r) (nI d) (nI way)) μ (fun x μ' => (match findW w d 1 way 98 with | none => x = mI 1 | some l => x = nI (mostW w r 1 - mostW (wearW w l 1) r 1) ∧ mostW (wearW w l 1) r 1 ≤ mostW w r 1 ∧ mostW w r 1 ≤ 999) ∧ FrT μ μ') := by
  have n := hG.1
  unfold fnX11_priceOf
  rw [lk_0_9, lk_0_6, lk_0_7, li_1, li_98, t_bnd]
  refine t_mono (seek_T sc_24 hG d1 d9 (by omega) hw (Or.inl rfl) hR hS hL) ?_
  rintro x μ1 ⟨a1, a2, a3⟩
  have fr1 : FrT μ μ1 := ⟨fun a _ q _ => a2 a q, a3⟩
  obtain ⟨hR1, hS1, hL1⟩ := frT_core fr1 hR hS hL
  cases hf : findW w d 1 way 98 with
  | none =>
    rw [hf] at a1
    have a1 : x = mI 1 := a1
    subst a1
    rw [t_brF (show ¬ (0 : Int32) ≤ mI 1 by decide), t_ret]
    exact ⟨m1_mI, fr1⟩
  | some l =>
    rw [hf] at a1
    obtain ⟨rfl, b2, b3, b4, b5, b6⟩ := a1
    obtain ⟨ws, wg⟩ := good_wear hG (by omega) b5 b6
    rw [t_brT (nI_pos' (by omega)), t_bnd]
    refine t_mono (takeFrom9 (scK_of sc_28) (scK_of sc_24) (by omega) hG hS1) ?_
    rintro - μ2 ⟨c1, c2, c3⟩
    rw [t_bnd]
    refine t_mono (wear10_T (wt := 1) sc_28 hG (fun x hx => (b5 x hx).1) b2 c1 (by rw [c2 36 (by omega)]; exact b3) (fun i hi => by rw [c2 37 (by omega)]; exact b4 i hi)) ?_
    rintro - μ3 ⟨e1, e2, e3⟩
    have fr3 : FrT μ μ3 := ⟨fun a q1 q2 q3 => (e2 a (by omega)).trans ((c2 a q1).trans (fr1.1 a q1 q2 q3)), e3.trans (c3.trans fr1.2)⟩
    obtain ⟨hR3, hS3, hL3⟩ := frT_core fr3 hR hS hL
    rw [t_bnd]
    refine t_mono (mostOf11_T sc_24 hG h1 h9 (by omega) (by omega) hR3 hS3 hL3) ?_
    rintro x μ4 ⟨rfl, m1, m2, m3⟩
    have hR4 : RH 14 w μ4 := rh_fr (fun a q1 q2 => m3.1 a (by omega)) hR3
    have hL4 : LKS w μ4 := lks_fr (fun a q1 q2 => m3.1 a (by omega)) hL3
    have hS4 : SH 28 (wearW w l 1) μ4 := sh_fr (fun a q1 q2 => m3.1 a (by omega)) e1
    rw [t_bnd]
    refine t_mono (mostOf11_T sc_28 wg h1 h9 (by omega) (by omega) (same_rh ws hG hR4) hS4 (same_lks ws hG hL4)) ?_
    rintro x μ5 ⟨rfl, k1, k2, k3⟩
    rw [t_ret]
    have mono : mostW (wearW w l 1) r 1 ≤ mostW w r 1 := by
      have e1' := ws.1 1 (by omega)
      have e3' := ws.1 3 (by omega)
      by_cases c : r < w 1
      · obtain ⟨-, ⟨g, h, src, snk, vis, -, -, -, -, -, mc, -, -⟩, -⟩ := m2 c
        obtain ⟨-, ⟨g', h', src', snk', vis', -, -, -, -, -, mc', -, -⟩, -⟩ := k2 (by omega)
        refine minC_mono ?_ mc (minC_cong (b := zB (prW (wearW w l 1)) (fun s => lf (wearW w l 1) s / 1)) (b' := zB (prW (wearW w l 1)) (fun s => lf (wearW w l 1) s / 1)) (fun _ _ => rfl) ?_ mc')
        · intro s hs
          unfold zB prW
          rw [e3']
          by_cases q : s < w 3
          · rw [decide_eq_true q, if_pos rfl, if_pos rfl]
            show lf (wearW w l 1) s / 1 ≤ lf w s / 1
            rw [Nat.div_one, Nat.div_one, lf_wear (fun x hx => by have := (b5 x hx).1; omega) b6 (by omega)]
            omega
          · rw [decide_eq_false q, if_neg (by decide), if_neg (by decide)]
            omega
        · intro s hs
          have px : ∀ s, s < 25 → prW (wearW w l 1) s = prW w s := fun s _ => by unfold prW; rw [e3']
          have gx : ∀ s, s < 25 → sx (wearW w l 1) s = sx w s := fun s _ => by unfold sx; exact wear_o l w _ (fun t _ => by omega)
          have gy : ∀ s, s < 25 → sy (wearW w l 1) s = sy w s := fun s _ => by unfold sy; exact wear_o l w _ (fun t _ => by omega)
          refine ⟨?_, ?_, fun t ht => ?_⟩
          · unfold zNear gNear
            rw [px s hs, gy s hs]
          · unfold zFar gFar
            rw [px s hs, gy s hs, e1']
          · unfold zAdj gAdj gSq
            rw [px s hs, px t ht, gx s hs, gx t ht, gy s hs, gy t ht]
      · unfold mostW
        rw [e1', if_pos (by omega), if_pos (by omega)]
        omega
    refine ⟨⟨pk_sub mono, mono, m1⟩, frT_tr fr3 (frT_tr (frC_T m3) (frC_T k3))⟩
def FrQ (w : Nat → Nat) (μ0 μ : sm_Mem) : Prop := (∀ a, (a < 146 ∨ (148 ≤ a ∧ a < 153) ∨ 167 ≤ a) → μ.1 a = μ0.1 a) ∧ (∀ k, k ≠ 19 → k ≠ 35 → μ.1 146 k = μ0.1 146 k) ∧ μ.2 = μ0.2 ∧ WH 147 w μ
theorem rp_q {w : Nat → Nat} {μ μ1 : sm_Mem} (h : FrQ w μ μ1) : RP w μ μ1 := ⟨h.2.2.2, fun a _ => h.1 a (by omega), fun k _ => h.2.1 k (by omega) (by omega), fun a _ => by rw [h.2.2.1]⟩
theorem frQ_tr {w : Nat → Nat} {μ μ1 μ2 : sm_Mem} (h : FrQ w μ μ1) (h' : FrQ w μ1 μ2) : FrQ w μ μ2 := ⟨fun a q => (h'.1 a q).trans (h.1 a q), fun k q1 q2 => (h'.2.1 k q1 q2).trans (h.2.1 k q1 q2), h'.2.2.1.trans h.2.2.1, h'.2.2.2⟩
theorem price31 {Q : Int32 → sm_Mem → Prop} {w : Nat → Nat} (hG : Good w) {r v4 : Int32} {l : List Nat} (hl : ∀ x, x ∈ l → x < w 3) (hlen : l.length ≤ 24) {μ0 : sm_Mem} (h19 : μ0.1 146 19 = nI l.length) (h156 : ∀ i, i < l.length → μ0.1 156 i = nI (l.getD i 0))
    (ex : ∀ μ', WH 147 (wearW w l 1) μ' → (∀ a, a ≠ 147 → μ'.1 a = μ0.1 a) → μ'.2 = μ0.2 → T (fnX12_priceOf_J58 146 r v4) μ' Q) :
    ∀ (f i : Nat) (w1 : Nat → Nat) (μ : sm_Mem), l.length - i < f → i ≤ l.length → Same w w1 → wearW w1 (l.drop i) 1 = wearW w l 1 → WH 147 w1 μ → (∀ a, a ≠ 147 → μ.1 a = μ0.1 a) → μ.2 = μ0.2 → T (fnX12_priceOf_L31 f 146 r v4 (nI i)) μ Q := by
  have n := hG.1
  have e_156 : ln 156 = 25 := rfl
  intro f
  induction f with
  | zero =>
    intro i w1 μ h
    omega
  | succ f ih =>
    intro i w1 μ hf hi hs he hW ho h2
    have x19 : μ.1 146 19 = nI l.length := by rw [ho 146 (by omega)]; exact h19
    unfold fnX12_priceOf_L31
    rw [t_gi, x19]
    by_cases c1 : l.length ≤ i
    · have : i = l.length := by omega
      subst this
      rw [t_brT (nI_le c1 (by omega))]
      rw [List.drop_length] at he
      have he : w1 = wearW w l 1 := he
      rw [he] at hW
      exact ex μ hW ho h2
    · have hm : l.getD i 0 ∈ l := by
        rw [List.getD_eq_getElem?_getD, List.getElem?_eq_getElem (by omega)]
        exact List.getElem_mem _
      have hsn := hl _ hm
      have hd : l.drop i = l.getD i 0 :: l.drop (i + 1) := by
        rw [List.drop_eq_getElem_cons (by omega)]
        congr 1
        rw [List.getD_eq_getElem?_getD, List.getElem?_eq_getElem (by omega)]
        rfl
      have x156 : μ.1 156 i = nI (l.getD i 0) := by rw [ho 156 (by omega)]; exact h156 i (by omega)
      rw [t_brF (nI_ge (by omega) (by omega)), lk_146_18, t_ai (by omega), x156, li_1, t_bnd, bears_T hW (by omega), nI_add]
      refine ih (i + 1) (up w1 (16 + 7 * l.getD i 0) (w1 (16 + 7 * l.getD i 0) + 1)) _ (by omega) (by omega) (same_tr hs (same_up (Or.inr (Or.inr (Or.inl ⟨l.getD i 0, by omega, rfl⟩))))) ?_ (wh_up hW ?_) ?_ h2
      · rw [hd] at he
        exact he
      · unfold eI
        rw [if_neg (by omega)]
      · intro a ha
        rw [← ho a ha]
        simp (disch := omega) only [u2_ne, u2_a, u2_k, u2_at]
theorem price12_T {w : Nat → Nat} (hG : Good w) {r d way : Nat} (h9 : r ≤ 9) (d1 : 1 ≤ d) (d9 : d ≤ 9) (hw : way < 4) (hmono : ∀ l, findW w d 1 way 98 = some l → mostW (wearW w l 1) r 1 ≤ mostW w r 1) {μ : sm_Mem} (hW : WH 147 w μ) (h39 : μ.1 146 39 = mI 1) (h21 : μ.1 146 21 = nI 0) : T (fnX12_priceOf 146 (nI r) (nI d) (nI way)) μ (fun x μ' => (match findW w d 1 way 98 with | none => x = (-1000000 : Int32) | some l => x = nI (mostW w r 1 - mostW (wearW w l 1) r 1)) ∧ FrQ w μ μ') := by
  have n := hG.1
  unfold fnX12_priceOf
  rw [li_1, li_98, t_bnd]
  refine t_mono (finds_T hG d1 d9 (by omega) (by omega) hw (Or.inl rfl) hW) ?_
  rintro x μ1 ⟨a1, a2, a3, a4⟩
  have hW1 : WH 147 w μ1 := wh_fr (fun i _ => by rw [a3 147 (by omega) (by omega)]) hW
  have q1 : FrQ w μ μ1 := ⟨fun a q => a3 a (by omega) (by omega), fun k q _ => a2 k q, a4, hW1⟩
  cases hf : findW w d 1 way 98 with
  | none =>
    rw [hf] at a1
    have a1 : x = false := a1
    subst a1
    rw [t_brT (by decide), t_ret]
    exact ⟨rfl, q1⟩
  | some l =>
    rw [hf] at a1
    obtain ⟨rfl, b2, b3, b4, b5, b6⟩ := a1
    obtain ⟨ws, wg⟩ := good_wear hG (by omega) b5 b6
    rw [t_brF (by decide), t_bnd]
    refine t_mono (mostOf12_T hG h9 (by omega) (by omega) hW1 (by rw [a2 39 (by omega)]; exact h39)) ?_
    rintro x μ2 ⟨rfl, -, c3⟩
    have hW2 : WH 147 w μ2 := (rp_fl hW1 c3).1
    rw [t_bnd]
    refine t_mono (thinks_T (by rw [c3.2.1 21 (by omega), a2 21 (by omega)]; exact h21)) ?_
    rintro - μ3 ⟨e1, e2, e3, e4, e5⟩
    have hW3 : WH 147 w μ3 := wh_fr (fun i hi => by rw [e4 147 (by omega) (by omega)]) hW2
    refine price31 hG (fun x hx => (b5 x hx).1) b2 (μ0 := μ3) (by rw [e3 19 (by omega), c3.2.1 19 (by omega)]; exact b3) (fun i hi => by rw [e4 156 (by omega) (by omega), c3.1 156 (by omega) (by omega)]; exact b4 i hi) ?_ 4096 0 w μ3 (by omega) (by omega) (same_rf w) rfl hW3 (fun _ _ => rfl) rfl
    intro μ4 g1 g2 g3
    unfold fnX12_priceOf_J58
    rw [li_1, t_bnd]
    refine t_mono (mostOf12_T wg h9 (by omega) (by omega) g1 (by rw [g2 146 (by omega), e3 39 (by omega), c3.2.1 39 (by omega), a2 39 (by omega)]; exact h39)) ?_
    rintro x μ5 ⟨rfl, -, k3⟩
    rw [t_bnd]
    refine t_mono (wakes_T (by rw [k3.2.1 21 (by omega), g2 146 (by omega)]; exact e2)) ?_
    rintro - μ6 ⟨f1, f2, f3, f4, f5⟩
    rw [t_ret]
    refine ⟨pk_sub (hmono l hf), ?_, ?_, ?_, ?_⟩
    · intro a q
      rw [f4 a (by omega) (by omega), k3.1 a (by omega) (by omega), g2 a (by omega), e4 a (by omega) (by omega), c3.1 a (by omega) (by omega), a3 a (by omega) (by omega)]
    · intro k q1' q2'
      by_cases c : k = 21
      · subst c
        rw [f2, h21]
      · rw [f3 k c, k3.2.1 k q2', g2 146 (by omega), e3 k c, c3.2.1 k q2', a2 k q1']
    · rw [f5, k3.2.2, g3, e5, c3.2.2, a4]
    · intro i hi
      rw [f1 i hi, k3.1 157 (by omega) (by omega), g2 157 (by omega), e1 i hi]
      exact hW2 i hi
theorem neg_mil {k : Nat} (h : k ≤ 999) : ¬ nI k = (-1000000 : Int32) := by
  intro e
  have h1 := nI_toInt (n := k) (by omega)
  rw [e] at h1
  have h2 : ((-1000000 : Int32)).toInt = -1000000 := by decide
  omega
theorem op_price (v u z : Int32) : op2 Inv (fnX11_price 0 v u z) (fnX12_price 146 v u z) := by
  apply op_two
  intro w μ hC hO
  obtain ⟨hG, hR, hS, hW, hL, hT, hSl, hI', hF⟩ := id hC
  unfold fnX11_price fnX12_price
  have one6 : rg (1 : Int32) 1 6 = true := by decide
  cases q1 : (decide (0 < w 0) && rg v 1 9)
  · refine ⟨-2, w, same_rf w, hG, ?_, ?_⟩
    · rw [t_bnd, t_eq (isStride11 hR hG _), q1, t_brT (by decide), t_ret]
      exact ⟨rfl, cp_rf hS⟩
    · intro μ1 _ _ hW1
      rw [t_bnd, t_eq (isAsked12 hW1 hG _ _ _)]
      cases qa : (decide (0 < w 0) && (rg u 1 9 && (rg 1 1 6 && rg z 0 3)))
      · rw [t_brT (by decide), t_ret]
        exact ⟨rfl, rp_rf hW1⟩
      simp only [Bool.and_eq_true] at qa
      rw [qa.1, Bool.true_and] at q1
      rw [t_brF (by decide), t_bnd, t_eq (isStride12 _ _), q1, t_brT (by decide), t_ret]
      exact ⟨rfl, rp_rf hW1⟩
  have q1' := q1
  simp only [Bool.and_eq_true] at q1'
  cases qa : (rg u 1 9 && rg z 0 3)
  · refine ⟨-2, w, same_rf w, hG, ?_, ?_⟩
    · rw [t_bnd, t_eq (isStride11 hR hG _), q1, t_brF (by decide), t_bnd, t_eq (isStride11 hR hG _), q1'.1, Bool.true_and]
      cases q2 : rg u 1 9
      · rw [t_brT (by decide), t_ret]
        exact ⟨rfl, cp_rf hS⟩
      rw [q2, Bool.true_and] at qa
      rw [t_brF (by decide), t_bnd, t_eq (isWay11 hR hG _), q1'.1, qa, t_brT (by decide), t_ret]
      exact ⟨rfl, cp_rf hS⟩
    · intro μ1 _ _ hW1
      have : (decide (0 < w 0) && (rg u 1 9 && (rg 1 1 6 && rg z 0 3))) = false := by
        rw [one6, Bool.true_and, qa, Bool.and_false]
      rw [t_bnd, t_eq (isAsked12 hW1 hG _ _ _), this, t_brT (by decide), t_ret]
      exact ⟨rfl, rp_rf hW1⟩
  simp only [Bool.and_eq_true] at qa
  obtain ⟨r, r1, r2, rfl⟩ := rg_nat (a := 1) (b := 9) q1'.2 (by omega)
  obtain ⟨d, d1, d2, rfl⟩ := rg_nat (a := 1) (b := 9) qa.1 (by omega)
  obtain ⟨way, -, hw, rfl⟩ := rg_nat (a := 0) (b := 3) qa.2 (by omega)
  obtain ⟨x, μa, hf, a1, a2⟩ := price11_T hG r1 r2 d1 d2 (show way < 4 by omega) hR hS hL
  refine ⟨x, w, same_rf w, hG, ?_, ?_⟩
  · rw [t_bnd, t_eq (isStride11 hR hG _), q1, t_brF (by decide), t_bnd, t_eq (isStride11 hR hG _), q1'.1, qa.1, t_brF (by decide), t_bnd, t_eq (isWay11 hR hG _), q1'.1, qa.2, t_brF (by decide), t_bnd, t_eq hf, t_ret]
    exact ⟨rfl, cp_ft hS a2⟩
  · intro μ1 h1 h2 hW1
    have h39 : μ1.1 146 39 = mI 1 := by rw [h1 146 (by omega)]; exact hF.2.1
    have h21 : μ1.1 146 21 = nI 0 := by rw [h1 146 (by omega)]; exact hF.1
    rw [t_bnd, t_eq (isAsked12 hW1 hG _ _ _), q1'.1, qa.1, one6, qa.2, t_brF (by decide), t_bnd, t_eq (isStride12 _ _), q1'.2, t_brF (by decide), t_bnd]
    refine t_mono (price12_T hG r2 d1 d2 (show way < 4 by omega) (fun l hl => by rw [hl] at a1; exact a1.2.1) hW1 h39 h21) ?_
    rintro y μ2 ⟨b1, b2⟩
    cases hfd : findW w d 1 way 98 with
    | none =>
      rw [hfd] at a1 b1
      have a1 : x = mI 1 := a1
      have b1 : y = (-1000000 : Int32) := b1
      rw [t_brT b1, t_ret, a1]
      exact ⟨m1_mI, rp_q b2⟩
    | some l =>
      rw [hfd] at a1 b1
      obtain ⟨a1, a3, a4⟩ := a1
      have b1 : y = nI (mostW w r 1 - mostW (wearW w l 1) r 1) := b1
      rw [b1, t_brF (neg_mil (by omega)), t_ret, a1]
      exact ⟨rfl, rp_q b2⟩
