/-! ===== over, all, home, days, best ===== -/
theorem rg_no {v : Int32} {b : Nat} (h : rg v 0 b = false) (hb : b < 2 ^ 30) : v < 0 ∨ (¬ v < 0 ∧ ¬ v ≤ nI b) := by
  unfold rg at h
  have h := of_decide_eq_false h
  rw [fa_lt, fa_le, nI_toInt (by omega)]
  have : (0 : Int32).toInt = 0 := by decide
  omega
theorem rg_yes {b k : Nat} (h : k ≤ b) (hb : b < 2 ^ 30) : ¬ nI k < 0 ∧ nI k ≤ nI b := ⟨nI_pos (by omega), nI_le h (by omega)⟩
/-- the people over, as a mask -/
noncomputable def ovM (w : Nat → Nat) (way : Nat) : Int32 := mk (ppl w (ovr w way (w 4)).2) (w 4)
theorem overT_T {w : Nat → Nat} {μ : sm_Mem} (hG : Good w) (hR : RH 14 w μ) (hS : SH 24 w μ) (hL : LKS w μ) {way : Nat} (hw : way < 4) : T (fnX11_overInThought 0 (nI way)) μ (fun x μ' => x = ovM w way ∧ SH 28 (ovr w way (w 4)).1 μ' ∧ Same w (ovr w way (w 4)).1 ∧ Good (ovr w way (w 4)).1 ∧ (∀ a, (a < 28 ∨ 32 ≤ a) → (a < 36 ∨ 41 ≤ a) → μ'.1 a = μ.1 a) ∧ μ'.2 = μ.2) := by
  unfold fnX11_overInThought
  rw [lk_0_7, lk_0_6, lk_0_10, t_bnd]
  refine t_mono (takeFrom9 (scK_of sc_28) (scK_of sc_24) (by omega) hG hS) ?_
  rintro - μ1 ⟨a1, a2, a3⟩
  rw [t_bnd]
  refine t_mono (sendOver_T sc_28 hG hw (rh_fr (fun a q1 q2 => a2 a (by omega)) hR) (lks_fr (fun a q1 q2 => a2 a (by omega)) hL) a1) ?_
  rintro x μ2 ⟨b1, b2, b3, b4, b5, b6⟩
  rw [t_ret]
  exact ⟨mask_mk hG b1, b2, b3, b4, fun a h1 h2 => (b5 a h2 h1).trans (a2 a h1), b6.trans a3⟩
theorem ovM_bit {w : Nat → Nat} (hG : Good w) {way : Nat} : ∀ p, p < w 4 → bt (ovM w way) p = ppl w (ovr w way (w 4)).2 p := by
  intro p hp
  have n := hG.1
  unfold ovM
  rw [bt_mk _ _ (by omega) p (by omega), decide_eq_true hp, Bool.true_and]
/-- in thought nothing stays -/
theorem cp_th {w : Nat → Nat} {μ μ1 : sm_Mem} (hS : SH 24 w μ) (h : ∀ a, (a < 28 ∨ 32 ≤ a) → (a < 36 ∨ 41 ≤ a) → μ1.1 a = μ.1 a) (h2 : μ1.2 = μ.2) : CP w w μ μ1 := ⟨sh_fr (fun a _ _ => h a (by omega) (by omega)) hS, fun a _ => h a (by omega) (by omega), by rw [h2], Or.inr ⟨rfl, h 42 (by omega) (by omega), h 45 (by omega) (by omega)⟩⟩
/-- the reference thinks: behind it all is as it was -/
theorem think_T {β : Type} {w : Nat → Nat} {μ : sm_Mem} {f : sm_M β} {g : β → sm_M Int32} {r : Int32} (hd : μ.1 146 21 = nI 0) (hW : WH 147 w μ)
    (h : ∀ μ1 : sm_Mem, WH 147 w μ1 → (∀ a, a ≠ 146 → a ≠ 157 → μ1.1 a = μ.1 a) → μ1.1 146 21 = nI 1 → (∀ k, k ≠ 21 → μ1.1 146 k = μ.1 146 k) → μ1.2 = μ.2 →
      T f μ1 (fun x μ2 => (∀ a, a ≠ 146 → a ≠ 147 → (a < 153 ∨ 157 ≤ a) → μ2.1 a = μ1.1 a) ∧ (∀ k, k ≠ 19 → (k < 22 ∨ 26 ≤ k) → μ2.1 146 k = μ1.1 146 k) ∧ μ2.2 = μ1.2 ∧
        ∀ μ3 : sm_Mem, (∀ k, k ≠ 21 → μ3.1 146 k = μ2.1 146 k) → T (g x) μ3 (fun r2 μ4 => r2 = r ∧ μ4 = μ3))) :
    T (m_bnd (fnX12_thinks 146) fun _ => m_bnd f fun x => m_bnd (fnX12_wakes 146) fun _ => g x) μ (fun r2 μ2 => r2 = r ∧ RP w μ μ2 ∧ (∀ a, a ≠ 146 → a ≠ 147 → (a < 153 ∨ 158 ≤ a) → μ2.1 a = μ.1 a) ∧ (∀ k, k ≠ 19 → (k < 22 ∨ 26 ≤ k) → μ2.1 146 k = μ.1 146 k) ∧ μ2.2 = μ.2) := by
  rw [t_bnd]
  refine t_mono (thinks_T hd) ?_
  rintro - μ1 ⟨b1, b2, b3, b4, b5⟩
  have hW1 : WH 147 w μ1 := wh_fr (fun i hi => by rw [b4 147 (by omega) (by omega)]) hW
  rw [t_bnd]
  refine t_mono (h μ1 hW1 (fun a h1 h2 => b4 a h2 h1) b2 b3 b5) ?_
  rintro x μ2 ⟨c1, c2, c3, c4⟩
  rw [t_bnd]
  refine t_mono (wakes_T (by rw [c2 21 (by omega) (by omega)]; exact b2)) ?_
  rintro - μ3 ⟨e1, e2, e3, e4, e5⟩
  refine t_mono (c4 μ3 e3) ?_
  rintro r2 μ4 ⟨rfl, rfl⟩
  have k146 : ∀ k, k ≠ 19 → (k < 22 ∨ 26 ≤ k) → μ4.1 146 k = μ.1 146 k := by
    intro k h1 h2
    by_cases q : k = 21
    · subst q
      rw [e2, hd]
    · rw [e3 k q, c2 k h1 h2, b3 k q]
  have ka : ∀ a, a ≠ 146 → a ≠ 147 → (a < 153 ∨ 158 ≤ a) → μ4.1 a = μ.1 a := by
    intro a h1 h2 h3
    rw [e4 a h2 h1, c1 a h1 h2 (by omega), b4 a (by omega) h1]
  refine ⟨rfl, ⟨?_, fun a ha => ka a (by omega) (by omega) (by omega), fun k hk => k146 k (by omega) (by omega), fun a _ => by rw [e5, c3, b5]⟩, ka, k146, by rw [e5, c3, b5]⟩
  intro i hi
  rw [e1 i hi, c1 157 (by omega) (by omega) (by omega), b1 i hi]
  exact hW i hi
theorem way_nat {w : Nat → Nat} {z : Int32} (h : (decide (0 < w 0) && rg z 0 3) = true) : 0 < w 0 ∧ ∃ way, way < 4 ∧ z = nI way := by
  simp only [Bool.and_eq_true, decide_eq_true_eq] at h
  obtain ⟨way, -, hw, rfl⟩ := rg_nat (a := 0) (b := 3) h.2 (by omega)
  exact ⟨h.1, way, by omega, rfl⟩
theorem op_over (z v : Int32) : op2 Inv (fnX11_over 0 z v) (fnX12_over 146 z v) := by
  apply op_two
  intro w μ hC hO
  obtain ⟨hG, hR, hS, hW, hL, hT, hSl, hI, hF⟩ := id hC
  have n := hG.1
  unfold fnX11_over fnX12_over
  cases hz : (decide (0 < w 0) && rg z 0 3)
  · refine ⟨-2, w, same_rf w, hG, ?_, ?_⟩
    · rw [t_bnd, t_eq (isWay11 hR hG _), hz, t_brT (by decide), t_ret]
      exact ⟨rfl, cp_rf hS⟩
    · intro μ1 _ _ hW1
      rw [t_bnd, t_eq (isWay12 hW1 hG _), hz, t_brT (by decide), t_ret]
      exact ⟨rfl, rp_rf hW1⟩
  obtain ⟨-, way, hw, rfl⟩ := way_nat hz
  cases hv : rg v 0 3
  · refine ⟨-2, w, same_rf w, hG, ?_, ?_⟩
    · rw [t_bnd, t_eq (isWay11 hR hG _), hz, t_brF (by decide)]
      rcases rg_no (b := 3) hv (by omega) with q | ⟨q1, q2⟩
      · rw [t_brT q, t_ret]
        exact ⟨rfl, cp_rf hS⟩
      · rw [t_brF q1, t_brF (show ¬ v ≤ (3 : Int32) from q2), t_ret]
        exact ⟨rfl, cp_rf hS⟩
    · intro μ1 _ _ hW1
      rw [t_bnd, t_eq (isWay12 hW1 hG _), hz, t_brF (by decide), t_bnd, t_eq (in_eq v _ _ _), t64_0, t64_3, hv, t_brT (by decide), t_ret]
      exact ⟨rfl, rp_rf hW1⟩
  obtain ⟨k, -, hk, rfl⟩ := rg_nat (a := 0) (b := 3) hv (by omega)
  have oT := overT_T hG hR hS hL hw
  have bc : ∀ μ', fnJ6_bitCount_0f7a4 (ovM w way) μ' = some (nI (fb_ct (ppl w (ovr w way (w 4)).2) (w 4)), μ') := fun μ' => bitCount_mk (by omega) μ'
  have ans : ∃ r : Int32, r = (if k = 0 then nI (pSum w (ovr w way (w 4)).2 (fun _ => 1)) else if k = 1 then nI (pSum w (ovr w way (w 4)).2 (fun p => w (187 + 7 * p))) else if k = 2 then ovM w way else mk (misW (ovr w way (w 4)).1) (w 4)) := ⟨_, rfl⟩
  obtain ⟨r, hr⟩ := ans
  refine ⟨r, w, same_rf w, hG, ?_, ?_⟩
  · rw [t_bnd, t_eq (isWay11 hR hG _), hz, t_brF (by decide), t_brF (nI_pos (by omega)), t_brT (show nI k ≤ 3 from nI_le (b := 3) hk (by omega)), t_bnd]
    refine t_mono oT ?_
    rintro x μ1 ⟨rfl, a2, a3, a4, a5, a6⟩
    have hR1 : RH 14 w μ1 := rh_fr (fun a q1 q2 => a5 a (by omega) (by omega)) hR
    have hR2 : RH 14 (ovr w way (w 4)).1 μ1 := same_rh a3 hG hR1
    have w4 := a3.1 4 (by omega)
    have cs : k = 0 ∨ k = 1 ∨ k = 2 ∨ k = 3 := by omega
    rcases cs with rfl | rfl | rfl | rfl
    · rw [t_brT (by decide), t_bnd, t_eq (bc μ1), t_ret]
      exact ⟨by rw [hr, if_pos rfl, pSum_ct], cp_th hS a5 a6⟩
    · rw [t_brF (by decide), t_brT (by decide), lk_0_5, t_bnd, t_eq (worthOf_eq hR1 hG (ovM_bit hG)), t_ret]
      exact ⟨by rw [hr, if_neg (by decide), if_pos rfl]; rfl, cp_th hS a5 a6⟩
    · rw [t_brF (by decide), t_brF (by decide), t_brT (by decide), t_ret]
      exact ⟨by rw [hr, if_neg (by decide), if_neg (by decide), if_pos rfl], cp_th hS a5 a6⟩
    · rw [t_brF (by decide), t_brF (by decide), t_brF (by decide), lk_0_7, t_bnd, t_eq (missing9_eq sc_28 hR2 a2 a4), t_ret]
      exact ⟨by rw [hr, if_neg (by decide), if_neg (by decide), if_neg (by decide), w4], cp_th hS a5 a6⟩
  · intro μ1 h1 h2 hW1
    have d0 : μ1.1 146 21 = nI 0 := by rw [h1 146 (by omega)]; exact hF.1
    rw [t_bnd, t_eq (isWay12 hW1 hG _), hz, t_brF (by decide), t_bnd, t_eq (in_eq _ _ _ _), t64_0, t64_3, hv, t_brF (by decide)]
    have re : ∀ {A B : Type} (f : sm_M A) (g : sm_M Int32) (h : Int32 → sm_M B) (μ : sm_Mem) (Q : B → sm_Mem → Prop), T (m_bnd f fun _ => m_bnd g fun x => h x) μ Q ↔ T (m_bnd (m_bnd f fun _ => g) fun x => h x) μ Q := by
      intro A B f g h μ Q
      rw [t_bnd, t_bnd, t_bnd]
      have : (fun (b : A) (μ' : sm_Mem) => T (m_bnd g fun x => h x) μ' Q) = (fun b μ' => T g μ' (fun b μ' => T (h b) μ' Q)) := by
        funext b μ'
        rw [t_bnd]
      rw [this]
    have th := think_T (r := r) (f := m_bnd (fnX12_allGoOver 146 (nI way)) fun _ => fnX12_mustAndNot 146) (g := fun x33 => m_br (nI k = 0)
    (m_gi 146 22 fun x46 => m_ret x46)
    (m_br (nI k = (1 : Int32))
    (m_gi 146 23 fun x58 => m_ret x58)
    (m_br (nI k = (2 : Int32))
    (m_gi 146 24 fun x70 => m_ret x70)
    (m_ret x33)))) d0 hW1 (by
      intro μ2 hW2 _ _ _ _
      rw [t_bnd]
      refine t_mono (allGo_T hG hw hW2) ?_
      rintro - μ3 ⟨p1, p2, p3, p4, p5, p6, p7, p8, p9, p10⟩
      have w4 := p2.1 4 (by omega)
      rw [t_eq (mustNot_eq p1 p3)]
      refine ⟨p9, p8, p10, ?_⟩
      intro μ4 q
      have cs : k = 0 ∨ k = 1 ∨ k = 2 ∨ k = 3 := by omega
      rcases cs with rfl | rfl | rfl | rfl
      · rw [t_brT (by decide), t_gi, t_ret, q 22 (by omega)]
        exact ⟨by rw [hr, if_pos rfl]; exact p4, rfl⟩
      · rw [t_brF (by decide), t_brT (by decide), t_gi, t_ret, q 23 (by omega)]
        exact ⟨by rw [hr, if_neg (by decide), if_pos rfl]; exact p5, rfl⟩
      · rw [t_brF (by decide), t_brF (by decide), t_brT (by decide), t_gi, t_ret, q 24 (by omega)]
        exact ⟨by rw [hr, if_neg (by decide), if_neg (by decide), if_pos rfl]; exact mask_mk hG p6, rfl⟩
      · rw [t_brF (by decide), t_brF (by decide), t_brF (by decide), t_ret]
        exact ⟨by rw [hr, if_neg (by decide), if_neg (by decide), if_neg (by decide), w4], rfl⟩)
    rw [t_bnd] at th ⊢
    refine t_mono th ?_
    rintro - μ2 th2
    rw [re]
    refine t_mono th2 ?_
    rintro x μ3 ⟨q1, q2, -⟩
    exact ⟨q1, q2⟩
theorem op_all (z : Int32) : op2 Inv (fnX11_all 0 z) (fnX12_all 146 z) := by
  apply op_two
  intro w μ hC hO
  obtain ⟨hG, hR, hS, hW, hL, hT, hSl, hI, hF⟩ := id hC
  have n := hG.1
  unfold fnX11_all fnX12_all
  cases hz : (decide (0 < w 0) && rg z 0 3)
  · refine ⟨-2, w, same_rf w, hG, ?_, ?_⟩
    · rw [t_bnd, t_eq (isWay11 hR hG _), hz, t_brT (by decide), t_ret]
      exact ⟨rfl, cp_rf hS⟩
    · intro μ1 _ _ hW1
      rw [t_bnd, t_eq (isWay12 hW1 hG _), hz, t_brT (by decide), t_ret]
      exact ⟨rfl, rp_rf hW1⟩
  obtain ⟨-, way, hw, rfl⟩ := way_nat hz
  have so := sendOver_T sc_24 hG hw (μ := (u2 μ.1 42 8 (mI 1), μ.2)) (rh_fr (μ := μ) (fun a q1 q2 => (by simp (disch := omega) only [u2_ne, u2_a, u2_k, u2_at])) hR) (lks_fr (μ := μ) (fun a q1 q2 => (by simp (disch := omega) only [u2_ne, u2_a, u2_k, u2_at])) hL) (sh_fr (μ := μ) (fun a q1 q2 => (by simp (disch := omega) only [u2_ne, u2_a, u2_k, u2_at])) hS)
  have so2 := so
  obtain ⟨x0, μ0, -, -, -, y3, y4, -, -⟩ := so2
  refine ⟨nI (pSum w (ovr w way (w 4)).2 (fun _ => 1)), (ovr w way (w 4)).1, y3, y4, ?_, ?_⟩
  · rw [t_bnd, t_eq (isWay11 hR hG _), hz, t_brF (by decide), lk_0_11, lk_0_10, lk_0_6, t_bnd, forget_T, t_bnd]
    refine t_mono so ?_
    rintro x μ1 ⟨b1, b2, b3, b4, b5, b6⟩
    rw [mask_mk hG b1, t_bnd, t_eq (bitCount_mk (by omega) _), t_ret]
    refine ⟨by rw [pSum_ct], b2, ?_, by rw [b6], Or.inl ?_⟩
    · intro a ha
      rw [b5 a (by omega) (by omega)]
      simp (disch := omega) only [u2_ne, u2_a, u2_k, u2_at]
    · rw [b5 42 (by omega) (by omega)]
      simp (disch := omega) only [u2_ne, u2_a, u2_k, u2_at]
  · intro μ1 h1 h2 hW1
    rw [t_bnd, t_eq (isWay12 hW1 hG _), hz, t_brF (by decide), t_bnd]
    refine t_mono (allGo_T hG hw hW1) ?_
    rintro - μ2 ⟨p1, p2, p3, p4, p5, p6, p7, p8, p9, p10⟩
    rw [t_gi, t_ret]
    exact ⟨p4, p1, fun a ha => p9 a (by omega) (by omega) (by omega), fun k hk => p8 k (by omega) (by omega), fun a _ => by rw [p10]⟩
