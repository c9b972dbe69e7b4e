/-! ===== NOON, BARS ===== -/
/-- one hour less, and then none -/
def hI (k : Nat) : Int32 := if k = 0 then mI 1 else nI (k - 1)
theorem hI_pred {h : Nat} : nI h + (-1 : Int32) = hI h := by
  unfold hI
  by_cases c : h = 0
  · subst c
    rfl
  · rw [if_neg c, ← pk_sub (a := h) (b := 1) (by omega)]
    exact (Int32.sub_eq_add_neg ..).symm
noncomputable def noonW (w : Nat → Nat) (r n : Nat) : Nat → Int32
  | 0 => mI 1
  | h + 1 => if n ≤ mostW (up w 7 h) r 1 then nI h else noonW w r n h
theorem noon11_L {w : Nat → Nat} (hG : Good w) {r n : Nat} (h1 : 1 ≤ r) (h9 : r ≤ 9) (hn : n ≤ 999) {μ0 : sm_Mem} (hR : RH 14 w μ0) (hS : SH 24 w μ0) (hL : LKS w μ0) : ∀ (f k : Nat) (μ : sm_Mem), k < f → k ≤ 24 → FrT μ0 μ → T (fnX11_noon_L25 f 0 (nI r) (nI n) (hI k)) μ (fun x μ' => x = noonW w r n k ∧ FrT μ0 μ') := by
  intro f
  induction f with
  | zero =>
    intro k μ h
    omega
  | succ f ih =>
    intro k μ hf hk hr
    unfold fnX11_noon_L25
    cases k with
    | zero =>
      rw [t_brT (show hI 0 < 0 by decide), t_ret]
      exact ⟨m1_mI, hr⟩
    | succ h =>
      obtain ⟨r1, s1, l1⟩ := frT_core hr hR hS hL
      have e : hI (h + 1) = nI h := by
        unfold hI
        rw [if_neg (by omega)]
        rfl
      rw [e, t_brF (nI_pos (by omega)), t_bnd]
      refine t_mono (mostAt11_T hG h1 h9 (show h ≤ 23 by omega) r1 s1 l1) ?_
      rintro x μ1 ⟨rfl, a2, a3⟩
      show T _ μ1 (fun x μ' => x = (if n ≤ mostW (up w 7 h) r 1 then nI h else noonW w r n h) ∧ FrT μ0 μ')
      by_cases c : n ≤ mostW (up w 7 h) r 1
      · rw [t_brF (nI_nlt c (by omega)), t_ret, if_pos c]
        exact ⟨rfl, frT_tr hr a3⟩
      · rw [t_brT (nI_lt (by omega) (by omega)), if_neg c, hI_pred]
        exact ih h μ1 (by omega) (by omega) (frT_tr hr a3)
theorem noon12_L {w : Nat → Nat} (hG : Good w) {r n : Nat} (h9 : r ≤ 9) (hn : n ≤ 999) (hb : ∀ h, h ≤ 23 → mostW (up w 7 h) r 1 ≤ 999) {μ0 : sm_Mem} (hW : WH 147 w μ0) (h39 : μ0.1 146 39 = mI 1) : ∀ (f k : Nat) (μ : sm_Mem), k < f → k ≤ 24 → FrN μ0 μ → T (fnX12_noon_L32 f 146 (nI r) (nI n) (hI k)) μ (fun x μ' => x = noonW w r n k ∧ FrN μ0 μ') := by
  intro f
  induction f with
  | zero =>
    intro k μ h
    omega
  | succ f ih =>
    intro k μ hf hk hr
    unfold fnX12_noon_L32
    cases k with
    | zero =>
      rw [t_brT (show hI 0 < 0 by decide), t_ret]
      exact ⟨rfl, hr⟩
    | succ h =>
      have e : hI (h + 1) = nI h := by
        unfold hI
        rw [if_neg (by omega)]
        rfl
      have b9 := hb h (by omega)
      rw [e, t_brF (nI_pos (by omega)), t_bnd]
      refine t_mono (lateOf12_T hG h9 (show h ≤ 23 by omega) (rp_fl hW hr).1 (by rw [hr.2.1 39 (by omega)]; exact h39)) ?_
      rintro x μ1 ⟨rfl, a2, a3⟩
      show T _ μ1 (fun x μ' => x = (if n ≤ mostW (up w 7 h) r 1 then nI h else noonW w r n h) ∧ FrN μ0 μ')
      by_cases c : n ≤ mostW (up w 7 h) r 1
      · rw [t_brT (nI_le c (by omega)), t_ret, if_pos c]
        exact ⟨rfl, frN_tr hr a2⟩
      · rw [t_brF (nI_ge (by omega) (by omega)), if_neg c, hI_pred]
        exact ih h μ1 (by omega) (by omega) (frN_tr hr a2)
theorem op_noon (v u : Int32) : op2 Inv (fnX11_noon 0 v u) (fnX12_noon 146 v u) := by
  apply op_two
  intro w μ hC hO
  obtain ⟨hG, hR, hS, hW, hL, hT, hSl, hI', hF⟩ := id hC
  unfold fnX11_noon fnX12_noon
  cases q1 : (decide (0 < w 0) && rg v 1 9)
  · refine ⟨-2, w, same_rf w, hG, ?_, ?_⟩
    · rw [t_bnd, t_eq (isStride11 hR hG _), q1, t_brT (by decide), t_ret]
      exact ⟨rfl, cp_rf hS⟩
    · intro μ1 _ _ hW1
      rw [t_bnd, t_eq (isRiver12 hW1 hG)]
      cases q0 : decide (0 < w 0)
      · rw [t_brT (by decide), t_ret]
        exact ⟨rfl, rp_rf hW1⟩
      rw [q0, Bool.true_and] at q1
      rw [t_brF (by decide), t_bnd, t_eq (isStride12 _ _), q1, t_brT (by decide), t_ret]
      exact ⟨rfl, rp_rf hW1⟩
  have q1' := q1
  simp only [Bool.and_eq_true] at q1'
  obtain ⟨r, r1, r2, rfl⟩ := rg_nat (a := 1) (b := 9) q1'.2 (by omega)
  cases q2 : rg u 0 999
  · refine ⟨-2, w, same_rf w, hG, ?_, ?_⟩
    · rw [t_bnd, t_eq (isStride11 hR hG _), q1, t_brF (by decide)]
      rcases rg_no (b := 999) q2 (by omega) with q | ⟨x1, x2⟩
      · rw [t_brT q, t_ret]
        exact ⟨rfl, cp_rf hS⟩
      · rw [t_brF x1, t_brF (show ¬ u ≤ (999 : Int32) from x2), t_ret]
        exact ⟨rfl, cp_rf hS⟩
    · intro μ1 _ _ hW1
      rw [t_bnd, t_eq (isRiver12 hW1 hG), q1'.1, t_brF (by decide), t_bnd, t_eq (isStride12 _ _), q1'.2, t_brF (by decide), t_bnd, t_eq (in_eq _ _ _ _), t64_0, t64_999, q2, t_brT (by decide), t_ret]
      exact ⟨rfl, rp_rf hW1⟩
  obtain ⟨n, -, hn, rfl⟩ := rg_nat (a := 0) (b := 999) q2 (by omega)
  have hb : ∀ h, h ≤ 23 → mostW (up w 7 h) r 1 ≤ 999 := by
    intro h hh
    obtain ⟨x, μ', -, -, a2, -⟩ := mostAt11_T hG r1 r2 hh hR hS hL
    exact a2
  refine ⟨noonW w r n 24, w, same_rf w, hG, ?_, ?_⟩
  · rw [t_bnd, t_eq (isStride11 hR hG _), q1, t_brF (by decide), t_brF (nI_pos (by omega)), t_brT (show nI n ≤ (999 : Int32) from nI_le (b := 999) hn (by omega))]
    refine t_mono (noon11_L hG r1 r2 hn hR hS hL 4096 24 μ (by omega) (by omega) (frT_rf μ)) ?_
    rintro x μ1 ⟨a1, a2⟩
    exact ⟨a1, cp_ft hS a2⟩
  · intro μ1 h1 h2 hW1
    have h39 : μ1.1 146 39 = mI 1 := by rw [h1 146 (by omega)]; exact hF.2.1
    rw [t_bnd, t_eq (isRiver12 hW1 hG), q1'.1, t_brF (by decide), t_bnd, t_eq (isStride12 _ _), q1'.2, t_brF (by decide), t_bnd, t_eq (in_eq _ _ _ _), t64_0, t64_999, q2, t_brF (by decide)]
    refine t_mono (noon12_L hG r2 hn hb hW1 h39 4096 24 μ1 (by omega) (by omega) (frN_rf μ1)) ?_
    rintro x μ2 ⟨a1, a2⟩
    exact ⟨a1, rp_fl hW1 a2⟩
/-! bars: a stone that bears nothing, or none -/
theorem minC_le {n : Nat} {b b' : Nat → Nat} {near far near' far' : Nat → Bool} {adj adj' : Nat → Nat → Bool} {v v' : Nat} {E L E' L' : Nat → Bool} (H : MinC n b near far adj v E L) (H' : MinC n b' near' far' adj' v' E' L') (h : ∀ A B, Ct n near far adj A B → ∃ A' B', Ct n near' far' adj' A' B' ∧ capOf n b' A' B' ≤ capOf n b A B) : v' ≤ v := by
  obtain ⟨a1, a2, -, -⟩ := H
  obtain ⟨A', B', c, l⟩ := h E L a1
  have := H'.2.2.1 A' B' c
  omega
theorem bars_eq {pr : Nat → Bool} {gx gy b : Nat → Nat} {W r s0 v v' : Nat} {E L E' L' : Nat → Bool} (H : MinC 25 (zB (prN pr s0) b) (zNear (prN pr s0) gy r) (zFar (prN pr s0) W gy r) (zAdj (prN pr s0) gx gy r) v E L) (H' : MinC 25 (zB pr (up b s0 0)) (zNear pr gy r) (zFar pr W gy r) (zAdj pr gx gy r) v' E' L') : v = v' := by
  have bb : ∀ s, zB (prN pr s0) b s = zB pr (up b s0 0) s := by
    intro s
    unfold zB prN
    by_cases c : s = s0
    · subst c
      rw [up_at]
      simp
    · rw [up_ne c, decide_eq_true (show s ≠ s0 from c), Bool.and_true]
  have b0 : zB pr (up b s0 0) s0 = 0 := by
    unfold zB
    rw [up_at]
    split <;> rfl
  have h1 : v' ≤ v := by
    refine minC_le H H' ?_
    intro A B c
    refine ⟨fun s => A s || decide (s = s0), fun s => B s && decide (s ≠ s0), ?_, ?_⟩
    · intro s hs
      obtain ⟨c1, c2, c3⟩ := c s hs
      refine ⟨fun hn => ?_, fun hB => ?_, fun t ht hB ha => ?_⟩
      · show (A s || decide (s = s0)) = true
        by_cases q : s = s0
        · simp [q]
        · rw [c1 (by
            unfold zNear prN at *
            rw [decide_eq_true (show s ≠ s0 from q), Bool.and_true]
            exact hn)]
          rfl
      · have hB : (B s && decide (s ≠ s0)) = true := hB
        simp only [Bool.and_eq_true, decide_eq_true_eq] at hB
        have := c2 hB.1
        unfold zFar prN at *
        rw [decide_eq_true hB.2, Bool.and_true] at this
        exact this
      · have hB : (B s && decide (s ≠ s0)) = true := hB
        simp only [Bool.and_eq_true, decide_eq_true_eq] at hB
        show (A t || decide (t = s0)) = true
        by_cases q : t = s0
        · simp [q]
        · rw [c3 t ht hB.1 (by
            unfold zAdj prN at *
            rw [decide_eq_true hB.2, decide_eq_true (show t ≠ s0 from q), Bool.and_true, Bool.and_true]
            exact ha)]
          rfl
    · unfold capOf
      apply Nat.le_of_eq
      apply fb_sm_cong
      intro s _
      rw [bb s]
      by_cases q : s = s0
      · subst q
        rw [b0]
        simp only [nd]
        split <;> split <;> rfl
      · simp [q]
  have h2 : v ≤ v' := by
    refine minC_le H' H ?_
    intro A B c
    refine ⟨A, B, ?_, ?_⟩
    · intro s hs
      obtain ⟨c1, c2, c3⟩ := c s hs
      refine ⟨fun hn => c1 ?_, fun hB => ?_, fun t ht hB ha => c3 t ht hB ?_⟩
      · unfold zNear prN at *
        simp only [Bool.and_eq_true] at hn ⊢
        exact ⟨hn.1.1, hn.2⟩
      · have := c2 hB
        unfold zFar prN at *
        cases hp : pr s
        · rfl
        · rw [hp, Bool.true_and] at this
          rw [this, Bool.and_false]
      · unfold zAdj prN at *
        simp only [Bool.and_eq_true] at ha ⊢
        exact ⟨⟨ha.1.1.1, ha.1.2.1⟩, ha.2⟩
    · unfold capOf
      apply Nat.le_of_eq
      apply fb_sm_cong
      intro s _
      rw [bb s]
  omega
