/-! ===== length, path ===== -/
theorem m1_mI : (-1 : Int32) = mI 1 := id rfl
theorem mI_lt0 : mI 1 < 0 := by decide
theorem op_length (v u z : Int32) : op2 Inv (fnX11_length 0 v u z) (fnX12_length 146 v u z) := by
  apply op_two
  intro w μ hC hO
  obtain ⟨hG, hR, hS, hW, hL, hT, hSl, hI, hF⟩ := id hC
  unfold fnX11_length fnX12_length
  simp only [t_bnd, t_eq (isStride11 hR hG _), t_eq (isWeight11 _ _), t_eq (isWay11 hR hG _), t_br, bI_0, lk_0_9, lk_0_6]
  cases h0 : (decide (0 < w 0) && (rg v 1 9 && (rg u 1 6 && rg z 0 3)))
  · refine ⟨-2, w, same_rf w, hG, ?_, ?_⟩
    · cases h1 : decide (0 < w 0)
      · simp only [Bool.false_and, reduceCtorEq, if_true, if_false, eq_self, t_ret]
        exact ⟨(by first | rfl | trivial), cp_rf hS⟩
      · cases h2 : rg v 1 9
        · simp only [Bool.and_false, reduceCtorEq, if_true, if_false, eq_self, t_ret]
          exact ⟨(by first | rfl | trivial), cp_rf hS⟩
        · cases h3 : rg u 1 6
          · simp only [Bool.and_true, reduceCtorEq, if_true, if_false, eq_self, t_ret]
            exact ⟨(by first | rfl | trivial), cp_rf hS⟩
          · cases h4 : rg z 0 3
            · simp only [Bool.and_true, Bool.and_false, reduceCtorEq, if_true, if_false, eq_self, t_ret]
              exact ⟨(by first | rfl | trivial), cp_rf hS⟩
            · rw [h1, h2, h3, h4] at h0
              cases h0
    · intro μ1 _ _ hW1
      simp only [t_eq (isAsked12 hW1 hG _ _ _), h0, reduceCtorEq, if_true, if_false, eq_self, t_ret]
      exact ⟨(by first | rfl | trivial), rp_rf hW1⟩
  · have h0' := h0
    simp only [Bool.and_eq_true] at h0'
    obtain ⟨h1, h2, h3, h4⟩ := h0'
    obtain ⟨r, r1, r2, rfl⟩ := rg_nat (a := 1) (b := 9) h2 (by omega)
    obtain ⟨wt, t1, t2, rfl⟩ := rg_nat (a := 1) (b := 6) h3 (by omega)
    obtain ⟨way, -, y2, rfl⟩ := rg_nat (a := 0) (b := 3) h4 (by omega)
    refine ⟨(match findW w r wt way 98 with | none => mI 1 | some l => nI l.length), w, same_rf w, hG, ?_, ?_⟩
    · simp only [h1, h2, h3, h4, Bool.true_and, reduceCtorEq, if_true, if_false, eq_self, li_98]
      refine t_mono (seek_T (c := 24) (wt := wt) (way := way) (bank := 98) sc_24 hG r1 r2 (by omega) (by omega) (Or.inl rfl) hR hS hL) ?_
      rintro x μ1 ⟨a1, a2, a3⟩
      rw [t_ret]
      refine ⟨?_, sh_fr (fun a q1 q2 => a2 a (by omega)) hS, fun a ha => a2 a (by omega), by rw [a3], Or.inr ⟨rfl, a2 42 (by omega), a2 45 (by omega)⟩⟩
      cases hf : findW w r wt way 98 with
      | none =>
        rw [hf] at a1
        exact a1
      | some l =>
        rw [hf] at a1
        exact a1.1
    · intro μ1 _ _ hW1
      simp only [t_eq (isAsked12 hW1 hG _ _ _), h0, reduceCtorEq, if_true, if_false, eq_self, li_98]
      refine t_mono (finds_T (bank := 98) hG r1 r2 t1 (by omega) (by omega) (Or.inl rfl) hW1) ?_
      rintro x μ2 ⟨a1, a2, a3, a4⟩
      have hrp : RP w μ1 μ2 := ⟨wh_fr (fun i _ => by rw [a3 147 (by omega) (by omega)]) hW1, fun a ha => a3 a (by omega) (by omega), fun k hk => a2 k (by omega), fun a _ => by rw [a4]⟩
      cases hf : findW w r wt way 98 with
      | none =>
        rw [hf] at a1
        have a1 : x = false := a1
        subst a1
        simp only [reduceCtorEq, if_true, if_false, eq_self, t_ret]
        exact ⟨m1_mI, hrp⟩
      | some l =>
        rw [hf] at a1
        obtain ⟨b1, b2, b3, b4⟩ := a1
        subst b1
        simp only [reduceCtorEq, if_true, if_false, eq_self, t_gi, t_ret]
        exact ⟨b3, hrp⟩
theorem op_path (v u z i : Int32) : op2 Inv (fnX11_path 0 v u z i) (fnX12_path 146 v u z i) := by
  apply op_two
  intro w μ hC hO
  obtain ⟨hG, hR, hS, hW, hL, hT, hSl, hI, hF⟩ := id hC
  have e_37 : ln 37 = 24 := rfl
  have e_156 : ln 156 = 25 := rfl
  unfold fnX11_path fnX12_path
  simp only [t_bnd, t_eq (isStride11 hR hG _), t_eq (isWeight11 _ _), t_eq (isWay11 hR hG _), t_br, bI_0, lk_0_9, lk_0_6]
  cases h0 : (decide (0 < w 0) && (rg v 1 9 && (rg u 1 6 && rg z 0 3)))
  · refine ⟨-2, w, same_rf w, hG, ?_, ?_⟩
    · cases h1 : decide (0 < w 0)
      · simp only [Bool.false_and, reduceCtorEq, if_true, if_false, eq_self, t_ret]
        exact ⟨(by first | rfl | trivial), cp_rf hS⟩
      · cases h2 : rg v 1 9
        · simp only [Bool.and_false, reduceCtorEq, if_true, if_false, eq_self, t_ret]
          exact ⟨(by first | rfl | trivial), cp_rf hS⟩
        · cases h3 : rg u 1 6
          · simp only [Bool.and_true, reduceCtorEq, if_true, if_false, eq_self, t_ret]
            exact ⟨(by first | rfl | trivial), cp_rf hS⟩
          · cases h4 : rg z 0 3
            · simp only [Bool.and_true, Bool.and_false, reduceCtorEq, if_true, if_false, eq_self, t_ret]
              exact ⟨(by first | rfl | trivial), cp_rf hS⟩
            · rw [h1, h2, h3, h4] at h0
              cases h0
    · intro μ1 _ _ hW1
      simp only [t_eq (isAsked12 hW1 hG _ _ _), h0, reduceCtorEq, if_true, if_false, eq_self, t_ret]
      exact ⟨(by first | rfl | trivial), rp_rf hW1⟩
  · have h0' := h0
    simp only [Bool.and_eq_true] at h0'
    obtain ⟨h1, h2, h3, h4⟩ := h0'
    obtain ⟨r, r1, r2, rfl⟩ := rg_nat (a := 1) (b := 9) h2 (by omega)
    obtain ⟨wt, t1, t2, rfl⟩ := rg_nat (a := 1) (b := 6) h3 (by omega)
    obtain ⟨way, -, y2, rfl⟩ := rg_nat (a := 0) (b := 3) h4 (by omega)
    refine ⟨(match findW w r wt way 98 with | none => mI 1 | some l => if ¬ i < 0 ∧ i < nI l.length then nI (l.getD i.toNatClampNeg 0) else mI 1), w, same_rf w, hG, ?_, ?_⟩
    · simp only [h1, h2, h3, h4, Bool.true_and, reduceCtorEq, if_true, if_false, eq_self, li_98]
      refine t_mono (seek_T (c := 24) (wt := wt) (way := way) (bank := 98) sc_24 hG r1 r2 (by omega) (by omega) (Or.inl rfl) hR hS hL) ?_
      rintro x μ1 ⟨a1, a2, a3⟩
      have hcp : CP w w μ μ1 := ⟨sh_fr (fun a q1 q2 => a2 a (by omega)) hS, fun a ha => a2 a (by omega), by rw [a3], Or.inr ⟨rfl, a2 42 (by omega), a2 45 (by omega)⟩⟩
      simp only [t_ret]
      by_cases c1 : i < 0
      · rw [if_pos c1]
        refine ⟨?_, hcp⟩
        cases hf : findW w r wt way 98 with
        | none => rfl
        | some l =>
          simp only
          rw [if_neg (fun q => q.1 c1)]
          rfl
      · rw [if_neg c1]
        cases hf : findW w r wt way 98 with
        | none =>
          rw [hf] at a1
          have a1 : x = mI 1 := a1
          rw [if_pos (by
            rw [a1, fa_le]
            rw [fa_lt] at c1
            have e0 : (0 : Int32).toInt = 0 := by decide
            have e1 : (mI 1).toInt = -1 := by decide
            omega)]
          exact ⟨rfl, hcp⟩
        | some l =>
          rw [hf] at a1
          obtain ⟨b1, b2, b3, b4⟩ := a1
          by_cases c2 : x ≤ i
          · rw [if_pos c2]
            refine ⟨?_, hcp⟩
            simp only
            rw [if_neg]
            · rfl
            · intro q
              rw [b1, fa_le] at c2
              have := q.2
              rw [fa_lt] at this
              omega
          · rw [if_neg c2]
            have c3 : i < nI l.length := by
              rw [b1, fa_le] at c2
              rw [fa_lt]
              omega
            obtain ⟨j, hj, rfl⟩ := nI_of c1
            have hjl : j < l.length := (nI_ltI hj (by omega)).mp c3
            rw [if_neg (show ¬ (24 : Int32) ≤ nI j from nI_ge (b := 24) (by omega) (by omega)), lk_36_0, t_ai (by omega), t_ret]
            refine ⟨?_, hcp⟩
            simp only
            rw [if_pos ⟨c1, c3⟩, nI_clamp hj]
            exact b4.1 j hjl
    · intro μ1 _ _ hW1
      simp only [t_eq (isAsked12 hW1 hG _ _ _), h0, reduceCtorEq, if_true, if_false, eq_self, li_98]
      refine t_mono (finds_T (bank := 98) hG r1 r2 t1 (by omega) (by omega) (Or.inl rfl) hW1) ?_
      rintro x μ2 ⟨a1, a2, a3, a4⟩
      have hrp : RP w μ1 μ2 := ⟨wh_fr (fun i _ => by rw [a3 147 (by omega) (by omega)]) hW1, fun a ha => a3 a (by omega) (by omega), fun k hk => a2 k (by omega), fun a _ => by rw [a4]⟩
      cases hf : findW w r wt way 98 with
      | none =>
        rw [hf] at a1
        have a1 : x = false := a1
        subst a1
        simp only [reduceCtorEq, if_true, if_false, eq_self, t_ret]
        exact ⟨m1_mI, hrp⟩
      | some l =>
        rw [hf] at a1
        obtain ⟨b1, b2, b3, b4⟩ := a1
        subst b1
        simp only [reduceCtorEq, if_true, if_false, eq_self, t_gi, t_bnd, b3, t_eq (in_eq _ _ _ _), pred_toInt (show l.length < 4096 by omega), t64_0, t_br, bI_0]
        have rr : rg i 0 ((l.length : Int) - 1) = decide (¬ i < 0 ∧ i < nI l.length) := by
          unfold rg
          apply decide_eq_decide.mpr
          rw [fa_lt, fa_lt, nI_toInt (by omega)]
          have : (0 : Int32).toInt = 0 := by decide
          omega
        rw [rr]
        by_cases c : ¬ i < 0 ∧ i < nI l.length
        · rw [decide_eq_true c, if_neg (by decide), if_pos c]
          obtain ⟨j, hj, rfl⟩ := nI_of c.1
          have hjl : j < l.length := (nI_ltI hj (by omega)).mp c.2
          rw [lk_146_18, t_ai (by omega), t_ret, nI_clamp hj]
          exact ⟨b4.1 j hjl, hrp⟩
        · rw [decide_eq_false c, if_pos rfl, if_neg c, t_ret]
          exact ⟨m1_mI, hrp⟩
/-! ===== what rows are like; wearing ===== -/
theorem wear_o {wt : Nat} : ∀ (l : List Nat) (w : Nat → Nat) (i : Nat), (∀ s, s ∈ l → i ≠ 16 + 7 * s) → wearW w l wt i = w i
  | [], w, i, _ => rfl
  | x :: l, w, i, h => by
    show wearW (up w (16 + 7 * x) (w (16 + 7 * x) + wt)) l wt i = w i
    rw [wear_o l _ i (fun s hs => h s (List.mem_cons_of_mem _ hs)), up_ne (h x List.mem_cons_self)]
theorem wear_b {wt : Nat} : ∀ (l : List Nat) (w : Nat → Nat) (s : Nat), l.Nodup → wearW w l wt (16 + 7 * s) = w (16 + 7 * s) + (if s ∈ l then wt else 0)
  | [], w, s, _ => by simp [wearW]
  | x :: l, w, s, h => by
    obtain ⟨h1, h2⟩ := List.nodup_cons.mp h
    show wearW (up w (16 + 7 * x) (w (16 + 7 * x) + wt)) l wt (16 + 7 * s) = _
    rw [wear_b l _ s h2]
    by_cases e : s = x
    · subst e
      rw [up_at, if_neg h1, if_pos List.mem_cons_self, Nat.add_zero]
    · rw [up_ne (by omega)]
      by_cases q : s ∈ l
      · rw [if_pos q, if_pos (List.mem_cons_of_mem _ q)]
      · rw [if_neg q, if_neg (fun z => by
          rcases List.mem_cons.mp z with z | z
          · exact e z
          · exact q z)]
theorem same_wear {w : Nat → Nat} {l : List Nat} {wt : Nat} (hl : ∀ x, x ∈ l → x < 24) : Same w (wearW w l wt) := by
  refine ⟨fun i hi => wear_o l w i (fun s _ => by omega), fun s k hs hk => wear_o l w _ (fun t _ => by omega), fun p k hp hk => wear_o l w _ (fun t ht => by have := hl t ht; omega)⟩
theorem good_wear {w : Nat → Nat} (hG : Good w) {l : List Nat} {wt : Nat} (hw : 1 ≤ wt) (hl : ∀ x, x ∈ l → x < w 3 ∧ opn w wt x = true) (hn : l.Nodup) : Same w (wearW w l wt) ∧ Good (wearW w l wt) := by
  have n := hG.1
  have hs : Same w (wearW w l wt) := same_wear (fun x hx => by have := (hl x hx).1; omega)
  refine ⟨hs, same_good hs hG ?_ ?_ ?_ ?_⟩
  · rw [wear_o l w 7 (fun s _ => by omega)]
    omega
  · intro s hs'
    have g := hG.2.2.2.1 s hs'
    rw [wear_o l w (15 + 7 * s) (fun t _ => by omega), wear_b l w s hn]
    refine ⟨by omega, ?_⟩
    by_cases q : s ∈ l
    · rw [if_pos q]
      have ho := (hl s q).2
      unfold opn at ho
      have := lf_borne (of_decide_eq_true ho).2 hw
      split at this <;> omega
    · rw [if_neg q]
      omega
  · intro s h1 h2
    rw [wear_b l w s hn, if_neg (fun q => by have := (hl s q).1; omega), hG.2.2.2.2.1 s h1 h2]
  · intro p hp
    rw [wear_o l w (191 + 7 * p) (fun t ht => by have := (hl t ht).1; omega)]
    exact hG.2.2.2.2.2.2.2.2.2 p hp
