/-! ===== hour, know, step, fresh ===== -/
/-- the pair of calls changes the world alike; what is held is forgotten -/
theorem core_new {w w' : Nat → Nat} {μ μ' : sm_Mem} (hC : Core w μ) (hs : Same w w') (hG : Good w') (hS : SH 24 w' μ') (hW : WH 147 w' μ')
    (f1 : ∀ a, (a = 0 ∨ a = 1 ∨ (14 ≤ a ∧ a < 24) ∨ (32 ≤ a ∧ a < 36) ∨ (95 ≤ a ∧ a < 147) ∨ (148 ≤ a ∧ a < 151) ∨ a = 168 ∨ a = 169) → μ'.1 a = μ.1 a) (f2 : μ'.2 = μ.2) : Core w' μ' := by
  obtain ⟨g, r, s, wh, l, t, sl, im, rf⟩ := hC
  exact ⟨hG, same_rh hs g (rh_fr (fun a q1 q2 => f1 a (by omega)) r), hS, hW, same_lks hs g (lks_fr (fun a q1 q2 => f1 a (by omega)) l), tp_fr (f1 0 (by omega)) (f1 1 (by omega)) (f1 150 (by omega)) (by rw [f1 146 (by omega)]) (by rw [f1 146 (by omega)]) (by rw [f1 146 (by omega)]) t, sl_fr (fun a q1 q2 => f1 a (by omega)) (f1 168 (by omega)) (f1 169 (by omega)) (fun a q1 q2 => by rw [f2]) (by rw [f2]) sl, im_fr (fun a q1 q2 => f1 a (by omega)) (f1 95 (by omega)) (f1 148 (by omega)) (f1 149 (by omega)) im, rf_fr (by rw [f1 146 (by omega)]) (by rw [f1 146 (by omega)]) (by rw [f1 146 (by omega)]) rf⟩
theorem forget_T {μ : sm_Mem} {Q : Unit → sm_Mem → Prop} : T (fnX5_forget 42) μ Q ↔ Q () (u2 μ.1 42 8 (mI 1), μ.2) := by
  unfold fnX5_forget
  simp only [t_si, t_ret]
  exact Iff.rfl
theorem sh_up7 {c : Nat} {w : Nat → Nat} {μ : sm_Mem} {v : Nat} (H : SH c w μ) : SH c (up w 7 v) (u2 μ.1 c 1 (nI v), μ.2) := by
  obtain ⟨s1, s2, s3, s4⟩ := H
  have e3 : up w 7 v 3 = w 3 := up_ne (by omega)
  have e4 : up w 7 v 4 = w 4 := up_ne (by omega)
  refine ⟨?_, ?_, ?_, ?_⟩
  · rw [up_at]
    simp (disch := omega) only [u2_ne, u2_a, u2_k, u2_at]
  · intro t ht
    rw [up_ne (by omega), ← s2 t ht]
    simp (disch := omega) only [u2_ne, u2_a, u2_k, u2_at]
  · intro t ht
    rw [e3] at ht
    rw [up_ne (by omega), ← s3 t ht]
    simp (disch := omega) only [u2_ne, u2_a, u2_k, u2_at]
  · intro q hq
    rw [e4] at hq
    rw [up_ne (by omega), ← s4 q hq]
    simp (disch := omega) only [u2_ne, u2_a, u2_k, u2_at]
theorem sh_up15 {c : Nat} {w : Nat → Nat} {μ : sm_Mem} {s v : Nat} (hs : s < 24) (H : SH c w μ) : SH c (up w (15 + 7 * s) v) (u2 μ.1 (c + 2) s (nI (kc v)), μ.2) := by
  obtain ⟨s1, s2, s3, s4⟩ := H
  have e3 : up w (15 + 7 * s) v 3 = w 3 := up_ne (by omega)
  have e4 : up w (15 + 7 * s) v 4 = w 4 := up_ne (by omega)
  refine ⟨?_, ?_, ?_, ?_⟩
  · rw [up_ne (by omega), ← s1]
    simp (disch := omega) only [u2_ne, u2_a, u2_k, u2_at]
  · intro t ht
    rw [up_ne (by omega), ← s2 t ht]
    simp (disch := omega) only [u2_ne, u2_a, u2_k, u2_at]
  · intro t ht
    rw [e3] at ht
    by_cases e : t = s
    · subst e
      rw [up_at]
      simp (disch := omega) only [u2_ne, u2_a, u2_k, u2_at]
    · rw [up_ne (by omega), ← s3 t ht]
      simp (disch := omega) only [u2_ne, u2_a, u2_k, u2_at]
  · intro q hq
    rw [e4] at hq
    rw [up_ne (by omega), ← s4 q hq]
    simp (disch := omega) only [u2_ne, u2_a, u2_k, u2_at]
/-- what the component's side of a call leaves -/
def CP (w w' : Nat → Nat) (μ μ1 : sm_Mem) : Prop := SH 24 w' μ1 ∧ (∀ a, (a = 0 ∨ a = 1 ∨ (14 ≤ a ∧ a < 24) ∨ (32 ≤ a ∧ a < 36) ∨ 95 ≤ a) → μ1.1 a = μ.1 a) ∧ μ1.2.1 = μ.2.1 ∧ (μ1.1 42 8 = mI 1 ∨ (w' = w ∧ μ1.1 42 = μ.1 42 ∧ μ1.1 45 = μ.1 45))
/-- what the reference's side leaves -/
def RP (w' : Nat → Nat) (μ1 μ2 : sm_Mem) : Prop := WH 147 w' μ2 ∧ (∀ a, (a < 146 ∨ (148 ≤ a ∧ a < 151) ∨ a = 168 ∨ a = 169) → μ2.1 a = μ1.1 a) ∧ (∀ k, (k = 5 ∨ k = 12 ∨ k = 13 ∨ k = 21 ∨ k = 39 ∨ k = 40) → μ2.1 146 k = μ1.1 146 k) ∧ (∀ a, (a < 146 ∨ a = 170) → μ2.2.1 a = μ1.2.1 a)
theorem op_two {β : Type} {f g : sm_M β} (h : ∀ w μ, Core w μ → OH w μ → ∃ r w', Same w w' ∧ Good w' ∧ T f μ (fun r1 μ1 => r1 = r ∧ CP w w' μ μ1) ∧ ∀ μ1 : sm_Mem, (∀ a, 146 ≤ a → μ1.1 a = μ.1 a) → μ1.2.1 = μ.2.1 → WH 147 w μ1 → T g μ1 (fun r2 μ2 => r2 = r ∧ RP w' μ1 μ2)) : op2 Inv f g := by
  rintro μ ⟨w, hC, hO⟩
  obtain ⟨r, w', hs, hG', ⟨r1, μ1, h1, e1, c1, c2, c3, c4⟩, hg⟩ := h w μ hC hO
  subst e1
  obtain ⟨g, r, s, wh, l, t, sl, im, rf⟩ := hC
  have wh1 : WH 147 w μ1 := wh_fr (fun i _ => by rw [c2 147 (by omega)]) wh
  obtain ⟨r2, μ2, h2, e2, d1, d2, d3, d4⟩ := hg μ1 (fun a ha => c2 a (by omega)) c3 wh1
  subst e2
  have both : ∀ a, (a = 0 ∨ a = 1 ∨ (14 ≤ a ∧ a < 24) ∨ (32 ≤ a ∧ a < 36) ∨ (95 ≤ a ∧ a < 146) ∨ (148 ≤ a ∧ a < 151) ∨ a = 168 ∨ a = 169) → μ2.1 a = μ.1 a := fun a ha => (d2 a (by omega)).trans (c2 a (by omega))
  have b146 : ∀ k, (k = 5 ∨ k = 12 ∨ k = 13 ∨ k = 21 ∨ k = 39 ∨ k = 40) → μ2.1 146 k = μ.1 146 k := fun k hk => (d3 k hk).trans (by rw [c2 146 (by omega)])
  have bl : ∀ a, (a < 146 ∨ a = 170) → μ2.2.1 a = μ.2.1 a := fun a ha => (d4 a ha).trans (by rw [c3])
  refine ⟨r2, μ1, μ2, h1, h2, w', ⟨hG', same_rh hs g (rh_fr (fun a q1 q2 => both a (by omega)) r), sh_fr (fun a q1 q2 => d2 a (by omega)) c1, d1, same_lks hs g (lks_fr (fun a q1 q2 => both a (by omega)) l), tp_fr (both 0 (by omega)) (both 1 (by omega)) (both 150 (by omega)) (b146 5 (by omega)) (b146 12 (by omega)) (b146 13 (by omega)) t, sl_fr (fun a q1 q2 => both a (by omega)) (both 168 (by omega)) (both 169 (by omega)) (fun a q1 q2 => bl a (by omega)) (bl 170 (by omega)) sl, im_fr (fun a q1 q2 => both a (by omega)) (both 95 (by omega)) (both 148 (by omega)) (both 149 (by omega)) im, rf_fr (b146 21 (by omega)) (b146 39 (by omega)) (b146 40 (by omega)) rf⟩, ?_⟩
  have x42 := d2 42 (by omega)
  have x45 := d2 45 (by omega)
  rcases c4 with c | ⟨rfl, c5, c6⟩
  · exact Or.inl (by rw [x42]; exact c)
  · exact oh_fr (x42.trans c5) (x45.trans c6) hO
theorem cp_rf {w : Nat → Nat} {μ : sm_Mem} (hS : SH 24 w μ) : CP w w μ μ := ⟨hS, fun _ _ => rfl, rfl, Or.inr ⟨rfl, rfl, rfl⟩⟩
theorem rp_rf {w : Nat → Nat} {μ : sm_Mem} (hW : WH 147 w μ) : RP w μ μ := ⟨hW, fun _ _ => rfl, fun _ _ => rfl, fun _ _ => rfl⟩
theorem op_hour (h : Int32) : op2 Inv (fnX11_hour 0 h) (fnX12_hour 146 h) := by
  apply op_two
  intro w μ hC hO
  obtain ⟨hG, hR, hS, hW, hL, hT, hSl, hI, hF⟩ := id hC
  have n := hG.1
  have e_147 : ln 147 = 241 := rfl
  unfold fnX11_hour fnX12_hour
  simp only [t_bnd, lk_0_6, lk_0_11, t_eq (isHour11 hR hG h), t_br, bI_0]
  cases hh : (decide (0 < w 0) && rg h 0 23)
  · refine ⟨-2, w, same_rf w, hG, ?_, ?_⟩
    · simp only [reduceCtorEq, if_true, if_false, eq_self, t_ret]
      exact ⟨(by first | rfl | trivial), cp_rf hS⟩
    · intro μ1 _ _ hW1
      simp only [t_ret, t_bnd, t_eq (isRiver12 hW1 hG), t_br, bI_0, t_eq (in_eq _ _ _ _), t64_0, t64_23]
      cases h1 : decide (0 < w 0)
      · simp only [reduceCtorEq, if_true, if_false, eq_self]
        exact ⟨(by first | rfl | trivial), rp_rf hW1⟩
      · rw [h1] at hh
        have : rg h 0 23 = false := by simpa using hh
        simp only [reduceCtorEq, if_true, if_false, eq_self, this]
        exact ⟨(by first | rfl | trivial), rp_rf hW1⟩
  · simp only [Bool.and_eq_true] at hh
    obtain ⟨j, -, hj, rfl⟩ := rg_nat (a := 0) (b := 23) hh.2 (by omega)
    have hs : Same w (up w 7 j) := same_up (Or.inl rfl)
    refine ⟨nI (w 7), up w 7 j, hs, ?_, ?_, ?_⟩
    · refine same_good hs hG (by rw [up_at]; omega) ?_ ?_ ?_
      · intro s hs
        have g := hG.2.2.2.1 s hs
        rw [up_ne (by omega), up_ne (by omega)]
        omega
      · intro s h1 h2
        rw [up_ne (by omega)]
        exact hG.2.2.2.2.1 s h1 h2
      · intro p hp
        rw [up_ne (by omega)]
        exact hG.2.2.2.2.2.2.2.2.2 p hp
    · simp only [reduceCtorEq, if_true, if_false, eq_self, t_gi, t_si, t_bnd, forget_T, t_ret]
      exact ⟨hS.1, sh_fr (μ := (u2 μ.1 24 1 (nI j), μ.2)) (fun a h1 h2 => (by simp (disch := omega) only [u2_ne, u2_a, u2_k, u2_at])) (sh_up7 hS), fun a ha => (by simp (disch := omega) only [u2_ne, u2_a, u2_k, u2_at]), (by first | rfl | trivial), Or.inl (by simp (disch := omega) only [u2_ne, u2_a, u2_k, u2_at])⟩
    · intro μ1 _ _ hW1
      simp (disch := (first | assumption | omega)) only [t_ret, t_bnd, t_eq (isRiver12 hW1 hG), t_br, bI_0, t_eq (in_eq _ _ _ _), t64_0, t64_23, hh.1, hh.2, reduceCtorEq, if_true, if_false, eq_self, lk_146_1, li_7, t_ai, t_sai]
      refine ⟨wh_lo hW1 (by omega), wh_up hW1 rfl, fun a ha => (by simp (disch := omega) only [u2_ne, u2_a, u2_k, u2_at]), fun k hk => (by simp (disch := omega) only [u2_ne, u2_a, u2_k, u2_at]), fun _ _ => (by first | rfl | trivial)⟩
theorem op_know (s : Int32) (b : Bool) : op2 Inv (fnX11_know 0 s (bI b)) (fnX12_know 146 s (bI b)) := by
  apply op_two
  intro w μ hC hO
  obtain ⟨hG, hR, hS, hW, hL, hT, hSl, hI, hF⟩ := id hC
  have n := hG.1
  unfold fnX11_know fnX12_know
  simp only [t_bnd, lk_0_6, lk_0_11, lk_24_3, t_eq (isStone11 hR hG s), t_br, bI_0]
  cases hh : rg s 0 ((w 3 : Int) - 1)
  · refine ⟨-2, w, same_rf w, hG, ?_, ?_⟩
    · simp only [reduceCtorEq, if_true, if_false, eq_self, t_ret]
      exact ⟨(by first | rfl | trivial), cp_rf hS⟩
    · intro μ1 _ _ hW1
      simp only [t_ret, t_bnd, t_eq (isStone12 hW1 hG _), t_br, bI_0, hh, reduceCtorEq, if_true, if_false, eq_self]
      exact ⟨(by first | rfl | trivial), rp_rf hW1⟩
  · obtain ⟨j, hj, rfl⟩ := rg_nI hh (by omega)
    cases hd : dbt w j
    · refine ⟨-5, w, same_rf w, hG, ?_, ?_⟩
      · simp only [reduceCtorEq, if_true, if_false, eq_self, t_eq (inDoubt_eq hR hS sc_24 hG hj), hd, t_ret]
        exact ⟨(by first | rfl | trivial), cp_rf hS⟩
      · intro μ1 _ _ hW1
        simp only [t_ret, t_bnd, t_eq (isStone12 hW1 hG _), t_br, bI_0, hh, reduceCtorEq, if_true, if_false, eq_self, t_eq (isInDoubt12 hW1 hG hj), hd]
        exact ⟨(by first | rfl | trivial), rp_rf hW1⟩
    · have e_26 : ln 26 = 24 := rfl
      have e5 : 10 + 7 * j + 5 = 15 + 7 * j := by omega
      have fin : ∀ v : Nat, v ≤ 2 → Same w (up w (15 + 7 * j) v) ∧ Good (up w (15 + 7 * j) v) ∧ T (fnX11_know_J42 0 (nI (kc v)) (nI j) 26) μ (fun r1 μ1 => r1 = nI 0 ∧ CP w (up w (15 + 7 * j) v) μ μ1) ∧ ∀ μ1 : sm_Mem, WH 147 w μ1 → T (fnX12_know_J34 (nI v) (5 : Int32) (nI j) 146) μ1 (fun r2 μ2 => r2 = nI 0 ∧ RP (up w (15 + 7 * j) v) μ1 μ2) := by
        intro v hv
        have hs : Same w (up w (15 + 7 * j) v) := same_up (Or.inr (Or.inl ⟨j, by omega, rfl⟩))
        refine ⟨hs, ?_, ?_, ?_⟩
        · refine same_good hs hG (by rw [up_ne (by omega)]; omega) ?_ ?_ ?_
          · intro s hs
            have g := hG.2.2.2.1 s hs
            rw [up_ne (i := 15 + 7 * j) (k := 16 + 7 * s) (by omega)]
            by_cases e : s = j
            · subst e
              rw [up_at]
              omega
            · rw [up_ne (by omega)]
              omega
          · intro s h1 h2
            rw [up_ne (by omega)]
            exact hG.2.2.2.2.1 s h1 h2
          · intro p hp
            rw [up_ne (by omega)]
            exact hG.2.2.2.2.2.2.2.2.2 p hp
        · unfold fnX11_know_J42
          simp (disch := (first | assumption | omega)) only [t_sai, t_bnd, lk_0_11, forget_T, t_ret]
          exact ⟨(by first | rfl | trivial), sh_fr (μ := (u2 μ.1 (24 + 2) j (nI (kc v)), μ.2)) (fun a h1 h2 => (by simp (disch := omega) only [u2_ne, u2_a, u2_k, u2_at])) (sh_up15 (by omega) hS), fun a ha => (by simp (disch := omega) only [u2_ne, u2_a, u2_k, u2_at]), (by first | rfl | trivial), Or.inl (by simp (disch := omega) only [u2_ne, u2_a, u2_k, u2_at])⟩
        · intro μ1 hW1
          unfold fnX12_know_J34
          simp (disch := (first | assumption | omega)) only [t_bnd, t_ret, li_5, setStone_T, e5]
          refine ⟨(by first | rfl | trivial), wh_up hW1 ?_, fun a ha => (by simp (disch := omega) only [u2_ne, u2_a, u2_k, u2_at]), fun k hk => (by simp (disch := omega) only [u2_ne, u2_a, u2_k, u2_at]), fun _ _ => (by first | rfl | trivial)⟩
          unfold eI
          rw [if_neg (by omega)]
      cases b
      · obtain ⟨f1, f2, f3, f4⟩ := fin 1 (by omega)
        refine ⟨nI 0, _, f1, f2, ?_, ?_⟩
        · simp only [reduceCtorEq, if_true, if_false, eq_self, t_eq (inDoubt_eq hR hS sc_24 hG hj), hd]
          exact f3
        · intro μ1 _ _ hW1
          simp only [t_ret, t_bnd, t_eq (isStone12 hW1 hG _), t_br, bI_0, hh, reduceCtorEq, if_true, if_false, eq_self, t_eq (isInDoubt12 hW1 hG hj), hd]
          exact f4 μ1 hW1
      · obtain ⟨f1, f2, f3, f4⟩ := fin 2 (by omega)
        refine ⟨nI 0, _, f1, f2, ?_, ?_⟩
        · simp only [reduceCtorEq, if_true, if_false, eq_self, t_eq (inDoubt_eq hR hS sc_24 hG hj), hd]
          exact f3
        · intro μ1 _ _ hW1
          simp only [t_ret, t_bnd, t_eq (isStone12 hW1 hG _), t_br, bI_0, hh, reduceCtorEq, if_true, if_false, eq_self, t_eq (isInDoubt12 hW1 hG hj), hd]
          exact f4 μ1 hW1
theorem op_step (p t : Int32) : op2 Inv (fnX11_step 0 p t) (fnX12_step 146 p t) := by
  apply op_two
  intro w μ hC hO
  obtain ⟨hG, hR, hS, hW, hL, hT, hSl, hI, hF⟩ := id hC
  have n := hG.1
  unfold fnX11_step fnX12_step
  simp only [t_bnd, lk_0_5, lk_0_6, lk_0_11, t_eq (isPerson11 hR hG p), t_br, bI_0, t_eq (isPlace7 hR hG t)]
  have no : ∀ r : Int32, ∃ w', w' = w ∧ Same w w' ∧ Good w' := fun r => ⟨w, rfl, same_rf w, hG⟩
  cases hh : rg p 0 ((w 4 : Int) - 1)
  · refine ⟨-2, w, same_rf w, hG, ?_, ?_⟩
    · simp only [reduceCtorEq, if_true, if_false, eq_self, t_ret]
      exact ⟨(by first | rfl | trivial), cp_rf hS⟩
    · intro μ1 _ _ hW1
      simp only [t_ret, t_bnd, t_eq (isPerson12 hW1 hG _), t_br, bI_0, hh, reduceCtorEq, if_true, if_false, eq_self]
      exact ⟨(by first | rfl | trivial), rp_rf hW1⟩
  cases ht : (decide (0 < w 0) && (rg t 0 ((w 3 : Int) - 1) || decide (t = 98 ∨ t = 99)))
  · refine ⟨-2, w, same_rf w, hG, ?_, ?_⟩
    · simp only [reduceCtorEq, if_true, if_false, eq_self, t_ret]
      exact ⟨(by first | rfl | trivial), cp_rf hS⟩
    · intro μ1 _ _ hW1
      simp only [t_ret, t_bnd, t_eq (isPerson12 hW1 hG _), t_br, bI_0, hh, reduceCtorEq, if_true, if_false, eq_self, t_eq (isPlace12 hW1 hG _), ht]
      exact ⟨(by first | rfl | trivial), rp_rf hW1⟩
  obtain ⟨p', hp, rfl⟩ := rg_nI hh (by omega)
  obtain ⟨t', rfl, hpl⟩ := pl_nI hG ht
  have st := takeStep9 hR hS sc_24 hG hp hpl
  cases hw : stepW w p' t' with
  | none =>
    refine ⟨-5, w, same_rf w, hG, ?_, ?_⟩
    · simp only [reduceCtorEq, if_true, if_false, eq_self]
      refine t_mono st ?_
      intro r μ1 hr
      simp only [hw] at hr
      obtain ⟨rfl, rfl⟩ := hr
      simp only [reduceCtorEq, if_true, if_false, eq_self, t_ret]
      exact ⟨(by first | rfl | trivial), cp_rf hS⟩
    · intro μ1 _ _ hW1
      simp only [t_ret, t_bnd, t_eq (isPerson12 hW1 hG _), t_br, bI_0, hh, reduceCtorEq, if_true, if_false, eq_self, t_eq (isPlace12 hW1 hG _), ht]
      refine t_mono (steps12 hW1 hG hp hpl) ?_
      intro r μ2 hr
      simp only [hw] at hr
      obtain ⟨rfl, rfl⟩ := hr
      simp only [reduceCtorEq, if_true, if_false, eq_self]
      exact ⟨(by first | rfl | trivial), rp_rf hW1⟩
  | some w' =>
    obtain ⟨hs, hG'⟩ := same_step hG hp hpl hw
    have h3 := hs.1 3 (by omega)
    have hpl2 := hpl.2
    refine ⟨nI (if 98 ≤ t' then 0 else lf w' t'), w', hs, hG', ?_, ?_⟩
    · simp only [reduceCtorEq, if_true, if_false, eq_self]
      refine t_mono st ?_
      intro r μ1 hr
      simp only [hw] at hr
      obtain ⟨rfl, h1, h2, h4⟩ := hr
      simp (disch := (first | assumption | omega)) only [reduceCtorEq, if_true, if_false, eq_self, t_ret, forget_T, li_24, nI_leI, li_0]
      have hS1 : SH 24 w' (u2 μ1.1 42 8 (mI 1), μ1.2) := sh_fr (μ := μ1) (fun a q1 q2 => (by simp (disch := omega) only [u2_ne, u2_a, u2_k, u2_at])) h1
      have hcp : CP w w' μ (u2 μ1.1 42 8 (mI 1), μ1.2) := ⟨hS1, fun a ha => by rw [← h2 a (by omega) (by omega)]; simp (disch := omega) only [u2_ne, u2_a, u2_k, u2_at], by show μ1.2.1 = _; rw [h4], Or.inl (by simp (disch := omega) only [u2_ne, u2_a, u2_k, u2_at])⟩
      by_cases c : 24 ≤ t'
      · rw [if_pos c, if_pos (by omega)]
        exact ⟨(by first | rfl | trivial), hcp⟩
      · have hR1 : RH 14 w' (u2 μ1.1 42 8 (mI 1), μ1.2) := same_rh hs hG (rh_fr (μ := μ) (fun a q1 q2 => by rw [← h2 a (by omega) (by omega)]; simp (disch := omega) only [u2_ne, u2_a, u2_k, u2_at]) hR)
        rw [if_neg c, t_eq (leftOf_eq hR1 hS1 sc_24 hG' (by omega)), if_neg (by omega)]
        exact ⟨(by first | rfl | trivial), hcp⟩
    · intro μ1 _ _ hW1
      simp only [t_ret, t_bnd, t_eq (isPerson12 hW1 hG _), t_br, bI_0, hh, reduceCtorEq, if_true, if_false, eq_self, t_eq (isPlace12 hW1 hG _), ht]
      refine t_mono (steps12 hW1 hG hp hpl) ?_
      intro r μ2 hr
      simp only [hw] at hr
      obtain ⟨rfl, h1, h2, h4⟩ := hr
      have hrp : RP w' μ1 μ2 := ⟨h1, fun a ha => h2 a (by omega), fun k hk => by rw [h2 146 (by omega)], fun a ha => by rw [h4]⟩
      simp (disch := (first | assumption | omega)) only [reduceCtorEq, if_true, if_false, eq_self, li_98, nI_leI, li_0]
      by_cases c : 98 ≤ t'
      · rw [if_pos c, if_pos c]
        exact ⟨(by first | rfl | trivial), hrp⟩
      · rw [if_neg c, t_eq (left12 h1 hG' (by omega)), if_neg c]
        exact ⟨(by first | rfl | trivial), hrp⟩
