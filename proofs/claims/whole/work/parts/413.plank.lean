/-! ===== A PLANK: the reference, the call ===== -/
def ndO (a : Nat) : Nat := if a = 98 then 0 else if a = 99 then 1 else a + 2
theorem nodeOf_eq {a : Nat} (ha : a < 100) (μ : sm_Mem) : fnX12_nodeOf (nI a) μ = some (nI (ndO a), μ) := by
  unfold fnX12_nodeOf ndO
  by_cases c1 : a = 98
  · rw [e_T (by rw [c1]; rfl), if_pos c1]
    rfl
  · rw [e_F (show ¬ nI a = (98 : Int32) from fun z => c1 ((nI_eq (b := 98) (by omega) (by omega)).mp z)), if_neg c1]
    by_cases c2 : a = 99
    · rw [e_T (by rw [c2]; rfl), if_pos c2]
      rfl
    · rw [e_F (show ¬ nI a = (99 : Int32) from fun z => c2 ((nI_eq (b := 99) (by omega) (by omega)).mp z)), if_neg c2, li_2, nI_add, Nat.add_comm]
      rfl
theorem pk_pl {a b c d : Nat} (ha : a < 100) (hb : b < 100) (hc : c < 100) (hd : d < 100) : pkB (some (ndO a, ndO b)) (ndO c) (ndO d) = pl2 a b c d := by
  show decide ((ndO a = ndO c ∧ ndO b = ndO d) ∨ (ndO a = ndO d ∧ ndO b = ndO c)) = decide ((a = c ∧ b = d) ∨ (a = d ∧ b = c))
  have inj : ∀ x y, x < 100 → y < 100 → (ndO x = ndO y ↔ x = y) := by
    intro x y hx hy
    unfold ndO
    constructor
    · intro h
      split at h <;> split at h <;> (try split at h) <;> (try split at h) <;> omega
    · intro h
      rw [h]
  apply decide_eq_decide.mpr
  rw [inj a c ha hc, inj b d hb hd, inj a d ha hd, inj b c hb hc]
theorem minC_idP {w : Nat → Nat} (hG : Good w) {a b : Nat} (ha : a < w 3 ∨ a = 98 ∨ a = 99) (hb : b < w 3 ∨ b = 98 ∨ b = 99) {gx gy bb : Nat → Nat} {W r v : Nat} {E L : Nat → Bool} (H : MinC (w 3) bb (pNear (some (ndO a, ndO b)) gy r) (pFar (some (ndO a, ndO b)) W gy r) (pAdj (some (ndO a, ndO b)) gx gy r) v E L) (hab : a ≠ b) : MinC 25 (zB (prW w) bb) (jNear a b (zNear (prW w) gy r)) (jFar a b (zFar (prW w) W gy r)) (jAdj a b (zAdj (prW w) gx gy r)) v (fun s => prW w s && E s) (fun s => prW w s && L s) := by
  have n := hG.1
  have n0 : ndO 98 = 0 := rfl
  have n1 : ndO 99 = 1 := rfl
  have ns : ∀ s, s < 98 → ndO s = s + 2 := fun s hs => by unfold ndO; rw [if_neg (by omega), if_neg (by omega)]
  refine minC_map (ρ := fun s => s) (inv := fun s => s) (pr := prW w) (m := w 3) (fun k hk => ⟨by omega, decide_eq_true hk, rfl⟩) (fun s _ hp => ⟨of_decide_eq_true hp, rfl⟩) ?_ ?_ ?_ ?_
  · intro F hF
    exact sm_tail (by omega) (fun k q1 q2 => hF k q2 (decide_eq_false (by omega)))
  · intro s hs hp
    have hp' : ¬ s < w 3 := of_decide_eq_false hp
    unfold zB jNear zNear pl2
    rw [hp, decide_eq_false (p := (a = s ∧ b = 98) ∨ _) (by omega)]
    exact ⟨rfl, rfl⟩
  · intro s t hst
    unfold jAdj zAdj pl2 at hst
    simp only [Bool.or_eq_true, Bool.and_eq_true, decide_eq_true_eq] at hst
    rcases hst with q | q
    · exact q.1.2
    · unfold prW
      apply decide_eq_true
      omega
  · refine minC_cong ?_ ?_ H
    · intro s hs
      show bb s = (if prW w s = true then bb s else 0)
      rw [if_pos (show prW w s = true from decide_eq_true hs)]
    · intro s hs
      have ps : prW w s = true := decide_eq_true hs
      refine ⟨?_, ?_, fun t ht => ?_⟩
      · show (pkB (some (ndO a, ndO b)) 0 (s + 2) || gNear gy r s) = ((prW w s && gNear gy r s) || pl2 a b s 98)
        have e := pk_pl (a := a) (b := b) (c := 98) (d := s) (by omega) (by omega) (by omega) (by omega)
        rw [n0, ns s (by omega)] at e
        rw [e, ps, Bool.true_and, Bool.or_comm]
        congr 1
        unfold pl2
        apply decide_eq_decide.mpr
        omega
      · show (pkB (some (ndO a, ndO b)) (s + 2) 1 || gFar W gy r s) = ((prW w s && gFar W gy r s) || pl2 a b s 99)
        have e := pk_pl (a := a) (b := b) (c := s) (d := 99) (by omega) (by omega) (by omega) (by omega)
        rw [n1, ns s (by omega)] at e
        rw [e, ps, Bool.true_and, Bool.or_comm]
      · have pt : prW w t = true := decide_eq_true ht
        show (decide (s ≠ t) && (pkB (some (ndO a, ndO b)) (s + 2) (t + 2) || gAdj gx gy r s t)) = (((prW w s && prW w t) && gAdj gx gy r s t) || (decide (s < 25 ∧ t < 25) && pl2 a b s t))
        have e := pk_pl (a := a) (b := b) (c := s) (d := t) (by omega) (by omega) (by omega) (by omega)
        rw [ns s (by omega), ns t (by omega)] at e
        rw [e, ps, pt, Bool.true_and, Bool.true_and, decide_eq_true (show s < 25 ∧ t < 25 by omega), Bool.true_and]
        by_cases c : s = t
        · subst c
          unfold gAdj pl2
          rw [decide_eq_false (fun z => z rfl), decide_eq_false (p := s ≠ s ∧ _) (fun z => z.1 rfl), decide_eq_false (p := (a = s ∧ b = s) ∨ _) (by omega)]
          rfl
        · rw [decide_eq_true c, Bool.true_and, Bool.or_comm]
theorem plankOf12_T {w : Nat → Nat} (hG : Good w) {a b r : Nat} (ha : a < w 3 ∨ a = 98 ∨ a = 99) (hb : b < w 3 ∨ b = 98 ∨ b = 99) (hab : a ≠ b) (h9 : r ≤ 9) {μ : sm_Mem} (hW : WH 147 w μ) (h39 : μ.1 146 39 = mI 1) (h40 : μ.1 146 40 = mI 1) : T (fnX12_plankOf 146 (nI a) (nI b) (nI r)) μ (fun z μ' => z = (if sq w a b ≤ w 6 * w 6 then nI (plankW w a b r) else -5) ∧ (¬ w 1 ≤ r → ¬ bnk a b → ∃ E L, MinC 25 (zB (prW w) (fun s => lf w s / 1)) (jNear a b (zNear (prW w) (sy w) r)) (jFar a b (zFar (prW w) (w 1) (sy w) r)) (jAdj a b (zAdj (prW w) (sx w) (sy w) r)) (plkN w a b r) E L ∨ ¬ sq w a b ≤ w 6 * w 6) ∧ FrN μ μ') := by
  have n := hG.1
  have gw := good_wide hG
  obtain ⟨w12, hgx, hgy⟩ := geo hG
  have e_147 : ln 147 = 241 := rfl
  have w6 := wh_lo hW (i := 6) (by omega)
  have s1 := sq_le hG ha hb
  have pp : w 6 * w 6 ≤ 9 * 9 := Nat.mul_le_mul n.2.2.2.1 n.2.2.2.1
  unfold fnX12_plankOf
  rw [lk_146_1, li_6, t_bnd, t_eq (squares12 hW hG ha hb), t_ai (by omega), t_ai (by omega), w6, pk_mul]
  by_cases c : sq w a b ≤ w 6 * w 6
  · rw [t_brT (nI_le c (by omega)), if_pos c, li_1, t_bnd]
    refine t_mono (fillNodes_T hG (by omega) (by omega) hW) ?_
    rintro - μ1 ⟨N1, f1⟩
    rw [t_bnd, t_eq (nodeOf_eq (by omega) μ1), t_si, t_bnd, t_eq (nodeOf_eq (by omega) _), t_si, t_bnd]
    have N2 : NdH (w 3 + 2) (ndx (sx w)) (ndy (w 1) (sy w)) (ndh (fun s => if s < w 3 then lf w s / 1 else 0)) (u2 (u2 μ1.1 146 39 (nI (ndO a))) 146 40 (nI (ndO b)), μ1.2) := by
      refine ⟨by rw [← N1.1]; simp (disch := omega) only [u2_ne, u2_a, u2_k, u2_at], fun k q1 q2 => by rw [← N1.2.1 k q1 q2]; simp (disch := omega) only [u2_ne, u2_a, u2_k, u2_at], fun k q => by rw [← N1.2.2.1 k q]; simp (disch := omega) only [u2_ne, u2_a, u2_k, u2_at], fun k q => ?_⟩
      have := N1.2.2.2 k q
      unfold ndh at this ⊢
      by_cases c2 : k < 2
      · rw [if_pos c2] at this ⊢
        rw [← this]
        simp (disch := omega) only [u2_ne, u2_a, u2_k, u2_at]
      · rw [if_neg c2] at this ⊢
        show _ = nI (if k - 2 < w 3 then lf w (k - 2) / 1 else 0)
        rw [if_pos (by omega), ← this]
        simp (disch := omega) only [u2_ne, u2_a, u2_k, u2_at]
    have nda : ndO a < 100 ∧ ndO b < 100 := by
      unfold ndO
      constructor
      · split
        · omega
        · split <;> omega
      · split
        · omega
        · split <;> omega
    have pk : PkH (some (ndO a, ndO b)) (u2 (u2 μ1.1 146 39 (nI (ndO a))) 146 40 (nI (ndO b)), μ1.2) := ⟨(by simp (disch := omega) only [u2_ne, u2_a, u2_k, u2_at]), (by simp (disch := omega) only [u2_ne, u2_a, u2_k, u2_at]), nda.1, nda.2⟩
    have b9 : ∀ s, (fun s => if s < w 3 then lf w s / 1 else 0) s ≤ 9 := by
      intro s
      show (if s < w 3 then lf w s / 1 else 0) ≤ 9
      split
      · rename_i q
        have := lf_le hG q
        rw [Nat.div_one]
        omega
      · omega
    have bk : pkB (some (ndO a, ndO b)) 0 1 = true ↔ bnk a b := by
      have e := pk_pl (a := a) (b := b) (c := 98) (d := 99) (by omega) (by omega) (by omega) (by omega)
      rw [show ndO 98 = 0 from rfl, show ndO 99 = 1 from rfl] at e
      rw [e]
      unfold pl2 bnk
      rw [decide_eq_true_eq]
    have fin : ∀ (z : Nat) (μ2 : sm_Mem), FrR (u2 (u2 μ1.1 146 39 (nI (ndO a))) 146 40 (nI (ndO b)), μ1.2) μ2 → FrN μ (u2 (u2 μ2.1 146 39 (-1)) 146 40 (-1), μ2.2) := by
      intro z μ2 fr
      refine frN_tr f1 ⟨fun c q1 q2 => ?_, fun k hk => ?_, ?_⟩
      · rw [show (u2 (u2 μ2.1 146 39 (-1)) 146 40 (-1), μ2.2).1 c = μ2.1 c from (by simp (disch := omega) only [u2_ne, u2_a, u2_k, u2_at]), fr.1 c (by omega) (by omega) (by omega)]
        simp (disch := omega) only [u2_ne, u2_a, u2_k, u2_at]
      · by_cases k1 : k = 39
        · subst k1
          rw [f1.2.1 39 (by omega), h39]
          show u2 (u2 μ2.1 146 39 (-1)) 146 40 (-1) 146 39 = mI 1
          rw [u2_k (by omega), u2_at]
          rfl
        · by_cases k2 : k = 40
          · subst k2
            rw [f1.2.1 40 (by omega), h40]
            show u2 (u2 μ2.1 146 39 (-1)) 146 40 (-1) 146 40 = mI 1
            rw [u2_at]
            rfl
          · rw [show (u2 (u2 μ2.1 146 39 (-1)) 146 40 (-1), μ2.2).1 146 k = μ2.1 146 k from (by simp (disch := omega) only [u2_ne, u2_a, u2_k, u2_at]), fr.1 146 (by omega) (by omega) (by omega)]
            simp (disch := omega) only [u2_ne, u2_a, u2_k, u2_at]
      · exact fr.2
    by_cases c1 : w 1 ≤ r ∨ bnk a b
    · have e99 := flowN_999 (n := w 3) (W := w 1) (b := fun s => if s < w 3 then lf w s / 1 else 0) (by omega) h9 w12 hgx hgy (show pkB (some (ndO a, ndO b)) 0 1 = true ∨ w 1 ≤ r from c1.elim Or.inr (fun q => Or.inl (bk.mpr q))) N2 pk
      rw [t_eq e99, t_si, t_si, t_ret]
      refine ⟨?_, fun q1 q2 => absurd c1 (fun z => z.elim q1 q2), fin 0 _ ⟨fun _ _ _ _ => rfl, rfl⟩⟩
      unfold plankW
      rw [if_pos (show w 1 ≤ r ∨ (a = 98 ∧ b = 99) ∨ (a = 99 ∧ b = 98) from c1)]
    · have h01 : pkB (some (ndO a, ndO b)) 0 1 = false := by
        cases q : pkB (some (ndO a, ndO b)) 0 1
        · rfl
        · exact absurd (Or.inr (bk.mp q)) c1
      refine t_mono (flowN_T (n := w 3) (by omega) h9 w12 hgx hgy b9 h01 (show r < w 1 by omega) N2 pk) ?_
      rintro z μ2 ⟨v, S, e1, e2, e3, e4, e5⟩
      rw [t_si, t_si, t_ret]
      have m25 := minC_cong (b' := zB (prW w) (fun s => lf w s / 1)) (by
        intro s hs
        unfold zB prW
        show (if decide (s < w 3) = true then (if s < w 3 then lf w s / 1 else 0) else 0) = (if decide (s < w 3) = true then lf w s / 1 else 0)
        by_cases q : s < w 3
        · rw [if_pos q]
        · rw [decide_eq_false q, if_neg (by decide), if_neg (by decide)]) (fun s hs => ⟨rfl, rfl, fun t ht => rfl⟩) (minC_idP hG ha hb e3 hab)
      have ev : plkN w a b r = v := mcV_eq m25
      refine ⟨?_, fun _ _ => ⟨_, _, Or.inl (by rw [ev]; exact m25)⟩, fin 0 _ e5⟩
      unfold plankW
      rw [if_neg (show ¬ (w 1 ≤ r ∨ (a = 98 ∧ b = 99) ∨ (a = 99 ∧ b = 98)) from c1), ev]
      exact e1
  · rw [t_brF (nI_ge (by omega) (by omega)), if_neg c, t_ret]
    exact ⟨rfl, fun _ _ => ⟨fun _ => false, fun _ => false, Or.inr c⟩, frN_rf μ⟩
theorem op_plank (va vb vr : Int32) : op2 Inv (fnX11_plank 0 va vb vr) (fnX12_plank 146 va vb vr) := by
  apply op_two
  intro w μ hC hO
  obtain ⟨hG, hR, hS, hW, hL, hT, hSl, hI', hF⟩ := id hC
  have n := hG.1
  have gw := good_wide hG
  unfold fnX11_plank fnX12_plank
  rw [lk_0_5, lk_0_6, lk_0_13]
  cases hA : (decide (0 < w 0) && (rg va 0 ((w 3 : Int) - 1) || decide (va = 98 ∨ va = 99)))
  · refine ⟨-2, w, same_rf w, hG, ?_, ?_⟩
    · rw [t_bnd, t_eq (isPlace7 hR hG _), hA, t_brT (by decide), t_ret]
      exact ⟨rfl, cp_rf hS⟩
    · intro μ1 _ _ hW1
      rw [t_bnd, t_eq (isPlace12 hW1 hG _), hA, t_brT (by decide), t_ret]
      exact ⟨rfl, rp_rf hW1⟩
  cases hB : (decide (0 < w 0) && (rg vb 0 ((w 3 : Int) - 1) || decide (vb = 98 ∨ vb = 99)))
  · refine ⟨-2, w, same_rf w, hG, ?_, ?_⟩
    · rw [t_bnd, t_eq (isPlace7 hR hG _), hA, t_brF (by decide), t_bnd, t_eq (isPlace7 hR hG _), hB, t_brT (by decide), t_ret]
      exact ⟨rfl, cp_rf hS⟩
    · intro μ1 _ _ hW1
      rw [t_bnd, t_eq (isPlace12 hW1 hG _), hA, t_brF (by decide), t_bnd, t_eq (isPlace12 hW1 hG _), hB, t_brT (by decide), t_ret]
      exact ⟨rfl, rp_rf hW1⟩
  by_cases hvv : va = vb
  · refine ⟨-2, w, same_rf w, hG, ?_, ?_⟩
    · rw [t_bnd, t_eq (isPlace7 hR hG _), hA, t_brF (by decide), t_bnd, t_eq (isPlace7 hR hG _), hB, t_brF (by decide), t_brT hvv, t_ret]
      exact ⟨rfl, cp_rf hS⟩
    · intro μ1 _ _ hW1
      rw [t_bnd, t_eq (isPlace12 hW1 hG _), hA, t_brF (by decide), t_bnd, t_eq (isPlace12 hW1 hG _), hB, t_brF (by decide), t_brT hvv, t_ret]
      exact ⟨rfl, rp_rf hW1⟩
  have hA' := hA
  have hB' := hB
  obtain ⟨a, rfl, ha0, ha⟩ := pl_nI hG hA
  obtain ⟨b, rfl, -, hb⟩ := pl_nI hG hB
  have hab : a ≠ b := fun z => hvv (by rw [z])
  have q0 : decide (0 < w 0) = true := decide_eq_true ha0
  cases qr : rg vr 1 9
  · refine ⟨-2, w, same_rf w, hG, ?_, ?_⟩
    · rw [t_bnd, t_eq (isPlace7 hR hG _), hA', t_brF (by decide), t_bnd, t_eq (isPlace7 hR hG _), hB', t_brF (by decide), t_brF hvv, t_bnd, t_eq (isStride11 hR hG _), q0, qr, t_brT (by decide), t_ret]
      exact ⟨rfl, cp_rf hS⟩
    · intro μ1 _ _ hW1
      rw [t_bnd, t_eq (isPlace12 hW1 hG _), hA', t_brF (by decide), t_bnd, t_eq (isPlace12 hW1 hG _), hB', t_brF (by decide), t_brF hvv, t_bnd, t_eq (isStride12 _ _), qr, t_brT (by decide), t_ret]
      exact ⟨rfl, rp_rf hW1⟩
  obtain ⟨r, r1, r2, rfl⟩ := rg_nat (a := 1) (b := 9) qr (by omega)
  have ref : ∀ μ1 : sm_Mem, (∀ a, 146 ≤ a → μ1.1 a = μ.1 a) → WH 147 w μ1 → ∀ x : Int32, x = (if sq w a b ≤ w 6 * w 6 then nI (plankW w a b r) else -5) → T (m_bnd (fnX12_isPlace 146 (nI a)) fun x2 => m_br ((bI x2) = 0) (m_ret (-2 : Int32)) (m_bnd (fnX12_isPlace 146 (nI b)) fun x10 => m_br ((bI x10) = 0) (m_ret (-2 : Int32)) (m_br (nI a = nI b) (m_ret (-2 : Int32)) (m_bnd (fnX12_isStride (nI r)) fun x22 => m_br ((bI x22) = 0) (m_ret (-2 : Int32)) (m_bnd (fnX12_plankOf 146 (nI a) (nI b) (nI r)) fun x32 => m_ret x32))))) μ1 (fun r2 μ2 => r2 = x ∧ RP w μ1 μ2) := by
    intro μ1 h1 hW1 x hx
    have h39 : μ1.1 146 39 = mI 1 := by rw [h1 146 (by omega)]; exact hF.2.1
    have h40 : μ1.1 146 40 = mI 1 := by rw [h1 146 (by omega)]; exact hF.2.2
    rw [t_bnd, t_eq (isPlace12 hW1 hG _), hA', t_brF (by decide), t_bnd, t_eq (isPlace12 hW1 hG _), hB', t_brF (by decide), t_brF hvv, t_bnd, t_eq (isStride12 _ _), qr, t_brF (by decide), t_bnd]
    refine t_mono (plankOf12_T hG ha hb hab r2 hW1 h39 h40) ?_
    rintro z μ2 ⟨e1, -, e3⟩
    rw [t_ret]
    exact ⟨by rw [e1, hx], rp_fl hW1 e3⟩
  have r6 := hR.1.2.2.2.1
  have jn : stp w a b (w 6) = decide (sq w a b ≤ w 6 * w 6) := by
    unfold stp
    apply decide_eq_decide.mpr
    exact ⟨fun z => z.2, fun z => ⟨hab, z⟩⟩
  by_cases c : sq w a b ≤ w 6 * w 6
  · by_cases c1 : w 1 ≤ r ∨ bnk a b
    · have e9 : plankW w a b r = 999 := by
        unfold plankW
        rw [if_pos (show w 1 ≤ r ∨ (a = 98 ∧ b = 99) ∨ (a = 99 ∧ b = 98) from c1)]
      refine ⟨999, w, same_rf w, hG, ?_, fun μ1 h1 _ hW1 => ref μ1 h1 hW1 999 (by rw [if_pos c, e9]; rfl)⟩
      rw [t_bnd, t_eq (isPlace7 hR hG _), hA', t_brF (by decide), t_bnd, t_eq (isPlace7 hR hG _), hB', t_brF (by decide), t_brF hvv, t_bnd, t_eq (isStride11 hR hG _), q0, qr, t_brF (by decide), t_gi, r6, t_bnd, t_eq (joins7 hR hG ha hb (by omega)), jn, decide_eq_true c, t_brF (by decide), t_gi, hR.1.2.1]
      by_cases c2 : w 1 ≤ r
      · rw [t_brT (nI_le c2 (by omega)), t_ret]
        exact ⟨rfl, cp_rf hS⟩
      · have hb' := c1.resolve_left c2
        unfold bnk at hb'
        rw [t_brF (nI_ge (by omega) (by omega)), jmin_nat (by omega) (by omega), t_brT (by rw [show min a b = 98 by omega]; rfl), t_ret]
        exact ⟨rfl, cp_rf hS⟩
    · have en : plankW w a b r = plkN w a b r := by
        unfold plankW
        rw [if_neg (show ¬ (w 1 ≤ r ∨ (a = 98 ∧ b = 99) ∨ (a = 99 ∧ b = 98)) from c1)]
      refine ⟨nI (plkN w a b r), w, same_rf w, hG, ?_, fun μ1 h1 _ hW1 => ref μ1 h1 hW1 _ (by rw [if_pos c, en])⟩
      have hnb : ¬ bnk a b := fun z => c1 (Or.inr z)
      have hmin : ¬ min a b = 98 := by
        unfold bnk at hnb
        omega
      rw [t_bnd, t_eq (isPlace7 hR hG _), hA', t_brF (by decide), t_bnd, t_eq (isPlace7 hR hG _), hB', t_brF (by decide), t_brF hvv, t_bnd, t_eq (isStride11 hR hG _), q0, qr, t_brF (by decide), t_gi, r6, t_bnd, t_eq (joins7 hR hG ha hb (by omega)), jn, decide_eq_true c, t_brF (by decide), t_gi, hR.1.2.1, t_brF (nI_ge (by omega) (by omega)), jmin_nat (by omega) (by omega), t_brF (show ¬ nI (min a b) = (98 : Int32) from fun z => hmin ((nI_eq (b := 98) (by omega) (by omega)).mp z)), li_1, t_bnd]
      refine t_mono (layC_T sc_24 hG r1 r2 (show 1 ≤ 1 by omega) (show 1 < 100 by omega) hR hS hL) ?_
      rintro - μ1 ⟨N, m2, m7, fy⟩
      refine t_mono (joinfill_T hG ha hb hab hnb (fl_zero _ _ _ _) N (by rw [m2, sm_0])) ?_
      rintro z μ2 ⟨e1, -, e3, -, -⟩
      exact ⟨e1, cp_fl hS (frC_tr (frY_C fy) e3)⟩
  · refine ⟨-5, w, same_rf w, hG, ?_, fun μ1 h1 _ hW1 => ref μ1 h1 hW1 (-5) (by rw [if_neg c])⟩
    rw [t_bnd, t_eq (isPlace7 hR hG _), hA', t_brF (by decide), t_bnd, t_eq (isPlace7 hR hG _), hB', t_brF (by decide), t_brF hvv, t_bnd, t_eq (isStride11 hR hG _), q0, qr, t_brF (by decide), t_gi, r6, t_bnd, t_eq (joins7 hR hG ha hb (by omega)), jn, decide_eq_false c, t_brT (by decide), t_ret]
    exact ⟨rfl, cp_rf hS⟩
