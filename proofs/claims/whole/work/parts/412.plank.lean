/-! ===== A PLANK ===== -/
def pl2 (a b c d : Nat) : Bool := decide ((a = c ∧ b = d) ∨ (a = d ∧ b = c))
def jNear (a b : Nat) (near : Nat → Bool) (s : Nat) : Bool := near s || pl2 a b s 98
def jFar (a b : Nat) (far : Nat → Bool) (s : Nat) : Bool := far s || pl2 a b s 99
def jAdj (a b : Nat) (adj : Nat → Nat → Bool) (s t : Nat) : Bool := adj s t || (decide (s < 25 ∧ t < 25) && pl2 a b s t)
def bnk (a b : Nat) : Prop := (a = 98 ∧ b = 99) ∨ (a = 99 ∧ b = 98)
noncomputable def plkN (w : Nat → Nat) (a b r : Nat) : Nat := mcV (zB (prW w) (fun s => lf w s / 1)) (jNear a b (zNear (prW w) (sy w) r)) (jFar a b (zFar (prW w) (w 1) (sy w) r)) (jAdj a b (zAdj (prW w) (sx w) (sy w) r))
noncomputable def plankW (w : Nat → Nat) (a b r : Nat) : Nat := if w 1 ≤ r ∨ (a = 98 ∧ b = 99) ∨ (a = 99 ∧ b = 98) then 999 else plkN w a b r
theorem jmax_nat {a b : Nat} (ha : a < 2 ^ 30) (hb : b < 2 ^ 30) : jmax (nI a) (nI b) = nI (max a b) := by
  unfold jmax
  by_cases q : a < b
  · rw [if_pos (nI_lt q (by omega)), Nat.max_eq_right (by omega)]
  · rw [if_neg (nI_nlt (by omega) (by omega)), Nat.max_eq_left (by omega)]
theorem jAdj_self {w : Nat → Nat} {a b r : Nat} (hab : a ≠ b) (s : Nat) : jAdj a b (zAdj (prW w) (sx w) (sy w) r) s s = false := by
  unfold jAdj pl2
  rw [zAdj_self, decide_eq_false (p := (a = s ∧ b = s) ∨ _) (by omega), Bool.and_false]
  rfl
theorem join_T {w : Nat → Nat} (hG : Good w) {a b : Nat} (ha : a < w 3 ∨ a = 98 ∨ a = 99) (hb : b < w 3 ∨ b = 98 ∨ b = 99) (hab : a ≠ b) (hnb : ¬ bnk a b) {near far : Nat → Bool} {adj : Nat → Nat → Bool} {bb g : Nat → Nat} {h : Nat → Nat → Nat} {μ : sm_Mem} (N : NtH 77 near far adj bb g h μ) : T (fnX2_join 76 (nI a) (nI b)) μ (fun _ μ' => NtH 77 (jNear a b near) (jFar a b far) (jAdj a b adj) bb g h μ' ∧ FrZ μ μ') := by
  have n := hG.1
  have e_78 : ln 78 = 25 := rfl
  unfold bnk at hnb
  unfold fnX2_join
  rw [t_nm, t_nm, jmin_nat (by omega) (by omega), jmax_nat (by omega) (by omega), lk_76_1, lk_77_5]
  have other : ∀ μ' : sm_Mem, (∀ s, s < 32 → bt (μ'.1 77 0) s = (decide (s < 25) && jNear a b near s)) → (∀ s, s < 32 → bt (μ'.1 77 1) s = (decide (s < 25) && jFar a b far s)) → (∀ s, s < 25 → ∀ t, t < 32 → bt (μ'.1 78 s) t = (decide (t < 25) && jAdj a b adj s t)) → (∀ c, c ≠ 77 → c ≠ 78 → μ'.1 c = μ.1 c) → (∀ k, 2 ≤ k → μ'.1 77 k = μ.1 77 k) → μ'.2 = μ.2 → NtH 77 (jNear a b near) (jFar a b far) (jAdj a b adj) bb g h μ' ∧ FrZ μ μ' := by
    intro μ' q1 q2 q3 q4 q5 q6
    refine ⟨⟨fun s hs => ⟨q1 s hs, q2 s hs⟩, fun s hs => ?_⟩, fun c hc => q4 c (by omega) (by omega), q5, q6⟩
    obtain ⟨n1, n2, n3, n4, n5⟩ := N.2 s hs
    refine ⟨q3 s hs, ?_, ?_, ?_, ?_⟩
    · rw [show μ'.1 (77 + 2) = μ.1 (77 + 2) from q4 79 (by omega) (by omega)]
      exact n2
    · rw [show μ'.1 (77 + 3) = μ.1 (77 + 3) from q4 80 (by omega) (by omega)]
      exact n3
    · rw [show μ'.1 (77 + 4) = μ.1 (77 + 4) from q4 81 (by omega) (by omega)]
      exact n4
    · rw [show μ'.1 (77 + 5) = μ.1 (77 + 5) from q4 82 (by omega) (by omega)]
      exact n5
  have nearU : (∀ s, s < 25 → pl2 a b s 98 = false) → ∀ s, s < 32 → (decide (s < 25) && jNear a b near s) = (decide (s < 25) && near s) := by
    intro hp s hs
    unfold jNear
    by_cases c : s < 25
    · rw [hp s c, Bool.or_false]
    · rw [decide_eq_false c]
      rfl
  have farU : (∀ s, s < 25 → pl2 a b s 99 = false) → ∀ s, s < 32 → (decide (s < 25) && jFar a b far s) = (decide (s < 25) && far s) := by
    intro hp s hs
    unfold jFar
    by_cases c : s < 25
    · rw [hp s c, Bool.or_false]
    · rw [decide_eq_false c]
      rfl
  have adjU : (∀ s t, s < 25 → t < 25 → pl2 a b s t = false) → ∀ s, s < 25 → ∀ t, t < 32 → (decide (t < 25) && jAdj a b adj s t) = (decide (t < 25) && adj s t) := by
    intro hp s hs t ht
    unfold jAdj
    by_cases c : t < 25
    · rw [hp s t hs c, Bool.and_false, Bool.or_false]
    · rw [decide_eq_false c]
      rfl
  by_cases c1 : max a b = 98
  · have hm : min a b < w 3 := by omega
    rw [t_brT (by rw [c1]; rfl), t_gi, t_si, t_ret]
    refine other _ ?_ ?_ ?_ (fun c h1 h2 => (by simp (disch := omega) only [u2_ne, u2_a, u2_k, u2_at])) (fun k hk => (by simp (disch := omega) only [u2_ne, u2_a, u2_k, u2_at])) rfl
    · intro s hs
      rw [show (u2 μ.1 77 0 (μ.1 77 0 ||| ((1 : Int32) <<< (nI (min a b) &&& 31))), μ.2).1 77 0 = μ.1 77 0 ||| ((1 : Int32) <<< (nI (min a b) &&& 31)) from (by simp (disch := omega) only [u2_ne, u2_a, u2_k, u2_at]), b_or, k_1 _ (by omega) s hs, (N.1 s hs).1]
      unfold jNear pl2
      by_cases c : s < 25
      · rw [decide_eq_true c, Bool.true_and, Bool.true_and]
        congr 1
        apply decide_eq_decide.mpr
        omega
      · rw [decide_eq_false c, decide_eq_false (show ¬ s = min a b by omega)]
        rfl
    · intro s hs
      rw [show (u2 μ.1 77 0 (μ.1 77 0 ||| ((1 : Int32) <<< (nI (min a b) &&& 31))), μ.2).1 77 1 = μ.1 77 1 from (by simp (disch := omega) only [u2_ne, u2_a, u2_k, u2_at]), (N.1 s hs).2, farU (fun s hs => by unfold pl2; exact decide_eq_false (by omega)) s hs]
    · intro s hs t ht
      have n1 := (N.2 s hs).1 t ht
      rw [adjU (fun s t hs ht => by unfold pl2; exact decide_eq_false (by omega)) s hs t ht, ← n1]
      congr 1
  · rw [t_brF (show ¬ nI (max a b) = (98 : Int32) from fun z => c1 ((nI_eq (b := 98) (by omega) (by omega)).mp z))]
    by_cases c2 : max a b = 99
    · have hm : min a b < w 3 := by omega
      rw [t_brT (by rw [c2]; rfl), t_gi, t_si, t_ret]
      refine other _ ?_ ?_ ?_ (fun c h1 h2 => (by simp (disch := omega) only [u2_ne, u2_a, u2_k, u2_at])) (fun k hk => (by simp (disch := omega) only [u2_ne, u2_a, u2_k, u2_at])) rfl
      · intro s hs
        rw [show (u2 μ.1 77 1 (μ.1 77 1 ||| ((1 : Int32) <<< (nI (min a b) &&& 31))), μ.2).1 77 0 = μ.1 77 0 from (by simp (disch := omega) only [u2_ne, u2_a, u2_k, u2_at]), (N.1 s hs).1, nearU (fun s hs => by unfold pl2; exact decide_eq_false (by omega)) s hs]
      · intro s hs
        rw [show (u2 μ.1 77 1 (μ.1 77 1 ||| ((1 : Int32) <<< (nI (min a b) &&& 31))), μ.2).1 77 1 = μ.1 77 1 ||| ((1 : Int32) <<< (nI (min a b) &&& 31)) from (by simp (disch := omega) only [u2_ne, u2_a, u2_k, u2_at]), b_or, k_1 _ (by omega) s hs, (N.1 s hs).2]
        unfold jFar pl2
        by_cases c : s < 25
        · rw [decide_eq_true c, Bool.true_and, Bool.true_and]
          congr 1
          apply decide_eq_decide.mpr
          omega
        · rw [decide_eq_false c, decide_eq_false (show ¬ s = min a b by omega)]
          rfl
      · intro s hs t ht
        have n1 := (N.2 s hs).1 t ht
        rw [adjU (fun s t hs ht => by unfold pl2; exact decide_eq_false (by omega)) s hs t ht, ← n1]
        congr 1
    · have hm : min a b < w 3 ∧ max a b < w 3 := by omega
      have x5 : (u2 μ.1 78 (min a b) (μ.1 78 (min a b) ||| ((1 : Int32) <<< (nI (max a b) &&& 31))), μ.2).1 78 (max a b) = μ.1 78 (max a b) := by
        rw [show (u2 μ.1 78 (min a b) (μ.1 78 (min a b) ||| ((1 : Int32) <<< (nI (max a b) &&& 31))), μ.2).1 78 (max a b) = u2 μ.1 78 (min a b) (μ.1 78 (min a b) ||| ((1 : Int32) <<< (nI (max a b) &&& 31))) 78 (max a b) from rfl, u2_k (by omega)]
      rw [t_brF (show ¬ nI (max a b) = (99 : Int32) from fun z => c2 ((nI_eq (b := 99) (by omega) (by omega)).mp z)), t_ai (by omega), t_sai (by omega), t_ai (by omega), t_sai (by omega), x5, t_ret]
      refine other _ ?_ ?_ ?_ (fun c h1 h2 => (by simp (disch := omega) only [u2_ne, u2_a, u2_k, u2_at])) (fun k hk => (by simp (disch := omega) only [u2_ne, u2_a, u2_k, u2_at])) rfl
      · intro s hs
        rw [nearU (fun s hs => by unfold pl2; exact decide_eq_false (by omega)) s hs, ← (N.1 s hs).1]
        congr 1
      · intro s hs
        rw [farU (fun s hs => by unfold pl2; exact decide_eq_false (by omega)) s hs, ← (N.1 s hs).2]
        congr 1
      · intro s hs t ht
        have n1 : bt (μ.1 78 s) t = (decide (t < 25) && adj s t) := (N.2 s hs).1 t ht
        show bt (u2 (u2 μ.1 78 (min a b) (μ.1 78 (min a b) ||| ((1 : Int32) <<< (nI (max a b) &&& 31)))) 78 (max a b) (μ.1 78 (max a b) ||| ((1 : Int32) <<< (nI (min a b) &&& 31))) 78 s) t = _
        unfold jAdj pl2
        by_cases d1 : s = max a b
        · rw [← d1, u2_at, b_or, k_1 _ (by omega) t ht, n1]
          by_cases c : t < 25
          · rw [decide_eq_true c, decide_eq_true (show s < 25 ∧ t < 25 from ⟨hs, c⟩), Bool.true_and, Bool.true_and, Bool.true_and]
            congr 1
            apply decide_eq_decide.mpr
            omega
          · rw [decide_eq_false c, decide_eq_false (show ¬ t = min a b by omega)]
            rfl
        · rw [u2_k d1]
          by_cases d2 : s = min a b
          · rw [← d2, u2_at, b_or, k_1 _ (by omega) t ht, n1]
            by_cases c : t < 25
            · rw [decide_eq_true c, decide_eq_true (show s < 25 ∧ t < 25 from ⟨hs, c⟩), Bool.true_and, Bool.true_and, Bool.true_and]
              congr 1
              apply decide_eq_decide.mpr
              omega
            · rw [decide_eq_false c, decide_eq_false (show ¬ t = max a b by omega)]
              rfl
          · rw [u2_k d2, n1]
            by_cases c : t < 25
            · rw [decide_eq_true c, decide_eq_true (show s < 25 ∧ t < 25 from ⟨hs, c⟩), decide_eq_false (p := (a = s ∧ b = t) ∨ _) (by omega)]
              simp
            · rw [decide_eq_false c]
              rfl
/-- join and fill, over a flow at hand -/
theorem joinfill_T {w : Nat → Nat} (hG : Good w) {a b r : Nat} (ha : a < w 3 ∨ a = 98 ∨ a = 99) (hb : b < w 3 ∨ b = 98 ∨ b = 99) (hab : a ≠ b) (hnb : ¬ bnk a b) {g : Nat → Nat} {h : Nat → Nat → Nat} {src snk : Nat → Nat} {μ : sm_Mem} (F : Fl 25 (zB (prW w) (fun s => lf w s / 1)) (zNear (prW w) (sy w) r) (zFar (prW w) (w 1) (sy w) r) (zAdj (prW w) (sx w) (sy w) r) g src snk h) (N : NtH 77 (zNear (prW w) (sy w) r) (zFar (prW w) (w 1) (sy w) r) (zAdj (prW w) (sx w) (sy w) r) (zB (prW w) (fun s => lf w s / 1)) g h μ) (h2 : μ.1 77 2 = nI (fb_sm src 25)) :
    T (m_bnd (fnX2_join 76 (nI a) (nI b)) fun _ => m_bnd (fnX2_fill 76) fun x97 => m_ret x97) μ (fun z μ' => z = nI (plkN w a b r) ∧ plkN w a b r ≤ 225 ∧ FrC μ μ' ∧ (∀ a, 83 ≤ a → a < 89 → μ'.1 a = μ.1 a) ∧ μ'.1 76 7 = μ.1 76 7) := by
  rw [t_bnd]
  refine t_mono (join_T hG ha hb hab hnb N) ?_
  rintro - μ1 ⟨N1, fz⟩
  have F1 : Fl 25 (zB (prW w) (fun s => lf w s / 1)) (jNear a b (zNear (prW w) (sy w) r)) (jFar a b (zFar (prW w) (w 1) (sy w) r)) (jAdj a b (zAdj (prW w) (sx w) (sy w) r)) g src snk h := by
    intro s hs
    obtain ⟨q1, q2, q3, q4, q5, q6⟩ := F s hs
    refine ⟨q1, q2, q3, fun z => ?_, fun z => ?_, fun t ht z => ?_⟩
    · unfold jNear
      rw [q4 z]
      rfl
    · unfold jFar
      rw [q5 z]
      rfl
    · unfold jAdj
      rw [q6 t ht z]
      rfl
  rw [t_bnd]
  refine t_mono (filC_T (zB_9 hG) (fun s => jAdj_self hab s) F1 N1 (by rw [fz.2.1 2 (by omega)]; exact h2)) ?_
  rintro z μ2 hP
  rw [t_ret]
  obtain ⟨a1, a2, -, a4⟩ := fiP_net (zB_9 hG) hP
  exact ⟨a1, a2, frC_tr (frZ_C fz) (frW_C a4), fun a q1 q2 => by rw [a4.1 a (by omega), fz.1 a (by omega)], by rw [a4.2.1 7 (by omega), fz.1 76 (by omega)]⟩
