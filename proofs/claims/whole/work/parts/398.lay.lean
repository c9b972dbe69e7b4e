/-! ===== THE COMPONENT LAYS, LIFTS, PUTS ===== -/
theorem fl_zero (b : Nat → Nat) (near far : Nat → Bool) (adj : Nat → Nat → Bool) : Fl 25 b near far adj (fun _ => 0) (fun _ => 0) (fun _ => 0) (fun _ _ => 0) := by
  intro s _
  refine ⟨Nat.zero_le _, ?_, ?_, fun z => absurd z (Nat.lt_irrefl 0), fun z => absurd z (Nat.lt_irrefl 0), fun t _ z => absurd z (Nat.lt_irrefl 0)⟩
  · show 0 + fb_sm (fun _ => 0) 25 = 0
    rw [sm_0]
  · show 0 + fb_sm (fun _ => 0) 25 = 0
    rw [sm_0]
theorem layC_T {c : Nat} (hc : isSc c) {w : Nat → Nat} (hG : Good w) {r wt : Nat} (h1 : 1 ≤ r) (h9 : r ≤ 9) (hw : 1 ≤ wt) (hw2 : wt < 100) {μ : sm_Mem} (hR : RH 14 w μ) (hS : SH c w μ) (hL : LKS w μ) : T (fnX2_lay 76 c (nI r) (nI wt)) μ (fun _ μ' => NtH 77 (zNear (prW w) (sy w) r) (zFar (prW w) (w 1) (sy w) r) (zAdj (prW w) (sx w) (sy w) r) (zB (prW w) (fun s => lf w s / wt)) (fun _ => 0) (fun _ _ => 0) μ' ∧ μ'.1 77 2 = nI 0 ∧ μ'.1 76 7 = nI r ∧ FrY μ μ') := by
  have n := hG.1
  have e_33 : ln 33 = 10 := rfl
  have e_34 : ln 34 = 10 := rfl
  have hcc : (c + 4 ≤ 76 ∨ 83 ≤ c) := by
    unfold isSc at hc
    simp only [List.mem_cons, List.not_mem_nil, or_false] at hc
    omega
  obtain ⟨lk1, lk2⟩ := lks_near hG hL h1 h9
  unfold fnX2_lay fnX4_empty
  rw [t_si, lk_76_1, lk_76_0, lk_32_0, lk_32_1, lk_77_5, lk_77_6, lk_77_7, lk_77_8, lk_77_9, t_bnd, t_si, t_si, t_si, t_bnd]
  refine fill_T (n := 25) rfl ?_
  intro μ1 a1 a2 a3
  rw [t_bnd]
  refine fill_T (n := 625) rfl ?_
  intro μ2 b1 b2 b3
  rw [t_bnd]
  refine fill_T (n := 25) rfl ?_
  intro μ3 c1 c2 c3
  have m3 : ∀ a, a ≠ 76 → a ≠ 77 → a ≠ 80 → a ≠ 81 → a ≠ 82 → μ3.1 a = μ.1 a := by
    intro a q1 q2 q3 q4 q5
    rw [c2 a q5, b2 a q4, a2 a q3]
    simp (disch := omega) only [u2_ne, u2_a, u2_k, u2_at]
  have m3b : ∀ k, μ3.1 76 k = u2 μ.1 76 7 (nI r) 76 k := by
    intro k
    rw [c2 76 (by omega), b2 76 (by omega), a2 76 (by omega)]
    simp (disch := omega) only [u2_ne, u2_a, u2_k, u2_at]
  have m3c : μ3.1 77 2 = 0 := by
    rw [c2 77 (by omega), b2 77 (by omega), a2 77 (by omega)]
    simp (disch := omega) only [u2_ne, u2_a, u2_k, u2_at]
  have m32 : μ3.2 = μ.2 := by rw [c3, b3, a3]
  have x7 : μ3.1 76 7 = nI r := by rw [m3b 7]; simp (disch := omega) only [u2_ne, u2_a, u2_k, u2_at]
  rw [t_ret, t_gi, x7, t_ai (by omega), m3 33 (by omega) (by omega) (by omega) (by omega) (by omega), t_si, t_gi]
  rw [show (u2 μ3.1 77 0 (μ.1 33 r), μ3.2).1 76 7 = nI r from by rw [← x7]; simp (disch := omega) only [u2_ne, u2_a, u2_k, u2_at]]
  rw [t_ai (by omega)]
  rw [show (u2 μ3.1 77 0 (μ.1 33 r), μ3.2).1 34 r = μ.1 34 r from by rw [← m3 34 (by omega) (by omega) (by omega) (by omega) (by omega)]; simp (disch := omega) only [u2_ne, u2_a, u2_k, u2_at]]
  rw [t_si, t_bnd]
  refine fill_T (n := 25) rfl ?_
  intro μ4 d1 d2 d3
  rw [t_bnd]
  refine fill_T (n := 25) rfl ?_
  intro μ5 f1 f2 f3
  have m5 : ∀ a, (a < 76 ∨ 83 ≤ a) → μ5.1 a = μ.1 a := by
    intro a q
    rw [f2 a (by omega), d2 a (by omega), ← m3 a (by omega) (by omega) (by omega) (by omega) (by omega)]
    simp (disch := omega) only [u2_ne, u2_a, u2_k, u2_at]
  have m5b : ∀ k, μ5.1 76 k = μ3.1 76 k := by
    intro k
    rw [f2 76 (by omega), d2 76 (by omega)]
    simp (disch := omega) only [u2_ne, u2_a, u2_k, u2_at]
  have m5c : μ5.1 77 0 = μ.1 33 r ∧ μ5.1 77 1 = μ.1 34 r ∧ μ5.1 77 2 = 0 := by
    rw [f2 77 (by omega), d2 77 (by omega)]
    refine ⟨(by simp (disch := omega) only [u2_ne, u2_a, u2_k, u2_at]), (by simp (disch := omega) only [u2_ne, u2_a, u2_k, u2_at]), ?_⟩
    rw [← m3c]
    simp (disch := omega) only [u2_ne, u2_a, u2_k, u2_at]
  have m5d : ∀ k, k < 25 → μ5.1 80 k = 0 ∧ μ5.1 82 k = 0 := by
    intro k hk
    rw [f2 80 (by omega), f2 82 (by omega), d2 80 (by omega), d2 82 (by omega)]
    refine ⟨?_, ?_⟩
    · rw [← a1 k hk, ← b2 80 (by omega), ← c2 80 (by omega)]
      simp (disch := omega) only [u2_ne, u2_a, u2_k, u2_at]
    · rw [← c1 k hk]
      simp (disch := omega) only [u2_ne, u2_a, u2_k, u2_at]
  have m5e : ∀ k, k < 625 → μ5.1 81 k = 0 := by
    intro k hk
    rw [f2 81 (by omega), d2 81 (by omega), ← b1 k hk, ← c2 81 (by omega)]
    simp (disch := omega) only [u2_ne, u2_a, u2_k, u2_at]
  have m52 : μ5.2 = μ.2 := by rw [f3, d3]; exact m32
  refine t_mono (lay75 hc hG h1 h9 hw hw2 (μ0 := μ5) (rh_fr (fun a q1 q2 => m5 a (by omega)) hR) (sh_fr (fun a q1 q2 => m5 a (by omega)) hS) (lks_fr (fun a q1 q2 => m5 a (by omega)) hL) (by rw [m5b 7]; exact x7) 4096 0 μ5 (by omega) (by omega) (fun _ _ _ => rfl) rfl ?_) ?_
  · intro k hk
    exact ⟨fun z => by omega, fun _ => ⟨by rw [f2 78 (by omega)]; exact d1 k hk, f1 k hk⟩⟩
  · rintro - μ6 ⟨g1, g2, g3⟩
    refine ⟨⟨?_, ?_⟩, ?_, ?_, ?_, ?_, ?_⟩
    · intro s hs
      rw [g1 77 (by omega) (by omega), m5c.1, m5c.2.1]
      exact lk1 s hs
    · intro s hs
      obtain ⟨q1, q2⟩ := g3 s hs
      refine ⟨?_, ?_, ?_, ?_, ?_⟩
      · intro t ht
        by_cases cs : s < w 3
        · rw [show μ6.1 (77 + 1) s = _ from (q1 cs).1, m5 35 (by omega)]
          exact lk2 s (by omega) t ht
        · rw [show μ6.1 (77 + 1) s = _ from (q2 (by omega)).1, b_0]
          unfold zAdj prW
          rw [decide_eq_false cs]
          simp
      · unfold zB prW
        by_cases cs : s < w 3
        · rw [decide_eq_true cs, if_pos rfl]
          exact (q1 cs).2
        · rw [decide_eq_false cs, if_neg (by decide)]
          exact (q2 (by omega)).2
      · rw [show μ6.1 (77 + 3) = _ from g1 80 (by omega) (by omega)]
        exact (m5d s hs).1
      · intro t ht
        rw [show μ6.1 (77 + 4) = _ from g1 81 (by omega) (by omega)]
        exact m5e _ (by omega)
      · intro t ht
        rw [show μ6.1 (77 + 5) = _ from g1 82 (by omega) (by omega), (m5d s hs).2, b_0]
        simp
    · rw [g1 77 (by omega) (by omega)]
      exact m5c.2.2
    · rw [g1 76 (by omega) (by omega), m5b 7]
      exact x7
    · intro a ha
      rw [g1 a (by omega) (by omega), m5 a ha]
    · intro k hk
      rw [g1 76 (by omega) (by omega), m5b k, m3b k]
      simp (disch := omega) only [u2_ne, u2_a, u2_k, u2_at]
    · rw [g2, m52]
/-! lifting -/
theorem lift34 {m : Int32} {s0 : Nat} {Q : Unit → sm_Mem → Prop} {μ0 : sm_Mem} (ex : ∀ μ', (∀ k, k < 25 → μ'.1 78 k = μ0.1 78 k &&& m) → (∀ a, a ≠ 78 → μ'.1 a = μ0.1 a) → μ'.2 = μ0.2 → T (fnX2_lift_J59 76 (nI s0)) μ' Q) : ∀ (f j : Nat) (μ : sm_Mem), 25 - j < f → j ≤ 25 → (∀ k, k < 25 → μ.1 78 k = if k < j then μ0.1 78 k &&& m else μ0.1 78 k) → (∀ a, a ≠ 78 → μ.1 a = μ0.1 a) → μ.2 = μ0.2 → T (fnX2_lift_L34 f 76 (nI s0) m (nI j)) μ Q := by
  have e_78 : ln 78 = 25 := rfl
  intro f
  induction f with
  | zero =>
    intro j μ h
    omega
  | succ f ih =>
    intro j μ hf hj hk ho h2
    unfold fnX2_lift_L34
    by_cases c : 25 ≤ j
    · rw [t_brT (show (25 : Int32) ≤ nI j from nI_le (a := 25) c (by omega))]
      exact ex μ (fun k hk' => by rw [hk k hk', if_pos (by omega)]) ho h2
    · have x := hk j (by omega)
      rw [if_neg (by omega)] at x
      rw [t_brF (show ¬ (25 : Int32) ≤ nI j from nI_ge (b := 25) (by omega) (by omega)), lk_76_1, lk_77_5, t_ai (by omega), x, t_sai (by omega), nI_1]
      refine ih (j + 1) _ (by omega) (by omega) ?_ ?_ h2
      · intro k hk'
        by_cases e : k = j
        · subst e
          rw [if_pos (by omega)]
          simp (disch := omega) only [u2_ne, u2_a, u2_k, u2_at]
        · have := hk k hk'
          by_cases e2 : k < j
          · rw [if_pos e2] at this
            rw [if_pos (by omega), ← this]
            simp (disch := omega) only [u2_ne, u2_a, u2_k, u2_at]
          · rw [if_neg e2] at this
            rw [if_neg (by omega), ← this]
            simp (disch := omega) only [u2_ne, u2_a, u2_k, u2_at]
      · intro a ha
        rw [← ho a ha]
        simp (disch := omega) only [u2_ne, u2_a, u2_k, u2_at]
def prN (pr : Nat → Bool) (s0 s : Nat) : Bool := pr s && decide (s ≠ s0)
def FrZ (μ0 μ : sm_Mem) : Prop := (∀ a, (a < 77 ∨ 80 ≤ a) → μ.1 a = μ0.1 a) ∧ (∀ k, 2 ≤ k → μ.1 77 k = μ0.1 77 k) ∧ μ.2 = μ0.2
theorem frZ_tr {μ μ1 μ2 : sm_Mem} (h : FrZ μ μ1) (h' : FrZ μ1 μ2) : FrZ μ μ2 := ⟨fun a q => (h'.1 a q).trans (h.1 a q), fun k q => (h'.2.1 k q).trans (h.2.1 k q), h'.2.2.trans h.2.2⟩
theorem lift_T {pr : Nat → Bool} {gx gy b g : Nat → Nat} {h : Nat → Nat → Nat} {W r s0 : Nat} (hs0 : s0 < 25) {μ : sm_Mem} (N : NtH 77 (zNear pr gy r) (zFar pr W gy r) (zAdj pr gx gy r) (zB pr b) g h μ) : T (fnX2_lift 76 (nI s0)) μ (fun _ μ' => NtH 77 (zNear (prN pr s0) gy r) (zFar (prN pr s0) W gy r) (zAdj (prN pr s0) gx gy r) (zB (prN pr s0) b) g h μ' ∧ FrZ μ μ') := by
  have e_78 : ln 78 = 25 := rfl
  have e_79 : ln 79 = 25 := rfl
  have hm : ∀ t, t < 32 → bt (((1 : Int32) <<< (nI s0 &&& 31)) ^^^ (-1 : Int32)) t = decide (t ≠ s0) := by
    intro t ht
    rw [k_not _ ht, k_1 s0 (by omega) t ht]
    simp
  unfold fnX2_lift
  rw [t_nm, lk_76_1, t_gi, t_si, t_gi]
  rw [show (u2 μ.1 77 0 (μ.1 77 0 &&& (((1 : Int32) <<< (nI s0 &&& 31)) ^^^ (-1 : Int32))), μ.2).1 77 1 = μ.1 77 1 from (by simp (disch := omega) only [u2_ne, u2_a, u2_k, u2_at])]
  rw [t_si]
  refine lift34 (μ0 := (u2 (u2 μ.1 77 0 (μ.1 77 0 &&& (((1 : Int32) <<< (nI s0 &&& 31)) ^^^ (-1 : Int32)))) 77 1 (μ.1 77 1 &&& (((1 : Int32) <<< (nI s0 &&& 31)) ^^^ (-1 : Int32))), μ.2)) ?_ 4096 0 _ (by omega) (by omega) (fun k hk => by rw [if_neg (by omega)]) (fun _ _ => rfl) rfl
  intro μ1 k1 o1 h21
  unfold fnX2_lift_J59
  rw [lk_76_1, lk_77_5, lk_77_6, t_sai (by omega), t_sai (by omega), t_ret]
  refine ⟨⟨?_, ?_⟩, ?_, ?_, h21⟩
  · intro s hs
    rw [show (u2 (u2 μ1.1 78 s0 0) 79 s0 0, μ1.2).1 77 = μ1.1 77 from (by simp (disch := omega) only [u2_ne, u2_a, u2_k, u2_at]), o1 77 (by omega)]
    rw [show (u2 (u2 μ.1 77 0 (μ.1 77 0 &&& (((1 : Int32) <<< (nI s0 &&& 31)) ^^^ (-1 : Int32)))) 77 1 (μ.1 77 1 &&& (((1 : Int32) <<< (nI s0 &&& 31)) ^^^ (-1 : Int32))), μ.2).1 77 0 = μ.1 77 0 &&& (((1 : Int32) <<< (nI s0 &&& 31)) ^^^ (-1 : Int32)) from (by simp (disch := omega) only [u2_ne, u2_a, u2_k, u2_at])]
    rw [show (u2 (u2 μ.1 77 0 (μ.1 77 0 &&& (((1 : Int32) <<< (nI s0 &&& 31)) ^^^ (-1 : Int32)))) 77 1 (μ.1 77 1 &&& (((1 : Int32) <<< (nI s0 &&& 31)) ^^^ (-1 : Int32))), μ.2).1 77 1 = μ.1 77 1 &&& (((1 : Int32) <<< (nI s0 &&& 31)) ^^^ (-1 : Int32)) from (by simp (disch := omega) only [u2_ne, u2_a, u2_k, u2_at])]
    rw [b_and, b_and, hm s hs, (N.1 s hs).1, (N.1 s hs).2]
    unfold zNear zFar prN
    constructor
    · cases decide (s < 25) <;> cases pr s <;> cases decide (s ≠ s0) <;> simp
    · cases decide (s < 25) <;> cases pr s <;> cases decide (s ≠ s0) <;> simp
  · intro s hs
    obtain ⟨N1, N2, N3, N4, N5⟩ := N.2 s hs
    have ob : ∀ a, a ≠ 77 → a ≠ 78 → a ≠ 79 → (u2 (u2 μ1.1 78 s0 0) 79 s0 0, μ1.2).1 a = μ.1 a := by
      intro a q1 q2 q3
      rw [show (u2 (u2 μ1.1 78 s0 0) 79 s0 0, μ1.2).1 a = μ1.1 a from (by simp (disch := omega) only [u2_ne, u2_a, u2_k, u2_at]), o1 a q2]
      simp (disch := omega) only [u2_ne, u2_a, u2_k, u2_at]
    refine ⟨?_, ?_, ?_, ?_, ?_⟩
    · intro t ht
      by_cases c : s = s0
      · subst c
        rw [show (u2 (u2 μ1.1 78 s 0) 79 s 0, μ1.2).1 (77 + 1) s = (0 : Int32) from (by simp (disch := omega) only [u2_ne, u2_a, u2_k, u2_at]), b_0]
        unfold zAdj prN
        simp
      · rw [show (u2 (u2 μ1.1 78 s0 0) 79 s0 0, μ1.2).1 (77 + 1) s = μ1.1 78 s from (by simp (disch := omega) only [u2_ne, u2_a, u2_k, u2_at]), k1 s hs]
        rw [show (u2 (u2 μ.1 77 0 (μ.1 77 0 &&& (((1 : Int32) <<< (nI s0 &&& 31)) ^^^ (-1 : Int32)))) 77 1 (μ.1 77 1 &&& (((1 : Int32) <<< (nI s0 &&& 31)) ^^^ (-1 : Int32))), μ.2).1 78 s = μ.1 78 s from (by simp (disch := omega) only [u2_ne, u2_a, u2_k, u2_at])]
        have N1' : bt (μ.1 78 s) t = (decide (t < 25) && zAdj pr gx gy r s t) := N1 t ht
        rw [b_and, hm t ht, N1']
        unfold zAdj prN
        rw [decide_eq_true (show s ≠ s0 from c)]
        cases decide (t < 25) <;> cases pr s <;> cases pr t <;> cases decide (t ≠ s0) <;> simp
    · unfold zB prN
      by_cases c : s = s0
      · subst c
        rw [show (u2 (u2 μ1.1 78 s 0) 79 s 0, μ1.2).1 (77 + 2) s = (0 : Int32) from (by simp (disch := omega) only [u2_ne, u2_a, u2_k, u2_at])]
        simp
        rfl
      · rw [show (u2 (u2 μ1.1 78 s0 0) 79 s0 0, μ1.2).1 (77 + 2) s = μ1.1 79 s from (by simp (disch := omega) only [u2_ne, u2_a, u2_k, u2_at]), o1 79 (by omega)]
        have N2' : μ.1 79 s = nI (zB pr b s) := N2
        rw [show (u2 (u2 μ.1 77 0 (μ.1 77 0 &&& (((1 : Int32) <<< (nI s0 &&& 31)) ^^^ (-1 : Int32)))) 77 1 (μ.1 77 1 &&& (((1 : Int32) <<< (nI s0 &&& 31)) ^^^ (-1 : Int32))), μ.2).1 79 s = μ.1 79 s from (by simp (disch := omega) only [u2_ne, u2_a, u2_k, u2_at]), N2']
        unfold zB
        rw [decide_eq_true (show s ≠ s0 from c), Bool.and_true]
    · rw [ob (77 + 3) (by omega) (by omega) (by omega)]
      exact N3
    · rw [ob (77 + 4) (by omega) (by omega) (by omega)]
      exact N4
    · rw [ob (77 + 5) (by omega) (by omega) (by omega)]
      exact N5
  · intro a ha
    rw [show (u2 (u2 μ1.1 78 s0 0) 79 s0 0, μ1.2).1 a = μ1.1 a from (by simp (disch := omega) only [u2_ne, u2_a, u2_k, u2_at]), o1 a (by omega)]
    simp (disch := omega) only [u2_ne, u2_a, u2_k, u2_at]
  · intro k hk
    rw [show (u2 (u2 μ1.1 78 s0 0) 79 s0 0, μ1.2).1 77 = μ1.1 77 from (by simp (disch := omega) only [u2_ne, u2_a, u2_k, u2_at]), o1 77 (by omega)]
    simp (disch := omega) only [u2_ne, u2_a, u2_k, u2_at]
