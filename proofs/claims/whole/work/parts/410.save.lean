/-! ===== A NETWORK SAVED AND TAKEN BACK; A STONE THAT HELPS ===== -/
theorem takeFrom4_T {a b : Nat} (hab : (a = 77 ∧ b = 83) ∨ (a = 83 ∧ b = 77)) {μ : sm_Mem} : T (fnX4_takeFrom a b) μ (fun _ μ' => (∀ k, k < 5 → μ'.1 a k = μ.1 b k) ∧ (∀ k, k < 25 → μ'.1 (a + 1) k = μ.1 (b + 1) k ∧ μ'.1 (a + 2) k = μ.1 (b + 2) k ∧ μ'.1 (a + 3) k = μ.1 (b + 3) k ∧ μ'.1 (a + 5) k = μ.1 (b + 5) k) ∧ (∀ k, k < 625 → μ'.1 (a + 4) k = μ.1 (b + 4) k) ∧ (∀ c, (c < a ∨ a + 6 ≤ c) → μ'.1 c = μ.1 c) ∧ μ'.2 = μ.2) := by
  have e_78 : ln 78 = 25 := rfl
  have e_79 : ln 79 = 25 := rfl
  have e_80 : ln 80 = 25 := rfl
  have e_81 : ln 81 = 625 := rfl
  have e_82 : ln 82 = 25 := rfl
  have e_84 : ln 84 = 25 := rfl
  have e_85 : ln 85 = 25 := rfl
  have e_86 : ln 86 = 25 := rfl
  have e_87 : ln 87 = 625 := rfl
  have e_88 : ln 88 = 25 := rfl
  unfold fnX4_takeFrom
  rcases hab with ⟨rfl, rfl⟩ | ⟨rfl, rfl⟩
  · simp (disch := (first | assumption | omega)) only [t_gi, t_si, t_ret, lk_77_5, lk_77_6, lk_77_7, lk_77_8, lk_77_9, lk_83_5, lk_83_6, lk_83_7, lk_83_8, lk_83_9, li_25, li_625, t_cpi]
    refine ⟨?_, ?_, ?_, ?_, (by first | rfl | trivial)⟩
    · intro k hk
      have cs : k = 0 ∨ k = 1 ∨ k = 2 ∨ k = 3 ∨ k = 4 := by omega
      rcases cs with rfl | rfl | rfl | rfl | rfl <;> simp (disch := omega) only [u1_ne, u2_ne, u2_a, u2_k, u2_at]
    · intro k hk
      refine ⟨?_, ?_, ?_, ?_⟩ <;> simp (disch := omega) only [u1_ne, u1_at, u2_ne, u2_a, u2_k, u2_at, sb_cpy0]
    · intro k hk
      simp (disch := omega) only [u1_ne, u1_at, u2_ne, u2_a, u2_k, u2_at, sb_cpy0]
    · intro c hc
      simp (disch := omega) only [u1_ne, u2_ne]
  · simp (disch := (first | assumption | omega)) only [t_gi, t_si, t_ret, lk_77_5, lk_77_6, lk_77_7, lk_77_8, lk_77_9, lk_83_5, lk_83_6, lk_83_7, lk_83_8, lk_83_9, li_25, li_625, t_cpi]
    refine ⟨?_, ?_, ?_, ?_, (by first | rfl | trivial)⟩
    · intro k hk
      have cs : k = 0 ∨ k = 1 ∨ k = 2 ∨ k = 3 ∨ k = 4 := by omega
      rcases cs with rfl | rfl | rfl | rfl | rfl <;> simp (disch := omega) only [u1_ne, u2_ne, u2_a, u2_k, u2_at]
    · intro k hk
      refine ⟨?_, ?_, ?_, ?_⟩ <;> simp (disch := omega) only [u1_ne, u1_at, u2_ne, u2_a, u2_k, u2_at, sb_cpy0]
    · intro k hk
      simp (disch := omega) only [u1_ne, u1_at, u2_ne, u2_a, u2_k, u2_at, sb_cpy0]
    · intro c hc
      simp (disch := omega) only [u1_ne, u2_ne]
theorem ntH_take {a b : Nat} {near far : Nat → Bool} {adj : Nat → Nat → Bool} {bb g : Nat → Nat} {h : Nat → Nat → Nat} {μ μ' : sm_Mem} (h1 : ∀ k, k < 5 → μ'.1 a k = μ.1 b k) (h2 : ∀ k, k < 25 → μ'.1 (a + 1) k = μ.1 (b + 1) k ∧ μ'.1 (a + 2) k = μ.1 (b + 2) k ∧ μ'.1 (a + 3) k = μ.1 (b + 3) k ∧ μ'.1 (a + 5) k = μ.1 (b + 5) k) (h3 : ∀ k, k < 625 → μ'.1 (a + 4) k = μ.1 (b + 4) k) (H : NtH b near far adj bb g h μ) : NtH a near far adj bb g h μ' := by
  refine ⟨fun s hs => ?_, fun s hs => ?_⟩
  · rw [h1 0 (by omega), h1 1 (by omega)]
    exact H.1 s hs
  · obtain ⟨k1, k2, k3, k5⟩ := h2 s hs
    obtain ⟨n1, n2, n3, n4, n5⟩ := H.2 s hs
    rw [k1, k2, k3, k5]
    exact ⟨n1, n2, n3, fun t ht => by rw [h3 _ (by omega)]; exact n4 t ht, n5⟩
/-- a network as it was saved -/
def SvP (b : Nat → Nat) (near far : Nat → Bool) (adj : Nat → Nat → Bool) (v : Nat) (vis : Nat → Bool) (g : Nat → Nat) (h : Nat → Nat → Nat) (μ : sm_Mem) : Prop := μ.1 83 2 = nI v ∧ NtH 83 near far adj b g h μ ∧ (∀ s, s < 32 → bt (μ.1 83 3) s = (decide (s < 25) && vis s)) ∧ ∀ s, s < 32 → bt (μ.1 83 4) s = (decide (s < 25) && vis (32 + s))
theorem svP_fr {b : Nat → Nat} {near far : Nat → Bool} {adj : Nat → Nat → Bool} {v : Nat} {vis : Nat → Bool} {g : Nat → Nat} {h : Nat → Nat → Nat} {μ μ' : sm_Mem} (hf : ∀ a, 83 ≤ a → a < 89 → μ'.1 a = μ.1 a) (H : SvP b near far adj v vis g h μ) : SvP b near far adj v vis g h μ' := by
  obtain ⟨h1, h2, h3, h4⟩ := H
  unfold SvP
  rw [hf 83 (by omega) (by omega)]
  exact ⟨h1, ntH_fr (by rw [hf 83 (by omega) (by omega)]) (by rw [hf 83 (by omega) (by omega)]) (fun a q1 q2 => hf a (by omega) (by omega)) h2, h3, h4⟩
theorem save_T {b : Nat → Nat} {near far : Nat → Bool} {adj : Nat → Nat → Bool} {v : Nat} {vis : Nat → Bool} {g : Nat → Nat} {h : Nat → Nat → Nat} {μ : sm_Mem} (h2 : μ.1 77 2 = nI v) (N : NtH 77 near far adj b g h μ) (mE : MkE vis μ) (mL : MkL vis μ) : T (fnX2_save 76) μ (fun _ μ' => SvP b near far adj v vis g h μ' ∧ (∀ c, (c < 83 ∨ 89 ≤ c) → μ'.1 c = μ.1 c) ∧ μ'.2 = μ.2) := by
  unfold fnX2_save
  rw [lk_76_1, lk_76_2, t_bnd]
  refine t_mono (takeFrom4_T (Or.inr ⟨rfl, rfl⟩)) ?_
  rintro - μ1 ⟨a1, a2, a3, a4, a5⟩
  rw [t_ret]
  exact ⟨⟨by rw [a1 2 (by omega)]; exact h2, ntH_take a1 a2 a3 N, fun s hs => by rw [a1 3 (by omega)]; exact mE s hs, fun s hs => by rw [a1 4 (by omega)]; exact mL s hs⟩, a4, a5⟩
theorem restore_T {b : Nat → Nat} {near far : Nat → Bool} {adj : Nat → Nat → Bool} {v : Nat} {vis : Nat → Bool} {g : Nat → Nat} {h : Nat → Nat → Nat} {μ : sm_Mem} (H : SvP b near far adj v vis g h μ) : T (fnX2_restore 76) μ (fun _ μ' => μ'.1 77 2 = nI v ∧ NtH 77 near far adj b g h μ' ∧ (∀ c, (c < 77 ∨ 83 ≤ c) → μ'.1 c = μ.1 c) ∧ μ'.2 = μ.2) := by
  obtain ⟨h1, h2, h3, h4⟩ := H
  unfold fnX2_restore
  rw [lk_76_1, lk_76_2, t_bnd]
  refine t_mono (takeFrom4_T (Or.inl ⟨rfl, rfl⟩)) ?_
  rintro - μ1 ⟨a1, a2, a3, a4, a5⟩
  rw [t_ret]
  exact ⟨by rw [a1 2 (by omega)]; exact h1, ntH_take a1 a2 a3 h2, a4, a5⟩
/-- a stone helps only where one more could come to it and go on from it -/
def hlpB (w : Nat → Nat) (vis : Nat → Bool) (x y r : Nat) : Bool := (decide (y ≤ r) || decide (0 < fb_ct (fun s => arW w x y r s && vis (32 + s)) (w 3))) && (decide (w 1 - y ≤ r) || decide (0 < fb_ct (fun s => arW w x y r s && !vis s) (w 3)))
theorem and_ct {w : Nat → Nat} (hG : Good w) {p q : Nat → Bool} {m : Int32} (hm : ∀ s, s < w 3 → bt m s = q s) : (mk p (w 3) &&& m) = 0 ↔ ¬ 0 < fb_ct (fun s => p s && q s) (w 3) := by
  have n := hG.1
  rw [k_z]
  constructor
  · intro h z
    obtain ⟨k, hk, e⟩ := fb_ct_pos.mp z
    have := h k (by omega)
    rw [b_and, bt_mk _ _ (by omega) k (by omega), decide_eq_true hk, Bool.true_and, hm k hk] at this
    have e : (p k && q k) = true := e
    rw [this] at e
    cases e
  · intro h i hi
    rw [b_and, bt_mk _ _ (by omega) i hi]
    by_cases c : i < w 3
    · rw [decide_eq_true c, Bool.true_and, hm i c]
      cases e : (p i && q i)
      · rfl
      · exact absurd (fb_ct_pos.mpr ⟨i, c, e⟩) h
    · rw [decide_eq_false c]
      rfl
theorem stoneHelps_eq {w : Nat → Nat} {μ : sm_Mem} (hR : RH 14 w μ) (hG : Good w) {x y r : Nat} (hx : x ≤ 20) (hy : y ≤ w 1) (hr : r ≤ 9) (h7 : μ.1 76 7 = nI r) {b : Nat → Nat} {near far : Nat → Bool} {adj : Nat → Nat → Bool} {v : Nat} {vis : Nat → Bool} {g : Nat → Nat} {h : Nat → Nat → Nat} (H : SvP b near far adj v vis g h μ) : fnX2_stoneHelps 76 14 (nI x) (nI y) μ = some (hlpB w vis x y r, μ) := by
  have n := hG.1
  have gw := good_wide hG
  obtain ⟨-, -, h3, h4⟩ := H
  have ar := around_eq hR hG hx (show y ≤ 12 by omega) hr h7
  have c1 := and_ct hG (p := arW w x y r) (q := fun s => vis (32 + s)) (m := μ.1 83 4) (fun s hs => by rw [h4 s (by omega), decide_eq_true (show s < 25 by omega)]; rfl)
  have c2 := and_ct hG (p := arW w x y r) (q := fun s => !vis s) (m := μ.1 83 3 ^^^ (-1 : Int32)) (fun s hs => by rw [k_not _ (by omega), h3 s (by omega), decide_eq_true (show s < 25 by omega)]; rfl)
  have J35 : fnX2_stoneHelps_J35 76 14 (nI y) (mk (arW w x y r) (w 3)) (1 : Int32) μ = some (decide (w 1 - y ≤ r) || decide (0 < fb_ct (fun s => arW w x y r s && !vis s) (w 3)), μ) := by
    unfold fnX2_stoneHelps_J35
    rw [e_F (by decide), e_gi, e_gi, hR.1.2.1, h7, pk_sub hy]
    by_cases c : w 1 - y ≤ r
    · rw [e_T (nI_le c (by omega)), decide_eq_true c]
      rfl
    · rw [e_F (nI_ge (by omega) (by omega)), decide_eq_false c, Bool.false_or, lk_76_2, e_gi]
      by_cases d : 0 < fb_ct (fun s => arW w x y r s && !vis s) (w 3)
      · rw [e_F (fun z => c2.mp z d), decide_eq_true d]
        rfl
      · rw [e_T (c2.mpr d), decide_eq_false d]
        rfl
  have J0 : fnX2_stoneHelps_J35 76 14 (nI y) (mk (arW w x y r) (w 3)) (0 : Int32) μ = some (false, μ) := by
    unfold fnX2_stoneHelps_J35
    rw [e_T rfl]
    rfl
  unfold fnX2_stoneHelps fnX2_stoneHelps_J30 hlpB
  rw [e_b ar, e_gi, h7]
  by_cases c : y ≤ r
  · rw [e_T (nI_le c (by omega)), J35, decide_eq_true c]
    rfl
  · rw [e_F (nI_ge (by omega) (by omega)), decide_eq_false c, Bool.false_or, lk_76_2, e_gi]
    by_cases d : 0 < fb_ct (fun s => arW w x y r s && vis (32 + s)) (w 3)
    · rw [e_F (fun z => c1.mp z d), J35, decide_eq_true d]
      rfl
    · rw [e_T (c1.mpr d), J0, decide_eq_false d]
      rfl
/-- a stone that doesn't help lets no more over -/
theorem help_no {w : Nat → Nat} (hG : Good w) {vis : Nat → Bool} {x y r bv v v' : Nat} {E' L' : Nat → Bool} (hh : hlpB w vis x y r = false)
    (H : MinC 25 (zB (prW w) (fun s => lf w s / 1)) (zNear (prW w) (sy w) r) (zFar (prW w) (w 1) (sy w) r) (zAdj (prW w) (sx w) (sy w) r) v vis (fun s => vis (32 + s)))
    (H' : MinC 25 (zB (prP w 24) (up (fun s => lf w s / 1) 24 bv)) (zNear (prP w 24) (up (sy w) 24 y) r) (zFar (prP w 24) (w 1) (up (sy w) 24 y) r) (zAdj (prP w 24) (up (sx w) 24 x) (up (sy w) 24 y) r) v' E' L') : v' = v := by
  have n := hG.1
  have p24 : prW w 24 = false := by unfold prW; exact decide_eq_false (by omega)
  have pne : ∀ s, s ≠ 24 → prP w 24 s = prW w s := by
    intro s hs
    unfold prP prW
    apply decide_eq_decide.mpr
    omega
  have p24' : prP w 24 24 = true := by unfold prP; exact decide_eq_true (Or.inr rfl)
  have bne : ∀ s, s ≠ 24 → zB (prP w 24) (up (fun s => lf w s / 1) 24 bv) s = zB (prW w) (fun s => lf w s / 1) s := by
    intro s hs
    unfold zB
    rw [pne s hs, up_ne hs]
  have nne : ∀ s, s ≠ 24 → zNear (prP w 24) (up (sy w) 24 y) r s = zNear (prW w) (sy w) r s := by
    intro s hs
    unfold zNear gNear
    rw [pne s hs, up_ne hs]
  have fne : ∀ s, s ≠ 24 → zFar (prP w 24) (w 1) (up (sy w) 24 y) r s = zFar (prW w) (w 1) (sy w) r s := by
    intro s hs
    unfold zFar gFar
    rw [pne s hs, up_ne hs]
  have ane : ∀ s t, s ≠ 24 → t ≠ 24 → zAdj (prP w 24) (up (sx w) 24 x) (up (sy w) 24 y) r s t = zAdj (prW w) (sx w) (sy w) r s t := by
    intro s t hs ht
    unfold zAdj gAdj gSq
    rw [pne s hs, pne t ht, up_ne hs, up_ne hs, up_ne ht, up_ne ht]
  have a1 : ∀ s, s ≠ 24 → zAdj (prP w 24) (up (sx w) 24 x) (up (sy w) 24 y) r s 24 = true → s < w 3 ∧ arW w x y r s = true := by
    intro s hs h
    unfold zAdj gAdj gSq at h
    rw [pne s hs, up_ne hs, up_ne hs, up_at, up_at] at h
    simp only [Bool.and_eq_true, decide_eq_true_eq] at h
    refine ⟨?_, ?_⟩
    · have := h.1.1
      unfold prW at this
      exact of_decide_eq_true this
    · unfold arW
      exact decide_eq_true h.2.2
  have a2 : ∀ s, s ≠ 24 → zAdj (prP w 24) (up (sx w) 24 x) (up (sy w) 24 y) r 24 s = true → s < w 3 ∧ arW w x y r s = true := by
    intro s hs h
    unfold zAdj gAdj gSq at h
    rw [pne s hs, up_ne hs, up_ne hs, up_at, up_at] at h
    simp only [Bool.and_eq_true, decide_eq_true_eq] at h
    refine ⟨?_, ?_⟩
    · have := h.1.2
      unfold prW at this
      exact of_decide_eq_true this
    · unfold arW
      rw [dd_comm (sx w s), dd_comm (sy w s)]
      exact decide_eq_true h.2.2
  have le1 : v ≤ v' := by
    refine minC_le H' H ?_
    intro A B c
    refine ⟨A, B, ?_, ?_⟩
    · intro s hs
      obtain ⟨c1, c2, c3⟩ := c s hs
      by_cases q : s = 24
      · subst q
        refine ⟨fun z => ?_, fun _ => ?_, fun t ht _ z => ?_⟩
        · unfold zNear at z
          rw [p24] at z
          cases z
        · unfold zFar
          rw [p24]
          rfl
        · unfold zAdj at z
          rw [p24] at z
          cases z
      · rw [nne s q] at c1
        rw [fne s q] at c2
        refine ⟨c1, c2, fun t ht hB z => ?_⟩
        by_cases qt : t = 24
        · subst qt
          unfold zAdj at z
          rw [p24, Bool.and_false] at z
          cases z
        · exact c3 t ht hB (by rw [ane s t q qt]; exact z)
    · unfold capOf
      apply fb_sm_le
      intro s hs
      by_cases q : s = 24
      · subst q
        unfold zB
        rw [p24, if_neg (by decide)]
        cases (A 24 && !B 24) <;> exact Nat.zero_le _
      · rw [bne s q]
        exact Nat.le_refl _
  have le2 : v' ≤ v := by
    obtain ⟨h1, h2, -, -⟩ := H
    have ext : ∀ z : Bool, (z = false → ¬ y ≤ r ∧ ∀ s, s < w 3 → arW w x y r s = true → vis (32 + s) = false) → (z = true → ¬ w 1 - y ≤ r ∧ ∀ s, s < w 3 → arW w x y r s = true → vis s = true) → v' ≤ v := by
      intro z z0 z1
      have key := H'.2.2.1 (fun s => if s = 24 then z else vis s) (fun s => if s = 24 then z else vis (32 + s)) ?_
      · have ec : capOf 25 (zB (prP w 24) (up (fun s => lf w s / 1) 24 bv)) (fun s => if s = 24 then z else vis s) (fun s => if s = 24 then z else vis (32 + s)) = capOf 25 (zB (prW w) (fun s => lf w s / 1)) vis (fun s => vis (32 + s)) := by
          unfold capOf
          apply fb_sm_cong
          intro s hs
          by_cases q : s = 24
          · subst q
            have e0 : zB (prW w) (fun s => lf w s / 1) 24 = 0 := by
              unfold zB
              rw [p24, if_neg (by decide)]
            rw [e0]
            simp only [if_true]
            cases z <;> cases (vis 24 && !vis (32 + 24)) <;> rfl
          · simp only [q, if_false]
            rw [bne s q]
        rw [ec, h2] at key
        exact key
      · intro s hs
        by_cases q : s = 24
        · subst q
          simp only [if_true]
          refine ⟨fun hn => ?_, fun hz => ?_, fun t ht hz ha => ?_⟩
          · cases hz : z
            · unfold zNear gNear at hn
              rw [up_at, p24', Bool.true_and] at hn
              exact absurd (of_decide_eq_true hn) (z0 hz).1
            · rfl
          · unfold zFar gFar
            rw [up_at, p24', Bool.true_and]
            exact decide_eq_false (z1 hz).1
          · by_cases qt : t = 24
            · rw [if_pos qt]
              exact hz
            · rw [if_neg qt]
              obtain ⟨t3, ta⟩ := a2 t qt ha
              exact (z1 hz).2 t t3 ta
        · obtain ⟨c1, c2, c3⟩ := h1 s hs
          simp only [q, if_false]
          refine ⟨fun hn => c1 (by rw [← nne s q]; exact hn), fun hL => by rw [fne s q]; exact c2 hL, fun t ht hL ha => ?_⟩
          by_cases qt : t = 24
          · rw [if_pos qt]
            subst qt
            obtain ⟨s3, sa⟩ := a1 s q ha
            cases hz : z
            · rw [(z0 hz).2 s s3 sa] at hL
              cases hL
            · rfl
          · rw [if_neg qt]
            exact c3 t ht hL (by rw [← ane s t q qt]; exact ha)
    unfold hlpB at hh
    cases hA : (decide (y ≤ r) || decide (0 < fb_ct (fun s => arW w x y r s && vis (32 + s)) (w 3)))
    · simp only [Bool.or_eq_false_iff, decide_eq_false_iff_not] at hA
      refine ext false (fun _ => ⟨hA.1, fun s hs ha => ?_⟩) (fun q => by cases q)
      cases hv : vis (32 + s)
      · rfl
      · exact absurd (fb_ct_pos.mpr ⟨s, hs, by rw [ha, hv]; rfl⟩) hA.2
    · rw [hA, Bool.true_and] at hh
      simp only [Bool.or_eq_false_iff, decide_eq_false_iff_not] at hh
      refine ext true (fun q => by cases q) (fun _ => ⟨hh.1, fun s hs ha => ?_⟩)
      cases hv : vis s
      · exact absurd (fb_ct_pos.mpr ⟨s, hs, by rw [ha, hv]; rfl⟩) hh.2
      · rfl
  omega
