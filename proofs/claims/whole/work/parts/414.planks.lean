/-! ===== PLANKS ===== -/
def isPlB (w : Nat → Nat) (a : Nat) : Bool := decide (a < w 3 ∨ a = 98 ∨ a = 99)
noncomputable def pkV (w : Nat → Nat) (r a b : Nat) : Int32 := if isPlB w a = true ∧ isPlB w b = true then (if sq w a b ≤ w 6 * w 6 then nI (plankW w a b r) else -5) else mI 1
noncomputable def plB (V : Nat → Nat → Int32) (a : Nat) : Nat → Nat → Int32 → Int32 → Int32 × Int32
  | 0, _, p, m => (p, m)
  | f + 1, b, p, m => if m < V a b then plB V a f (b + 1) (nI (100 * a + b)) (V a b) else plB V a f (b + 1) p m
noncomputable def plA (V : Nat → Nat → Int32) : Nat → Nat → Int32 → Int32 → Int32
  | 0, _, p, _ => p
  | f + 1, a, p, m => plA V f (a + 1) (plB V a (99 - a) (a + 1) p m).1 (plB V a (99 - a) (a + 1) p m).2
theorem plB_skip {V : Nat → Nat → Int32} {a : Nat} {p m : Int32} : ∀ (d b : Nat), b + d ≤ 100 → (∀ c, b ≤ c → c < b + d → ¬ m < V a c) → plB V a (100 - b) b p m = plB V a (100 - (b + d)) (b + d) p m
  | 0, b, _, _ => rfl
  | d + 1, b, h, hc => by
    rw [show 100 - b = (100 - (b + 1)) + 1 by omega]
    show (if m < V a b then _ else plB V a (100 - (b + 1)) (b + 1) p m) = _
    rw [if_neg (hc b (Nat.le_refl _) (by omega)), plB_skip d (b + 1) (by omega) (fun c h1 h2 => hc c (by omega) (by omega)), show b + 1 + d = b + (d + 1) by omega]
theorem plA_skip {V : Nat → Nat → Int32} {p m : Int32} : ∀ (d a : Nat), a + d ≤ 99 → (∀ c, a ≤ c → c < a + d → ∀ b, ¬ m < V c b) → plA V (99 - a) a p m = plA V (99 - (a + d)) (a + d) p m
  | 0, a, _, _ => rfl
  | d + 1, a, h, hc => by
    have e : plB V a (99 - a) (a + 1) p m = (p, m) := by
      have := plB_skip (V := V) (a := a) (p := p) (m := m) (100 - (a + 1)) (a + 1) (by omega) (fun c _ _ => hc a (Nat.le_refl _) (by omega) c)
      rw [show 99 - a = 100 - (a + 1) by omega, this, show 100 - (a + 1 + (100 - (a + 1))) = 0 by omega]
      rfl
    rw [show 99 - a = (99 - (a + 1)) + 1 by omega]
    show plA V (99 - (a + 1)) (a + 1) (plB V a (99 - a) (a + 1) p m).1 (plB V a (99 - a) (a + 1) p m).2 = _
    rw [e, plA_skip d (a + 1) (by omega) (fun c h1 h2 => hc c (by omega) (by omega)), show a + 1 + d = a + (d + 1) by omega]
theorem pkV_no {w : Nat → Nat} {r a b : Nat} {m : Int32} (hm : mI 1 ≤ m) (h : isPlB w a = false ∨ isPlB w b = false) : ¬ m < pkV w r a b := by
  unfold pkV
  rw [if_neg]
  · exact fun z => lt_nle z hm
  · rintro ⟨z1, z2⟩
    rcases h with h | h
    · rw [z1] at h
      cases h
    · rw [z2] at h
      cases h
theorem ge_of_lt {m v : Int32} (hm : mI 1 ≤ m) (h : m < v) : mI 1 ≤ v := by
  rw [fa_le] at hm ⊢
  rw [fa_lt] at h
  omega
theorem m5_no {m : Int32} (hm : mI 1 ≤ m) : ¬ m < (-5 : Int32) := by
  intro z
  rw [fa_le] at hm
  rw [fa_lt] at z
  have e1 : (mI 1).toInt = -1 := by decide
  have e2 : (-5 : Int32).toInt = -5 := by decide
  omega
/-! the reference -/
theorem isPl12 {w : Nat → Nat} {μ : sm_Mem} (hW : WH 147 w μ) (hG : Good w) (h0 : 0 < w 0) {a : Nat} (ha : a < 4096) : fnX12_isPlace 146 (nI a) μ = some (isPlB w a, μ) := by
  rw [isPlace12 hW hG, pl_iff hG ha]
  unfold isPlB
  congr 2
  apply decide_eq_decide.mpr
  exact ⟨fun z => z.2, fun z => ⟨h0, z⟩⟩
theorem planks37 {k24 : Nat → Int32 → Int32 → Int32 → Int32 → sm_M Int32} {Q : Int32 → sm_Mem → Prop} {w : Nat → Nat} (hG : Good w) (h0 : 0 < w 0) {r a : Nat} (h9 : r ≤ 9) (ha : a < 99) {μ0 : sm_Mem} (hW : WH 147 w μ0) (h39 : μ0.1 146 39 = mI 1) (h40 : μ0.1 146 40 = mI 1) {F : Int32 × Int32}
    (ex : ∀ μ', FrN μ0 μ' → mI 1 ≤ F.2 → T (k24 146 (nI r) F.1 F.2 (nI (a + 1))) μ' Q) :
    ∀ (f b : Nat) (p m : Int32) (μ : sm_Mem), 100 - b < f → a < b → b ≤ 100 → plB (pkV w r) a (100 - b) b p m = F → mI 1 ≤ m → FrN μ0 μ → T (fnX12_planks_L37 k24 f 146 (nI r) p m (nI a) (nI b)) μ Q := by
  have n := hG.1
  intro f
  induction f with
  | zero =>
    intro b p m μ h
    omega
  | succ f ih =>
    intro b p m μ hf hab hb hF hm hr
    have hW1 := (rp_fl hW hr).1
    have fin : F = (p, m) → T (fnX12_planks_J104 k24 146 (nI r) p m (nI a)) μ Q := by
      intro e
      unfold fnX12_planks_J104
      have := ex μ hr (by rw [e]; exact hm)
      rw [e] at this
      rw [nI_1]
      exact this
    unfold fnX12_planks_L37
    by_cases c1 : 100 ≤ b
    · have : b = 100 := by omega
      subst this
      rw [t_brT (by decide)]
      exact fin hF.symm
    · rw [t_brF (show ¬ (99 : Int32) < nI b from nI_nlt (a := 99) (by omega) (by omega)), t_bnd, t_eq (isPl12 hW1 hG h0 (by omega))]
      cases pa : isPlB w a
      · rw [t_brT (by decide)]
        refine fin ?_
        rw [← hF, plB_skip (100 - b) b (by omega) (fun c _ _ => pkV_no hm (Or.inl pa)), show 100 - (b + (100 - b)) = 0 by omega]
        rfl
      · rw [show 100 - b = (100 - (b + 1)) + 1 by omega] at hF
        have hF : (if m < pkV w r a b then plB (pkV w r) a (100 - (b + 1)) (b + 1) (nI (100 * a + b)) (pkV w r a b) else plB (pkV w r) a (100 - (b + 1)) (b + 1) p m) = F := hF
        have J75 : ∀ μ1, FrN μ0 μ1 → T (fnX12_planks_J75 k24 (fnX12_planks_L37 k24 f) 146 (nI r) p m (nI a) (nI b) (pkV w r a b)) μ1 Q := by
          intro μ1 hr1
          unfold fnX12_planks_J75 fnX12_planks_J98
          by_cases c2 : m < pkV w r a b
          · rw [if_pos c2] at hF
            rw [t_brT c2, t_nm, li_100, pk_mul, nI_add, nI_1]
            exact ih (b + 1) _ _ μ1 (by omega) (by omega) (by omega) hF (ge_of_lt hm c2) hr1
          · rw [if_neg c2] at hF
            rw [t_brF c2, nI_1]
            exact ih (b + 1) _ _ μ1 (by omega) (by omega) (by omega) hF hm hr1
        rw [t_brF (by decide), t_bnd, t_eq (isPl12 hW1 hG h0 (by omega))]
        cases pb : isPlB w b
        · have ev : pkV w r a b = (-1 : Int32) := by
            unfold pkV
            rw [if_neg (fun z => by rw [pb] at z; cases z.2)]
            rfl
          rw [t_brT (by decide), ← ev]
          exact J75 μ hr
        · have ev : pkV w r a b = (if sq w a b ≤ w 6 * w 6 then nI (plankW w a b r) else -5) := by
            unfold pkV
            rw [if_pos ⟨pa, pb⟩]
          rw [t_brF (by decide), t_bnd]
          refine t_mono (plankOf12_T hG (of_decide_eq_true pa) (of_decide_eq_true pb) (show a ≠ b by omega) h9 hW1 (by rw [hr.2.1 39 (by omega)]; exact h39) (by rw [hr.2.1 40 (by omega)]; exact h40)) ?_
          rintro z μ1 ⟨e1, -, e3⟩
          rw [e1, ← ev]
          exact J75 μ1 (frN_tr hr e3)
theorem planks24 {w : Nat → Nat} (hG : Good w) (h0 : 0 < w 0) {r : Nat} (h9 : r ≤ 9) {μ0 : sm_Mem} (hW : WH 147 w μ0) (h39 : μ0.1 146 39 = mI 1) (h40 : μ0.1 146 40 = mI 1) : ∀ (f a : Nat) (p m : Int32) (μ : sm_Mem), 99 - a < f → a ≤ 99 → mI 1 ≤ m → FrN μ0 μ → T (fnX12_planks_L24 f 146 (nI r) p m (nI a)) μ (fun z μ' => z = plA (pkV w r) (99 - a) a p m ∧ FrN μ0 μ') := by
  intro f
  induction f with
  | zero =>
    intro a p m μ h
    omega
  | succ f ih =>
    intro a p m μ hf ha hm hr
    unfold fnX12_planks_L24
    by_cases c1 : 99 ≤ a
    · have : a = 99 := by omega
      subst this
      rw [t_brT (by decide), t_ret]
      exact ⟨rfl, hr⟩
    · rw [t_brF (show ¬ (99 : Int32) ≤ nI a from nI_ge (b := 99) (by omega) (by omega)), t_nm, nI_1]
      refine planks37 hG h0 h9 (show a < 99 by omega) hW h39 h40 ?_ 4096 (a + 1) p m μ (by omega) (by omega) (by omega) rfl hm hr
      intro μ1 hr1 hm1
      have e : plA (pkV w r) (99 - a) a p m = plA (pkV w r) (99 - (a + 1)) (a + 1) (plB (pkV w r) a (100 - (a + 1)) (a + 1) p m).1 (plB (pkV w r) a (100 - (a + 1)) (a + 1) p m).2 := by
        rw [show 99 - a = (99 - (a + 1)) + 1 by omega]
        show plA (pkV w r) (99 - (a + 1)) (a + 1) (plB (pkV w r) a (99 - a) (a + 1) p m).1 (plB (pkV w r) a (99 - a) (a + 1) p m).2 = _
        rw [show 99 - a = 100 - (a + 1) by omega]
      rw [e]
      exact ih (a + 1) _ _ μ1 (by omega) (by omega) hm1 hr1
/-! the component: a link that helps -/
def clB (vis : Nat → Bool) (a : Nat) : Bool := decide (a = 98) || (decide (a < 25) && vis (32 + a))
def ceB (vis : Nat → Bool) (a : Nat) : Bool := decide (a = 98) || (decide (a < 25) && vis a)
def lkB (vis : Nat → Bool) (a b : Nat) : Bool := (clB vis a && !ceB vis b) || (clB vis b && !ceB vis a)
theorem canLeave_eq {vis : Nat → Bool} {a : Nat} (ha : a < 25 ∨ a = 98 ∨ a = 99) {μ : sm_Mem} (h4 : ∀ s, s < 32 → bt (μ.1 83 4) s = (decide (s < 25) && vis (32 + s))) : fnX4_canLeave 83 (nI a) μ = some (clB vis a, μ) := by
  unfold fnX4_canLeave clB
  by_cases c1 : a = 98
  · rw [e_T (by rw [c1]; rfl), decide_eq_true c1]
    rfl
  · rw [e_F (show ¬ nI a = (98 : Int32) from fun z => c1 ((nI_eq (b := 98) (by omega) (by omega)).mp z)), decide_eq_false c1, Bool.false_or]
    by_cases c2 : 25 ≤ a
    · rw [e_T (show (25 : Int32) ≤ nI a from nI_le (a := 25) c2 (by omega)), decide_eq_false (by omega)]
      rfl
    · have x := h4 a (by omega)
      rw [decide_eq_true (show a < 25 by omega), Bool.true_and] at x
      rw [e_F (show ¬ (25 : Int32) ≤ nI a from nI_ge (b := 25) (by omega) (by omega)), e_gi, decide_eq_true (show a < 25 by omega), Bool.true_and]
      cases q : vis (32 + a)
      · rw [q] at x
        rw [e_T ((k_t0 _ (by omega)).mpr x)]
        rfl
      · rw [q] at x
        rw [e_F (fun z => by rw [k_t0 _ (show a < 32 by omega), x] at z; cases z)]
        rfl
theorem canEnter_eq {vis : Nat → Bool} {a : Nat} (ha : a < 25 ∨ a = 98 ∨ a = 99) {μ : sm_Mem} (h3 : ∀ s, s < 32 → bt (μ.1 83 3) s = (decide (s < 25) && vis s)) : fnX4_canEnter 83 (nI a) μ = some (ceB vis a, μ) := by
  unfold fnX4_canEnter ceB
  by_cases c1 : a = 98
  · rw [e_T (by rw [c1]; rfl), decide_eq_true c1]
    rfl
  · rw [e_F (show ¬ nI a = (98 : Int32) from fun z => c1 ((nI_eq (b := 98) (by omega) (by omega)).mp z)), decide_eq_false c1, Bool.false_or]
    by_cases c2 : 25 ≤ a
    · rw [e_T (show (25 : Int32) ≤ nI a from nI_le (a := 25) c2 (by omega)), decide_eq_false (by omega)]
      rfl
    · have x := h3 a (by omega)
      rw [decide_eq_true (show a < 25 by omega), Bool.true_and] at x
      rw [e_F (show ¬ (25 : Int32) ≤ nI a from nI_ge (b := 25) (by omega) (by omega)), e_gi, decide_eq_true (show a < 25 by omega), Bool.true_and]
      cases q : vis a
      · rw [q] at x
        rw [e_T ((k_t0 _ (by omega)).mpr x)]
        rfl
      · rw [q] at x
        rw [e_F (fun z => by rw [k_t0 _ (show a < 32 by omega), x] at z; cases z)]
        rfl
theorem linkHelps_eq {bb : Nat → Nat} {near far : Nat → Bool} {adj : Nat → Nat → Bool} {v : Nat} {vis : Nat → Bool} {g : Nat → Nat} {h : Nat → Nat → Nat} {μ : sm_Mem} (H : SvP bb near far adj v vis g h μ) {a b : Nat} (ha : a < 25 ∨ a = 98 ∨ a = 99) (hb : b < 25 ∨ b = 98 ∨ b = 99) : fnX2_linkHelps 76 (nI a) (nI b) μ = some (lkB vis a b, μ) := by
  obtain ⟨-, -, h3, h4⟩ := H
  have J : fnX2_linkHelps_J22 76 (nI a) (nI b) μ = some (clB vis b && !ceB vis a, μ) := by
    unfold fnX2_linkHelps_J22
    rw [lk_76_2, e_b (canLeave_eq hb h4)]
    cases clB vis b
    · rw [e_T (by decide)]
      rfl
    · rw [e_F (by decide), e_b (canEnter_eq ha h3)]
      cases ceB vis a
      · rw [e_T (by decide)]
        rfl
      · rw [e_F (by decide)]
        rfl
  unfold fnX2_linkHelps lkB
  rw [lk_76_2, e_b (canLeave_eq ha h4)]
  cases clB vis a
  · rw [e_T (by decide), J]
    rfl
  · rw [e_F (by decide), e_b (canEnter_eq hb h3)]
    cases ceB vis b
    · rw [e_T (by decide)]
      rfl
    · rw [e_F (by decide), J]
      rfl
theorem link_no {w : Nat → Nat} (hG : Good w) {vis : Nat → Bool} {a b r v v' : Nat} {E' L' : Nat → Bool} (ha : a < w 3 ∨ a = 98 ∨ a = 99) (hb : b < w 3 ∨ b = 98 ∨ b = 99) (hh : lkB vis a b = false)
    (H : MinC 25 (zB (prW w) (fun s => lf w s / 1)) (zNear (prW w) (sy w) r) (zFar (prW w) (w 1) (sy w) r) (zAdj (prW w) (sx w) (sy w) r) v vis (fun s => vis (32 + s)))
    (H' : MinC 25 (zB (prW w) (fun s => lf w s / 1)) (jNear a b (zNear (prW w) (sy w) r)) (jFar a b (zFar (prW w) (w 1) (sy w) r)) (jAdj a b (zAdj (prW w) (sx w) (sy w) r)) v' E' L') : v' = v := by
  have n := hG.1
  have le1 : v ≤ v' := by
    refine minC_le H' H ?_
    intro A B c
    refine ⟨A, B, ?_, Nat.le_refl _⟩
    intro s hs
    obtain ⟨c1, c2, c3⟩ := c s hs
    refine ⟨fun z => c1 (by unfold jNear; rw [z]; rfl), fun z => ?_, fun t ht z1 z2 => c3 t ht z1 (by unfold jAdj; rw [z2]; rfl)⟩
    have := c2 z
    unfold jFar at this
    simp only [Bool.or_eq_false_iff] at this
    exact this.1
  have le2 : v' ≤ v := by
    obtain ⟨h1, h2, -, -⟩ := H
    rw [← h2]
    apply H'.2.2.1
    unfold lkB at hh
    simp only [Bool.or_eq_false_iff] at hh
    obtain ⟨hh1, hh2⟩ := hh
    have fact : ∀ x y, ((a = x ∧ b = y) ∨ (a = y ∧ b = x)) → clB vis x = true → ceB vis y = true := by
      rintro x y (⟨rfl, rfl⟩ | ⟨rfl, rfl⟩) hc
      · cases q : ceB vis b
        · rw [hc, q] at hh1
          cases hh1
        · rfl
      · cases q : ceB vis a
        · rw [hc, q] at hh2
          cases hh2
        · rfl
    have ce : ∀ s, s < 25 → ceB vis s = vis s := by
      intro s hs
      unfold ceB
      rw [decide_eq_false (by omega), decide_eq_true hs]
      rfl
    have cl : ∀ s, s < 25 → clB vis s = vis (32 + s) := by
      intro s hs
      unfold clB
      rw [decide_eq_false (by omega), decide_eq_true hs]
      rfl
    intro s hs
    obtain ⟨c1, c2, c3⟩ := h1 s hs
    refine ⟨fun z => ?_, fun z => ?_, fun t ht z1 z2 => ?_⟩
    · unfold jNear pl2 at z
      simp only [Bool.or_eq_true, decide_eq_true_eq] at z
      rcases z with z | z
      · exact c1 z
      · rw [← ce s hs]
        exact fact 98 s (by omega) rfl
    · unfold jFar
      rw [c2 z, Bool.false_or]
      unfold pl2
      apply decide_eq_false
      intro q
      have := fact s 99 q (by rw [cl s hs]; exact z)
      have e99 : ceB vis 99 = false := by
        unfold ceB
        rw [decide_eq_false (by omega), decide_eq_false (by omega)]
        rfl
      rw [e99] at this
      cases this
    · unfold jAdj pl2 at z2
      simp only [Bool.or_eq_true, Bool.and_eq_true, decide_eq_true_eq] at z2
      rcases z2 with z2 | z2
      · exact c3 t ht z1 z2
      · rw [← ce t ht]
        exact fact s t z2.2 (by rw [cl s hs]; exact z1)
  omega
