/-! ===== WHERE ===== -/
/-- spot by spot: the best so far, and how many -/
noncomputable def whV (w : Nat → Nat) (bv r x y : Nat) : Int32 := if onB w x y = true then mI 1 else nI (moreW w x y bv r)
noncomputable def whX (w : Nat → Nat) (bv r y : Nat) : Nat → Nat → Int32 → Int32 → Int32 × Int32
  | 0, _, b, m => (b, m)
  | f + 1, x, b, m => if m < whV w bv r x y then whX w bv r y f (x + 1) (nI (x + 100 * y)) (whV w bv r x y) else whX w bv r y f (x + 1) b m
noncomputable def whY (w : Nat → Nat) (bv r : Nat) : Nat → Nat → Int32 → Int32 → Int32
  | 0, _, b, _ => b
  | f + 1, y, b, m => whY w bv r f (y + 1) (whX w bv r y (w 2) 0 b m).1 (whX w bv r y (w 2) 0 b m).2
theorem whV_no {w : Nat → Nat} {bv r x y : Nat} {m : Int32} (h : onB w x y = true) (hm : mI 1 ≤ m) : ¬ m < whV w bv r x y := by
  unfold whV
  rw [if_pos h]
  exact fun z => lt_nle z hm
theorem whV_ge {w : Nat → Nat} {bv r x y : Nat} {m : Int32} (hm : mI 1 ≤ m) (h : m < whV w bv r x y) : mI 1 ≤ whV w bv r x y := by
  rw [fa_le] at hm ⊢
  rw [fa_lt] at h
  omega
theorem where51 {k37 : Nat → Int32 → Int32 → Int32 → Int32 → Int32 → sm_M Int32} {Q : Int32 → sm_Mem → Prop} {w : Nat → Nat} (hG : Good w) {bv r y : Nat} (h9 : r ≤ 9) (hb : bv ≤ 9) (hy1 : 1 ≤ y) (hy : y < w 1) {μ0 : sm_Mem} (hW : WH 147 w μ0) (h39 : μ0.1 146 39 = mI 1) {F : Int32 × Int32}
    (ex : ∀ μ', FrN μ0 μ' → mI 1 ≤ F.2 → T (k37 146 (nI bv) (nI r) F.1 F.2 (nI (y + 1))) μ' Q) :
    ∀ (f x : Nat) (b m : Int32) (μ : sm_Mem), w 2 - x < f → x ≤ w 2 → whX w bv r y (w 2 - x) x b m = F → mI 1 ≤ m → FrN μ0 μ → T (fnX12_where_L51 k37 f 146 (nI bv) (nI r) b m (nI y) (nI x)) μ Q := by
  have n := hG.1
  have gw := good_wide hG
  have e_147 : ln 147 = 241 := rfl
  intro f
  induction f with
  | zero =>
    intro x b m μ h
    omega
  | succ f ih =>
    intro x b m μ hf hx hF hm hr
    have hW1 := (rp_fl hW hr).1
    have w2 := wh_lo hW1 (i := 2) (by omega)
    unfold fnX12_where_L51
    rw [lk_146_1, li_2, t_ai (by omega), w2]
    by_cases c1 : w 2 ≤ x
    · have : x = w 2 := by omega
      subst this
      rw [t_brT (nI_le c1 (by omega))]
      unfold fnX12_where_J119
      rw [Nat.sub_self] at hF
      have hF : (b, m) = F := hF
      subst hF
      rw [nI_1]
      exact ex μ hr hm
    · obtain ⟨k, k1, k2⟩ := stoneOn12 hW1 hG (x := x) (y := y) (by omega) (by omega)
      rw [show w 2 - x = (w 2 - (x + 1)) + 1 by omega] at hF
      have hF : (if m < whV w bv r x y then whX w bv r y (w 2 - (x + 1)) (x + 1) (nI (x + 100 * y)) (whV w bv r x y) else whX w bv r y (w 2 - (x + 1)) (x + 1) b m) = F := hF
      have J88 : ∀ μ1, FrN μ0 μ1 → T (fnX12_where_J88 k37 (fnX12_where_L51 k37 f) 146 (nI bv) (nI r) b m (nI y) (nI x) (whV w bv r x y)) μ1 Q := by
        intro μ1 hr1
        unfold fnX12_where_J88 fnX12_where_J113
        by_cases c2 : m < whV w bv r x y
        · rw [if_pos c2] at hF
          rw [t_brT c2, t_nm, li_100, pk_mul, nI_add, nI_1]
          exact ih (x + 1) _ _ μ1 (by omega) (by omega) hF (whV_ge hm c2) hr1
        · rw [if_neg c2] at hF
          rw [t_brF c2, nI_1]
          exact ih (x + 1) _ _ μ1 (by omega) (by omega) hF hm hr1
      rw [t_brF (nI_ge (by omega) (by omega)), t_bnd, t_eq k1]
      cases qo : onB w x y
      · have ev : whV w bv r x y = nI (moreW w x y bv r) := by
          unfold whV
          rw [qo, if_neg (by decide)]
        rw [t_brT (k2.mpr qo), t_bnd]
        refine t_mono (withMore12_T hG h9 (show x < w 2 by omega) (by omega) hb hW1 (by rw [hr.2.1 39 (by omega)]; exact h39)) ?_
        rintro z μ1 ⟨e1, -, e3⟩
        rw [e1, ← ev]
        exact J88 μ1 (frN_tr hr e3)
      · have ev : whV w bv r x y = (-1 : Int32) := by
          unfold whV
          rw [qo, if_pos rfl]
          rfl
        rw [t_brF (fun z => by rw [k2.mp z] at qo; cases qo), ← ev]
        exact J88 μ hr
theorem where37 {w : Nat → Nat} (hG : Good w) {bv r : Nat} (h9 : r ≤ 9) (hb : bv ≤ 9) {μ0 : sm_Mem} (hW : WH 147 w μ0) (h39 : μ0.1 146 39 = mI 1) : ∀ (f y : Nat) (b m : Int32) (μ : sm_Mem), w 1 - y < f → 1 ≤ y → y ≤ w 1 → mI 1 ≤ m → FrN μ0 μ → T (fnX12_where_L37 f 146 (nI bv) (nI r) b m (nI y)) μ (fun z μ' => z = whY w bv r (w 1 - y) y b m ∧ FrN μ0 μ') := by
  have n := hG.1
  have gw := good_wide hG
  have e_147 : ln 147 = 241 := rfl
  intro f
  induction f with
  | zero =>
    intro y b m μ h
    omega
  | succ f ih =>
    intro y b m μ hf hy1 hy hm hr
    have hW1 := (rp_fl hW hr).1
    have w1 := wh_lo hW1 (i := 1) (by omega)
    unfold fnX12_where_L37
    rw [lk_146_1, li_1, t_ai (by omega), w1]
    by_cases c1 : w 1 ≤ y
    · have : y = w 1 := by omega
      subst this
      rw [t_brT (nI_le c1 (by omega)), t_ret, Nat.sub_self]
      exact ⟨rfl, hr⟩
    · rw [t_brF (nI_ge (by omega) (by omega)), show w 1 - y = (w 1 - (y + 1)) + 1 by omega]
      refine where51 hG h9 hb hy1 (show y < w 1 by omega) hW h39 ?_ 4096 0 b m μ (by omega) (by omega) rfl hm hr
      intro μ1 hr1 hm1
      exact ih (y + 1) _ _ μ1 (by omega) (by omega) (by omega) hm1 hr1
/-! the component -/
def FrV (μ0 μ : sm_Mem) : Prop := FrC μ0 μ ∧ (∀ a, 83 ≤ a → a < 89 → μ.1 a = μ0.1 a) ∧ μ.1 76 7 = μ0.1 76 7
theorem frV_tr {μ μ1 μ2 : sm_Mem} (h : FrV μ μ1) (h' : FrV μ1 μ2) : FrV μ μ2 := ⟨frC_tr h.1 h'.1, fun a q1 q2 => (h'.2.1 a q1 q2).trans (h.2.1 a q1 q2), h'.2.2.trans h.2.2⟩
/-- what is known of the network at hand where the spots are tried -/
def WhI (w : Nat → Nat) (r bv : Nat) (v3 v6 : Int32) (μ : sm_Mem) : Prop := RH 14 w μ ∧ ((w 1 ≤ r ∧ v3 = 1 ∧ v6 = nI 999) ∨ (r < w 1 ∧ v3 = 0 ∧ v6 = nI (mostW w r 1) ∧ μ.1 76 7 = nI r ∧ ∃ g h src snk vis, Fl 25 (zB (prW w) (fun s => lf w s / 1)) (zNear (prW w) (sy w) r) (zFar (prW w) (w 1) (sy w) r) (zAdj (prW w) (sx w) (sy w) r) g src snk h ∧ fb_sm src 25 = mostW w r 1 ∧ MinC 25 (zB (prW w) (fun s => lf w s / 1)) (zNear (prW w) (sy w) r) (zFar (prW w) (w 1) (sy w) r) (zAdj (prW w) (sx w) (sy w) r) (mostW w r 1) vis (fun s => vis (32 + s)) ∧ SvP (zB (prW w) (fun s => lf w s / 1)) (zNear (prW w) (sy w) r) (zFar (prW w) (w 1) (sy w) r) (zAdj (prW w) (sx w) (sy w) r) (mostW w r 1) vis g h μ))
theorem whI_fr {w : Nat → Nat} {r bv : Nat} {v3 v6 : Int32} {μ μ' : sm_Mem} (hf : FrV μ μ') (H : WhI w r bv v3 v6 μ) : WhI w r bv v3 v6 μ' := by
  obtain ⟨h1, h2⟩ := H
  refine ⟨rh_fr (fun a q1 q2 => hf.1.1 a (by omega)) h1, ?_⟩
  rcases h2 with h2 | ⟨a1, a2, a3, a4, g, h, src, snk, vis, b1, b2, b3, b4⟩
  · exact Or.inl h2
  · exact Or.inr ⟨a1, a2, a3, hf.2.2.trans a4, g, h, src, snk, vis, b1, b2, b3, svP_fr hf.2.1 b4⟩
theorem oneMore_T {w : Nat → Nat} (hG : Good w) {x y bv r : Nat} (h9 : r ≤ 9) (hx : x < w 2) (hy : y ≤ w 1) (hb : bv ≤ 9) {v3 v6 : Int32} (hrw : r < w 1) {μ : sm_Mem} (H : WhI w r bv v3 v6 μ) : T (fnX11_mostWithOneMore 0 (nI x) (nI y) (nI bv)) μ (fun z μ' => z = nI (moreW w x y bv r) ∧ FrV μ μ') := by
  obtain ⟨hR, h2⟩ := H
  rcases h2 with ⟨z, -⟩ | ⟨a1, a2, a3, a4, g, h, src, snk, vis, b1, b2, b3, b4⟩
  · omega
  unfold fnX11_mostWithOneMore
  rw [lk_0_13, lk_0_5, t_bnd]
  refine t_mono (restore_T b4) ?_
  rintro - μ1 ⟨c1, c2, c3, c4⟩
  refine t_mono (putfill_T hG h9 hx hy hb hrw (rh_fr (fun a q1 q2 => c3 a (by omega)) hR) (by rw [c3 76 (by omega)]; exact a4) b1 c2 (by rw [b2]; exact c1)) ?_
  rintro z μ2 ⟨d1, -, -, d4, d5, d6⟩
  refine ⟨d1, ⟨fun a q => (d4.1 a q).trans (c3 a (by omega)), d4.2.trans c4⟩, fun a q1 q2 => (d5 a q1 q2).trans (c3 a (by omega)), ?_⟩
  rw [d6, a4]
theorem where88 {k73 : Nat → Int32 → Int32 → Int32 → Int32 → Int32 → Int32 → sm_M Int32} {Q : Int32 → sm_Mem → Prop} {w : Nat → Nat} (hG : Good w) {bv r y : Nat} (h9 : r ≤ 9) (hb : bv ≤ 9) (hy1 : 1 ≤ y) (hy : y < w 1) (hmc : ∀ x y, x < w 2 → y < w 1 → r < w 1 → ∃ E L, MinC 25 (zB (prP w 24) (up (fun s => lf w s / 1) 24 bv)) (zNear (prP w 24) (up (sy w) 24 y) r) (zFar (prP w 24) (w 1) (up (sy w) 24 y) r) (zAdj (prP w 24) (up (sx w) 24 x) (up (sy w) 24 y) r) (moreW w x y bv r) E L) {v3 v6 : Int32} {μ0 : sm_Mem} (HI : WhI w r bv v3 v6 μ0) {F : Int32 × Int32}
    (ex : ∀ μ', FrV μ0 μ' → mI 1 ≤ F.2 → T (k73 0 (nI bv) v3 F.1 F.2 v6 (nI (y + 1))) μ' Q) :
    ∀ (f x : Nat) (b m : Int32) (μ : sm_Mem), w 2 - x < f → x ≤ w 2 → whX w bv r y (w 2 - x) x b m = F → mI 1 ≤ m → FrV μ0 μ → T (fnX11_where_L88 k73 f 0 (nI bv) v3 b m v6 (nI y) (nI x)) μ Q := by
  have n := hG.1
  have gw := good_wide hG
  intro f
  induction f with
  | zero =>
    intro x b m μ h
    omega
  | succ f ih =>
    intro x b m μ hf hx hF hm hr
    have HI1 := whI_fr hr HI
    have hR := HI1.1
    unfold fnX11_where_L88
    rw [lk_0_5, lk_0_13, t_gi, hR.1.2.2.1]
    by_cases c1 : w 2 ≤ x
    · have : x = w 2 := by omega
      subst this
      rw [t_brT (nI_le c1 (by omega))]
      unfold fnX11_where_J195
      rw [Nat.sub_self] at hF
      have hF : (b, m) = F := hF
      subst hF
      rw [nI_1]
      exact ex μ hr hm
    · obtain ⟨k, k1, k2⟩ := stoneAt7 hR hG (x := x) (y := y) (by omega) (by omega)
      rw [show w 2 - x = (w 2 - (x + 1)) + 1 by omega] at hF
      have hF : (if m < whV w bv r x y then whX w bv r y (w 2 - (x + 1)) (x + 1) (nI (x + 100 * y)) (whV w bv r x y) else whX w bv r y (w 2 - (x + 1)) (x + 1) b m) = F := hF
      rw [t_brF (nI_ge (by omega) (by omega)), t_bnd, t_eq k1]
      cases qo : onB w x y
      · have ev : whV w bv r x y = nI (moreW w x y bv r) := by
          unfold whV
          rw [qo, if_neg (by decide)]
        have J166 : ∀ μ1, FrV μ0 μ1 → T (fnX11_where_J166 k73 (fnX11_where_L88 k73 f) 0 (nI bv) v3 b m v6 (nI y) (nI x) (whV w bv r x y)) μ1 Q := by
          intro μ1 hr1
          unfold fnX11_where_J166 fnX11_where_J189
          by_cases c2 : m < whV w bv r x y
          · rw [if_pos c2] at hF
            rw [t_brF (lt_nle c2), t_nm, li_100, pk_mul, nI_add, nI_1]
            exact ih (x + 1) _ _ μ1 (by omega) (by omega) hF (whV_ge hm c2) hr1
          · rw [if_neg c2] at hF
            rw [t_brT (nlt_le c2), nI_1]
            exact ih (x + 1) _ _ μ1 (by omega) (by omega) hF hm hr1
        rw [t_brT (k2.mpr qo)]
        rcases HI1.2 with ⟨z1, z2, z3⟩ | ⟨a1, a2, a3, a4, g, h, src, snk, vis, b1, b2, b3, b4⟩
        · unfold fnX11_where_J144 fnX11_where_J145
          have e6 : v6 = whV w bv r x y := by
            rw [z3, ev]
            unfold moreW
            rw [if_pos z1]
          rw [t_brF (by rw [z2]; decide), t_brT rfl]
          have := J166 μ hr
          rw [← e6] at this
          exact this
        · rw [t_brT a2, t_bnd, t_eq (stoneHelps_eq hR hG (show x ≤ 20 by omega) (show y ≤ w 1 by omega) h9 a4 b4)]
          cases hh : hlpB w vis x y r
          · obtain ⟨E', L', mc⟩ := hmc x y (by omega) hy a1
            have e6 : v6 = whV w bv r x y := by
              rw [a3, ev, help_no hG hh b3 mc]
            unfold fnX11_where_J144 fnX11_where_J145
            rw [t_brT (by decide), t_brT rfl]
            have := J166 μ hr
            rw [← e6] at this
            exact this
          · unfold fnX11_where_J145
            rw [t_brF (by decide), t_brF (by decide), t_bnd]
            refine t_mono (oneMore_T hG h9 (show x < w 2 by omega) (show y ≤ w 1 by omega) hb a1 HI1) ?_
            rintro z μ1 ⟨e1, e2⟩
            rw [e1, ← ev]
            exact J166 μ1 (frV_tr hr e2)
      · rw [if_neg (whV_no qo hm)] at hF
        unfold fnX11_where_J189
        rw [t_brF (fun z => by rw [k2.mp z] at qo; cases qo), nI_1]
        exact ih (x + 1) _ _ μ (by omega) (by omega) hF hm hr
theorem where73 {w : Nat → Nat} (hG : Good w) {bv r : Nat} (h9 : r ≤ 9) (hb : bv ≤ 9) (hmc : ∀ x y, x < w 2 → y < w 1 → r < w 1 → ∃ E L, MinC 25 (zB (prP w 24) (up (fun s => lf w s / 1) 24 bv)) (zNear (prP w 24) (up (sy w) 24 y) r) (zFar (prP w 24) (w 1) (up (sy w) 24 y) r) (zAdj (prP w 24) (up (sx w) 24 x) (up (sy w) 24 y) r) (moreW w x y bv r) E L) {v3 v6 : Int32} {μ0 : sm_Mem} (HI : WhI w r bv v3 v6 μ0) :
    ∀ (f y : Nat) (b m : Int32) (μ : sm_Mem), w 1 - y < f → 1 ≤ y → y ≤ w 1 → mI 1 ≤ m → FrV μ0 μ → T (fnX11_where_L73 f 0 (nI bv) v3 b m v6 (nI y)) μ (fun z μ' => z = whY w bv r (w 1 - y) y b m ∧ FrV μ0 μ') := by
  have gw := good_wide hG
  intro f
  induction f with
  | zero =>
    intro y b m μ h
    omega
  | succ f ih =>
    intro y b m μ hf hy1 hy hm hr
    have hR := (whI_fr hr HI).1
    unfold fnX11_where_L73
    rw [lk_0_5, t_gi, hR.1.2.1]
    by_cases c1 : w 1 ≤ y
    · have : y = w 1 := by omega
      subst this
      rw [t_brT (nI_le c1 (by omega)), t_ret, Nat.sub_self]
      exact ⟨rfl, hr⟩
    · rw [t_brF (nI_ge (by omega) (by omega)), show w 1 - y = (w 1 - (y + 1)) + 1 by omega]
      refine where88 hG h9 hb hy1 (show y < w 1 by omega) hmc HI ?_ 4096 0 b m μ (by omega) (by omega) rfl hm hr
      intro μ1 hr1 hm1
      exact ih (y + 1) _ _ μ1 (by omega) (by omega) (by omega) hm1 hr1
theorem op_where (u v : Int32) : op2 Inv (fnX11_where 0 u v) (fnX12_where 146 u v) := by
  apply op_two
  intro w μ hC hO
  obtain ⟨hG, hR, hS, hW, hL, hT, hSl, hI', hF⟩ := id hC
  have gw := good_wide hG
  unfold fnX11_where fnX12_where
  cases q0 : decide (0 < w 0)
  · refine ⟨-2, w, same_rf w, hG, ?_, ?_⟩
    · rw [t_bnd, t_eq (isStride11 hR hG _), q0, Bool.false_and, t_brT (by decide), t_ret]
      exact ⟨rfl, cp_rf hS⟩
    · intro μ1 _ _ hW1
      rw [t_bnd, t_eq (isRiver12 hW1 hG), q0, t_brT (by decide), t_ret]
      exact ⟨rfl, rp_rf hW1⟩
  cases qa : (rg v 1 9 && rg u 1 9)
  · refine ⟨-2, w, same_rf w, hG, ?_, ?_⟩
    · rw [t_bnd, t_eq (isStride11 hR hG _), q0, Bool.true_and]
      cases q1 : rg v 1 9
      · rw [t_brT (by decide), t_ret]
        exact ⟨rfl, cp_rf hS⟩
      rw [q1, Bool.true_and] at qa
      rw [t_brF (by decide), t_bnd, t_eq (isLoad11 _ _), qa, t_brT (by decide), t_ret]
      exact ⟨rfl, cp_rf hS⟩
    · intro μ1 _ _ hW1
      rw [t_bnd, t_eq (isRiver12 hW1 hG), q0, t_brF (by decide), t_bnd, t_eq (in_eq _ _ _ _), t64_1, t64_9]
      cases q2 : rg u 1 9
      · rw [t_brT (by decide), t_ret]
        exact ⟨rfl, rp_rf hW1⟩
      rw [q2, Bool.and_true] at qa
      rw [t_brF (by decide), t_bnd, t_eq (isStride12 _ _), qa, t_brT (by decide), t_ret]
      exact ⟨rfl, rp_rf hW1⟩
  simp only [Bool.and_eq_true] at qa
  obtain ⟨r, r1, r2, rfl⟩ := rg_nat (a := 1) (b := 9) qa.1 (by omega)
  obtain ⟨bv, b1, b2, rfl⟩ := rg_nat (a := 1) (b := 9) qa.2 (by omega)
  have w0 := of_decide_eq_true q0
  have hmc : ∀ x y, x < w 2 → y < w 1 → r < w 1 → ∃ E L, MinC 25 (zB (prP w 24) (up (fun s => lf w s / 1) 24 bv)) (zNear (prP w 24) (up (sy w) 24 y) r) (zFar (prP w 24) (w 1) (up (sy w) 24 y) r) (zAdj (prP w 24) (up (sx w) 24 x) (up (sy w) 24 y) r) (moreW w x y bv r) E L := by
    intro x y hx hy hrw
    obtain ⟨z, μ', -, -, m, -⟩ := withMore12_T (x := x) (y := y) (bv := bv) hG r2 hx (by omega) b2 hW hF.2.1
    exact m hrw
  have w1 : 1 ≤ w 1 := by have := gw.1; omega
  refine ⟨whY w bv r (w 1 - 1) 1 (-1) (-1), w, same_rf w, hG, ?_, ?_⟩
  · rw [t_bnd, t_eq (isStride11 hR hG _), q0, qa.1, t_brF (by decide), t_bnd, t_eq (isLoad11 _ _), qa.2, t_brF (by decide), lk_0_5, t_gi, hR.1.2.1]
    have J61 : ∀ (v3 v6 : Int32) (μ1 : sm_Mem), FrC μ μ1 → (∀ Q : Unit → sm_Mem → Prop, (∀ μ2, WhI w r bv v3 v6 μ2 → (∀ c, (c < 83 ∨ 89 ≤ c) → μ2.1 c = μ1.1 c) → μ2.2 = μ1.2 → Q () μ2) → T (fnX2_save 76) μ1 Q) → T (fnX11_where_J61 0 (nI bv) v3 (-1 : Int32) (-1 : Int32) v6) μ1 (fun z μ' => z = whY w bv r (w 1 - 1) 1 (-1) (-1) ∧ CP w w μ μ') := by
      intro v3 v6 μ1 f1 hs
      unfold fnX11_where_J61
      rw [lk_0_13, t_bnd]
      apply hs
      intro μ2 HI s1 s2
      refine t_mono (where73 hG r2 b2 hmc HI 4096 1 (-1) (-1) μ2 (by omega) (by omega) w1 (by decide) ⟨frC_rf μ2, fun _ _ _ => rfl, rfl⟩) ?_
      rintro z μ3 ⟨e1, e2⟩
      refine ⟨e1, cp_fl hS (frC_tr f1 (frC_tr ⟨fun a q => s1 a (by omega), s2⟩ e2.1))⟩
    by_cases hrw : r < w 1
    · rw [t_brT (nI_lt hrw (by omega))]
      unfold fnX11_where_J34
      rw [t_brT rfl, lk_0_6, li_1, t_bnd]
      refine t_mono (mostOf11_T sc_24 hG r1 r2 (by omega) (by omega) hR hS hL) ?_
      rintro x μ1 ⟨rfl, -, a3, a4⟩
      obtain ⟨-, ⟨g, h, src, snk, vis, n1, n2, n3, n4, n5, n6, n7, n8⟩, n9⟩ := a3 hrw
      refine J61 0 _ μ1 a4 ?_
      intro Q hQ
      refine t_mono (save_T n4 n5 n7 n8) ?_
      rintro - μ2 ⟨s1, s2, s3⟩
      exact hQ μ2 ⟨rh_fr (fun a q1 q2 => (s2 a (by omega)).trans (a4.1 a (by omega))) hR, Or.inr ⟨hrw, rfl, rfl, by rw [s2 76 (by omega)]; exact n9, g, h, src, snk, vis, n1, n2, n6, s1⟩⟩ s2 s3
    · rw [t_brF (nI_nlt (by omega) (by omega))]
      unfold fnX11_where_J34
      rw [t_brF (by decide)]
      refine J61 1 _ μ (frC_rf μ) ?_
      intro Q hQ
      unfold fnX2_save
      rw [lk_76_1, lk_76_2, t_bnd]
      refine t_mono (takeFrom4_T (Or.inr ⟨rfl, rfl⟩)) ?_
      rintro - μ2 ⟨-, -, -, s4, s5⟩
      rw [t_ret]
      exact hQ μ2 ⟨rh_fr (fun a q1 q2 => s4 a (by omega)) hR, Or.inl ⟨by omega, rfl, rfl⟩⟩ s4 s5
  · intro μ1 h1 h2 hW1
    have h39 : μ1.1 146 39 = mI 1 := by rw [h1 146 (by omega)]; exact hF.2.1
    rw [t_bnd, t_eq (isRiver12 hW1 hG), q0, t_brF (by decide), t_bnd, t_eq (in_eq _ _ _ _), t64_1, t64_9, qa.2, t_brF (by decide), t_bnd, t_eq (isStride12 _ _), qa.1, t_brF (by decide)]
    refine t_mono (where37 hG r2 b2 hW1 h39 4096 1 (-1) (-1) μ1 (by omega) (by omega) w1 (by decide) (frN_rf μ1)) ?_
    rintro z μ2 ⟨e1, e2⟩
    exact ⟨e1, rp_fl hW1 e2⟩
