/-! ===== CHANCES: the component ===== -/
def rkW (w : Nat → Nat) (wt s : Nat) : Bool := opn w wt s && (dbt w s && decide (1 < w (16 + 7 * s) + wt))
def dN (w : Nat → Nat) (s : Nat) : Nat := w (14 + 7 * s)
noncomputable def sureW (w : Nat → Nat) (r wt : Nat) : Nat := if w 1 ≤ r then 1000000000 else Classical.epsilon (fun v => SurP w (opn w wt) (rkW w wt) (dN w) r v)
theorem sureW_eq {w : Nat → Nat} {r wt v : Nat} (hr : ¬ w 1 ≤ r) (h : SurP w (opn w wt) (rkW w wt) (dN w) r v) : sureW w r wt = v := by
  unfold sureW
  rw [if_neg hr]
  exact surP_one (Classical.epsilon_spec (p := fun v => SurP w (opn w wt) (rkW w wt) (dN w) r v) ⟨v, h⟩) h
theorem rk_4 {w : Nat → Nat} (hG : Good w) (wt : Nat) : fb_ct (rkW w wt) (w 3) ≤ 4 := by
  refine Nat.le_trans (fb_ct_sub ?_) hG.2.2.2.2.2.1
  intro k _ h
  unfold rkW dbt at h
  simp only [Bool.and_eq_true, decide_eq_true_eq] at h
  exact decide_eq_true h.2.1.1
theorem dN_99 {w : Nat → Nat} (hG : Good w) : ∀ s, s < w 3 → dN w s ≤ 99 := by
  intro s hs
  have := hG.2.2.2.1 s hs
  unfold dN
  omega
theorem bt_nI {d i : Nat} (hi : i < 32) : bt (nI d) i = d.testBit i := by
  unfold bt
  show (BitVec.ofNat 32 d).getLsbD i = _
  rw [BitVec.getLsbD_ofNat, decide_eq_true hi, Bool.true_and]
theorem gather_L {c : Nat} (hc : isSc c) {w : Nat → Nat} (hG : Good w) {wt : Nat} (hw2 : wt < 100) {μ0 : sm_Mem} (hR : RH 14 w μ0) (hS : SH c w μ0) :
    ∀ (f s : Nat) (μ : sm_Mem), w 3 - s < f → s ≤ w 3 → μ.1 74 2 = nI (fb_ct (rkW w wt) s) → (∀ t, t < s → rkW w wt t = true → μ.1 75 (fb_ct (rkW w wt) t) = nI t) → (∀ a, a ≠ 74 → a ≠ 75 → μ.1 a = μ0.1 a) → μ.2 = μ0.2 →
    T (fnX1_gather_L8 f 74 c (mk (opn w wt) (w 3)) (nI wt) (nI s)) μ (fun _ μ' => μ'.1 74 2 = nI (fb_ct (rkW w wt) (w 3)) ∧ (∀ t, t < w 3 → rkW w wt t = true → μ'.1 75 (fb_ct (rkW w wt) t) = nI t) ∧ (∀ a, a ≠ 74 → a ≠ 75 → μ'.1 a = μ0.1 a) ∧ μ'.2 = μ0.2) := by
  obtain ⟨k0, k2, k3, k4, l1, l2, l3⟩ := sc_lk hc
  have n := hG.1
  have r4c := rk_4 hG wt
  have e_75 : ln 75 = 4 := rfl
  have hcc : c + 4 ≤ 74 ∨ 76 ≤ c := by
    unfold isSc at hc
    simp only [List.mem_cons, List.not_mem_nil, or_false] at hc
    omega
  intro f
  induction f with
  | zero =>
    intro s μ h
    omega
  | succ f ih =>
    intro s μ hf hs h2 h75 ho hm
    have hR1 : RH 14 w μ := rh_fr (fun a q1 q2 => ho a (by omega) (by omega)) hR
    have hS1 : SH c w μ := sh_fr (fun a q1 q2 => ho a (by omega) (by omega)) hS
    unfold fnX1_gather_L8 fnX1_gather_J80
    rw [k0, t_gi, hR1.1.2.2.2.2.1]
    by_cases c1 : w 3 ≤ s
    · have : s = w 3 := by omega
      subst this
      rw [t_brT (nI_le c1 (by omega)), t_ret]
      exact ⟨h2, h75, ho, hm⟩
    · have mono := fb_ct_mono (rkW w wt) (show s ≤ w 3 by omega)
      rw [t_brF (nI_ge (by omega) (by omega)), t_gi, h2]
      by_cases c4 : 4 ≤ fb_ct (rkW w wt) s
      · rw [t_brT (show (4 : Int32) ≤ nI (fb_ct (rkW w wt) s) from nI_le (a := 4) c4 (by omega)), t_ret]
        refine ⟨by rw [h2]; congr 1; omega, ?_, ho, hm⟩
        intro t ht hr
        by_cases ct : t < s
        · exact h75 t ct hr
        · exfalso
          have a := ct_lt_of ht hr
          have b := fb_ct_mono (rkW w wt) (show s ≤ t by omega)
          omega
      · have hbit : bt (mk (opn w wt) (w 3)) s = opn w wt s := opn_mk hG wt s (by omega)
        have skip : rkW w wt s = false → T (fnX1_gather_L8 f 74 c (mk (opn w wt) (w 3)) (nI wt) (nI (s + 1))) μ (fun _ μ' => μ'.1 74 2 = nI (fb_ct (rkW w wt) (w 3)) ∧ (∀ t, t < w 3 → rkW w wt t = true → μ'.1 75 (fb_ct (rkW w wt) t) = nI t) ∧ (∀ a, a ≠ 74 → a ≠ 75 → μ'.1 a = μ0.1 a) ∧ μ'.2 = μ0.2) := by
          intro hr
          refine ih (s + 1) μ (by omega) (by omega) ?_ ?_ ho hm
          · rw [h2, fb_ct_succ, hr]
            rfl
          · intro t ht hrt
            by_cases ct : t = s
            · rw [ct, hr] at hrt
              cases hrt
            · exact h75 t (by omega) hrt
        rw [t_brF (show ¬ (4 : Int32) ≤ nI (fb_ct (rkW w wt) s) from nI_ge (b := 4) (by omega) (by omega)), nI_1]
        cases q1 : opn w wt s
        · rw [t_brT ((k_t0 _ (by omega)).mpr (by rw [hbit]; exact q1))]
          exact skip (by unfold rkW; rw [q1]; rfl)
        · rw [t_brF (fun z => by rw [k_t0 _ (show s < 32 by omega), hbit, q1] at z; cases z), t_bnd, t_eq (inDoubt_eq hR1 hS1 hc hG (by omega))]
          cases q2 : dbt w s
          · rw [t_brT (by decide)]
            exact skip (by unfold rkW; rw [q2, Bool.false_and, Bool.and_false])
          · have g := hG.2.2.2.1 s (by omega)
            rw [t_brF (by decide), k2, t_ai (by omega), hS1.2.1 s (by omega), nI_add]
            by_cases q3 : w (16 + 7 * s) + wt ≤ 1
            · rw [t_brT (show nI (w (16 + 7 * s) + wt) ≤ (1 : Int32) from nI_le (b := 1) q3 (by omega))]
              exact skip (by unfold rkW; rw [decide_eq_false (show ¬ 1 < w (16 + 7 * s) + wt by omega), Bool.and_false, Bool.and_false])
            · have hr : rkW w wt s = true := by
                unfold rkW
                rw [q1, q2, decide_eq_true (show 1 < w (16 + 7 * s) + wt by omega)]
                rfl
              have x2 : (u2 μ.1 75 (fb_ct (rkW w wt) s) (nI s), μ.2).1 74 2 = nI (fb_ct (rkW w wt) s) := by
                rw [← h2]
                simp (disch := omega) only [u2_ne, u2_a, u2_k, u2_at]
              rw [t_brF (show ¬ nI (w (16 + 7 * s) + wt) ≤ (1 : Int32) from nI_ge (a := 1) (by omega) (by omega)), t_gi, h2, lk_74_1, t_sai (by omega), t_gi, x2, nI_1, t_si]
              refine ih (s + 1) _ (by omega) (by omega) ?_ ?_ ?_ hm
              · rw [fb_ct_succ, hr]
                simp (disch := omega) only [u2_ne, u2_a, u2_k, u2_at]
                rfl
              · intro t ht hrt
                by_cases ct : t = s
                · subst ct
                  simp (disch := omega) only [u2_ne, u2_a, u2_k, u2_at]
                · have lt := ct_lt_of (show t < s by omega) hrt
                  rw [← h75 t (by omega) hrt]
                  simp (disch := omega) only [u2_ne, u2_a, u2_k, u2_at]
              · intro a a1 a2
                rw [← ho a a1 a2]
                simp (disch := omega) only [u2_ne, u2_a, u2_k, u2_at]
theorem crosses_eq {w : Nat → Nat} {op : Nat → Bool} {r : Nat} {om : Int32} {μ : sm_Mem} (hL : LKS w μ) (hG : Good w) (hr : 1 ≤ r) (hr9 : r ≤ 9) (hom : ∀ i, i < 32 → bt om i = (decide (i < w 3) && op i)) : ∃ x, fnX3_crosses 32 om (nI r) μ = some (x, μ) ∧ (x = true ↔ ∃ s, s < w 3 ∧ stp w s 99 r = true ∧ rch w op r s = true) := by
  have n := hG.1
  have e_34 : ln 34 = 10 := rfl
  have far : ∀ s, s < w 3 → bt (μ.1 34 r) s = stp w s 99 r := fun s hs => by
    rw [(hL r hr hr9 s (by omega)).2.1, decide_eq_true hs]
    rfl
  have ac := and_ct hG (p := rch w op r) (q := fun s => stp w s 99 r) (m := μ.1 34 r) far
  unfold fnX3_crosses
  rw [e_b (flood_eq hL hG hr hr9 hom), lk_32_1, e_ai (by omega)]
  by_cases c : 0 < fb_ct (fun s => rch w op r s && stp w s 99 r) (w 3)
  · rw [e_F (fun z => ac.mp z c)]
    refine ⟨true, rfl, fun _ => ?_, fun _ => rfl⟩
    obtain ⟨k, hk, e⟩ := fb_ct_pos.mp c
    simp only [Bool.and_eq_true] at e
    exact ⟨k, hk, e.2, e.1⟩
  · rw [e_T (ac.mpr c)]
    refine ⟨false, rfl, fun z => (by cases z), ?_⟩
    rintro ⟨s, hs, h1, h2⟩
    exact absurd (fb_ct_pos.mpr ⟨s, hs, by rw [h1, h2]; rfl⟩) c
/-- so many of the doubtful ones have been looked at -/
def dUp (rk : Nat → Bool) (d i s : Nat) : Bool := dOf rk d s && decide (fb_ct rk s < i)
def aUp (op rk : Nat → Bool) (d i s : Nat) : Bool := op s && (!(rk s && decide (fb_ct rk s < i)) || dOf rk d s)
theorem l100 : (100 : Int64) = lN 100 := rfl
theorem chance59 {c : Nat} (hc : isSc c) {k36 : Nat → Nat → Int32 → Int32 → Int64 → Int32 → sm_M Int64} {Q : Int64 → sm_Mem → Prop} {w : Nat → Nat} (hG : Good w) {wt d : Nat} (hw2 : wt < 100) (hd : d < 16) {v2 v4 : Int32} {v5 : Int64} {μ : sm_Mem} (hR : RH 14 w μ) (h2 : μ.1 74 2 = nI (fb_ct (rkW w wt) (w 3))) (h75 : ∀ t, t < w 3 → rkW w wt t = true → μ.1 75 (fb_ct (rkW w wt) t) = nI t)
    (ex : ∀ m : Int32, (∀ s, s < 32 → bt m s = (decide (s < w 3) && alw (opn w wt) (rkW w wt) (dOf (rkW w wt) d) s)) → T (fnX1_chance_J131 k36 74 c v2 v4 v5 (nI d) (lN (HD (w 3) (rkW w wt) (dN w) (dOf (rkW w wt) d))) m) μ Q) :
    ∀ (f i : Nat) (m : Int32), fb_ct (rkW w wt) (w 3) - i < f → i ≤ fb_ct (rkW w wt) (w 3) → (∀ s, s < 32 → bt m s = (decide (s < w 3) && aUp (opn w wt) (rkW w wt) d i s)) → T (fnX1_chance_L59 k36 f 74 c v2 v4 v5 (nI d) (lN (HD (w 3) (rkW w wt) (dN w) (dUp (rkW w wt) d i))) m (nI i)) μ Q := by
  obtain ⟨k0, -, -, -, -, -, -⟩ := sc_lk hc
  have n := hG.1
  have r4c := rk_4 hG wt
  have e_75 : ln 75 = 4 := rfl
  have e_19 : ln 19 = 24 := rfl
  intro f
  induction f with
  | zero =>
    intro i m h
    omega
  | succ f ih =>
    intro i m hf hi hm
    unfold fnX1_chance_L59
    rw [t_gi, h2]
    by_cases c1 : fb_ct (rkW w wt) (w 3) ≤ i
    · have e1 : HD (w 3) (rkW w wt) (dN w) (dUp (rkW w wt) d i) = HD (w 3) (rkW w wt) (dN w) (dOf (rkW w wt) d) := by
        apply hd_cong
        intro s hs hr
        have := ct_lt_of hs hr
        unfold dUp
        rw [decide_eq_true (by omega), Bool.and_true]
      rw [t_brT (nI_le c1 (by omega)), e1]
      refine ex m ?_
      intro s hs
      rw [hm s hs]
      by_cases c : s < w 3
      · rw [decide_eq_true c, Bool.true_and, Bool.true_and]
        unfold aUp alw
        cases hr : rkW w wt s
        · simp
        · have := ct_lt_of c hr
          rw [decide_eq_true (show fb_ct (rkW w wt) s < i by omega)]
          simp
      · rw [decide_eq_false c]
        rfl
    · obtain ⟨s, hs, hr, hid⟩ := fb_ct_kth (p := rkW w wt) (k := i) (n := w 3) (by omega)
      have x75 := h75 s hs hr
      rw [hid] at x75
      have x19 : μ.1 19 s = nI (dN w s) := (hR.2.2.2.1 s hs).2.2.2.2
      have d99 := dN_99 hG s hs
      unfold fnX1_chance_J125
      rw [t_brF (nI_ge (by omega) (by omega)), nI_1, lk_74_1, k0, lk_14_12]
      have dof : dOf (rkW w wt) d s = d.testBit i := by
        unfold dOf
        rw [hr, hid]
        rfl
      cases hb : d.testBit i
      · rw [t_brT ((k_t0 _ (by omega)).mpr (by rw [bt_nI (by omega)]; exact hb)), t_ai (by omega), x75, t_nm]
        have e2 : HD (w 3) (rkW w wt) (dN w) (dUp (rkW w wt) d i) = HD (w 3) (rkW w wt) (dN w) (dUp (rkW w wt) d (i + 1)) := by
          apply hd_cong
          intro t ht hrt
          unfold dUp
          by_cases ct : fb_ct (rkW w wt) t = i
          · have : t = s := fb_ct_kth_one hrt hr (by rw [ct, hid])
            rw [this, dof, hb]
            rfl
          · congr 1
            apply decide_eq_decide.mpr
            omega
        rw [e2]
        refine ih (i + 1) _ (by omega) (by omega) ?_
        intro t ht
        rw [b_and, k_not _ ht, k_1 s (by omega) t ht, hm t ht]
        by_cases c3 : t < w 3
        · rw [decide_eq_true c3, Bool.true_and, Bool.true_and]
          unfold aUp
          by_cases ct : t = s
          · subst ct
            rw [hr, hid, dof, hb]
            simp
          · rw [decide_eq_false ct]
            have hne : rkW w wt t = true → fb_ct (rkW w wt) t ≠ i := fun hrt z => ct (fb_ct_kth_one hrt hr (by rw [z, hid]))
            cases hrt : rkW w wt t
            · simp
            · have := hne hrt
              rw [show decide (fb_ct (rkW w wt) t < i + 1) = decide (fb_ct (rkW w wt) t < i) from decide_eq_decide.mpr (by omega)]
              simp
        · rw [decide_eq_false c3]
          rfl
      · have h9 := hd_le (N := dN w) r4c (dUp (rkW w wt) d i)
        have nD : dUp (rkW w wt) d i s = false := by
          unfold dUp
          rw [hid, decide_eq_false (by omega), Bool.and_false]
        have e2 : HD (w 3) (rkW w wt) (dN w) (adD (dUp (rkW w wt) d i) s) = HD (w 3) (rkW w wt) (dN w) (dUp (rkW w wt) d (i + 1)) := by
          apply hd_cong
          intro t ht hrt
          unfold dUp adD
          by_cases ct : fb_ct (rkW w wt) t = i
          · have : t = s := fb_ct_kth_one hrt hr (by rw [ct, hid])
            rw [this, dof, hb, hid]
            simp
          · have ne : ¬ t = s := fun z => ct (by rw [z, hid])
            rw [decide_eq_false ne, Bool.or_false]
            show (dOf (rkW w wt) d t && decide (fb_ct (rkW w wt) t < i)) = _
            congr 1
            apply decide_eq_decide.mpr
            omega
        have ev : HD (w 3) (rkW w wt) (dN w) (dUp (rkW w wt) d i) * (100 - dN w s) / 100 = HD (w 3) (rkW w wt) (dN w) (dUp (rkW w wt) d (i + 1)) := by
          rw [← e2, ← on_hd hs hr nD]
          unfold onv
          rw [if_pos hr]
        have bnd : HD (w 3) (rkW w wt) (dN w) (dUp (rkW w wt) d i) * (100 - dN w s) ≤ 1000000000 * 100 := Nat.mul_le_mul h9 (by omega)
        rw [t_brF (fun z => by rw [k_t0 _ (show i < 32 by omega), bt_nI (by omega), hb] at z; cases z), t_ai (by omega), x75, t_ai (by omega), x19, t_gd (by decide), t_nm, li_100, pk_sub (by omega), nI_l (by omega), lN_mul, l100, pk_lDiv (by omega) (by omega) (by omega), ev]
        refine ih (i + 1) m (by omega) (by omega) ?_
        intro t ht
        rw [hm t ht]
        by_cases c3 : t < w 3
        · rw [decide_eq_true c3, Bool.true_and, Bool.true_and]
          unfold aUp
          by_cases ct : t = s
          · subst ct
            rw [hr, hid, dof, hb]
            simp
          · have hne : rkW w wt t = true → fb_ct (rkW w wt) t ≠ i := fun hrt z => ct (fb_ct_kth_one hrt hr (by rw [z, hid]))
            cases hrt : rkW w wt t
            · simp
            · have := hne hrt
              rw [show decide (fb_ct (rkW w wt) t < i + 1) = decide (fb_ct (rkW w wt) t < i) from decide_eq_decide.mpr (by omega)]
        · rw [decide_eq_false c3]
          rfl
