/-! ===== RUN, RUNS ===== -/
def lcg (x : Nat) : Nat := (1103515245 * x + 12345) % 2147483648
def drw (x : Nat) : Nat := x / 65536 % 100
def drn (w : Nat → Nat) (x : Nat) : Nat → Nat × (Nat → Bool)
  | 0 => (x, fun _ => false)
  | s + 1 => if dbt w s = true then (lcg (drn w x s).1, fun k => (drn w x s).2 k || (decide (k = s) && decide (drw (lcg (drn w x s).1) < w (14 + 7 * s)))) else drn w x s
theorem lcg_lt (x : Nat) : lcg x < 2147483648 := Nat.mod_lt _ (by omega)
theorem drn_lt {w : Nat → Nat} {x : Nat} (hx : x < 2147483648) : ∀ s, (drn w x s).1 < 2147483648 := by
  intro s
  induction s with
  | zero => exact hx
  | succ s ih =>
    rw [drn]
    split
    · exact lcg_lt _
    · exact ih
theorem drn_no {w : Nat → Nat} {x : Nat} : ∀ s k, s ≤ k → (drn w x s).2 k = false := by
  intro s
  induction s with
  | zero =>
    intro k _
    rfl
  | succ s ih =>
    intro k hk
    rw [drn]
    split
    · show ((drn w x s).2 k || (decide (k = s) && _)) = false
      rw [ih k (by omega), decide_eq_false (by omega)]
      rfl
    · exact ih k (by omega)
theorem lcg_L {x : Nat} (hx : x < 2147483648) : (((1103515245 : Int64) * lN x) + (12345 : Int64)) - (((1103515245 : Int64) * lN x) + (12345 : Int64)) / (2147483648 : Int64) * (2147483648 : Int64) = lN (lcg x) := by
  have e1 : (1103515245 : Int64) = lN 1103515245 := rfl
  have e2 : (12345 : Int64) = lN 12345 := rfl
  have e3 : (2147483648 : Int64) = lN 2147483648 := rfl
  rw [e1, e2, e3, lN_mul, lN_add, pk_lRem (by omega) (by omega) (by omega)]
  rfl
theorem drw_L {x : Nat} (hx : x < 2147483648) : (lN x / (65536 : Int64)) - (lN x / (65536 : Int64)) / (100 : Int64) * (100 : Int64) = lN (drw x) := by
  have e1 : (65536 : Int64) = lN 65536 := rfl
  rw [e1, l100, pk_lDiv (by omega) (by omega) (by omega), pk_lRem (by omega) (by omega) (by omega)]
  rfl
theorem drw_lt (x : Nat) : drw x < 100 := Nat.mod_lt _ (by omega)
theorem drawn_L {w : Nat → Nat} (hG : Good w) {x : Nat} (hx : x < 2147483648) {μ : sm_Mem} (hR : RH 14 w μ) (hS : SH 24 w μ) : ∀ (f s : Nat) (m : Int32), w 3 - s < f → s ≤ w 3 → (∀ k, k < 32 → bt m k = (drn w x s).2 k) → T (fnX9_drawn_L9 f 24 (lN (drn w x s).1) m (nI s)) μ (fun y μ' => (∀ k, k < 32 → bt y k = (drn w x (w 3)).2 k) ∧ μ' = μ) := by
  have n := hG.1
  have e_19 : ln 19 = 24 := rfl
  intro f
  induction f with
  | zero =>
    intro s m h
    omega
  | succ f ih =>
    intro s m hf hs hm
    unfold fnX9_drawn_L9 fnX9_drawn_J77
    rw [lk_24_0, lk_14_12, t_gi, hR.1.2.2.2.2.1]
    by_cases c : w 3 ≤ s
    · have : s = w 3 := by omega
      subst this
      rw [t_brT (nI_le c (by omega)), t_ret]
      exact ⟨hm, rfl⟩
    · have hs' : s < w 3 := by omega
      have x19 : μ.1 19 s = nI (w (14 + 7 * s)) := (hR.2.2.2.1 s hs').2.2.2.2
      have g := hG.2.2.2.1 s hs'
      have dl := drn_lt (w := w) hx s
      rw [t_brF (nI_ge (by omega) (by omega)), t_bnd, t_eq (inDoubt_eq hR hS sc_24 hG hs'), nI_1]
      cases hd : dbt w s
      · have e : drn w x (s + 1) = drn w x s := by
          rw [drn, if_neg (by rw [hd]; decide)]
        rw [t_brT (by decide), ← e]
        exact ih (s + 1) m (by omega) (by omega) (by rw [e]; exact hm)
      · have e : drn w x (s + 1) = (lcg (drn w x s).1, fun k => (drn w x s).2 k || (decide (k = s) && decide (drw (lcg (drn w x s).1) < w (14 + 7 * s)))) := by
          rw [drn, if_pos hd]
        have dl' := drw_lt (lcg (drn w x s).1)
        rw [t_brF (by decide), t_gd (by decide), t_nm, lcg_L dl, t_gd (by decide), t_gd (by decide), t_ai (by omega), x19, drw_L (lcg_lt _), nI_l (by omega)]
        have e1 : lN (lcg (drn w x s).1) = lN (drn w x (s + 1)).1 := by rw [e]
        by_cases c2 : drw (lcg (drn w x s).1) < w (14 + 7 * s)
        · rw [t_brF (fun z => by rw [lg_cmp_ge, fa_le64, lN_I (by omega), lN_I (by omega)] at z; omega), t_nm, e1]
          refine ih (s + 1) _ (by omega) (by omega) ?_
          intro k hk
          rw [e, b_or, k_1 s (by omega) k hk, hm k hk]
          show _ = ((drn w x s).2 k || (decide (k = s) && decide (drw (lcg (drn w x s).1) < w (14 + 7 * s))))
          rw [decide_eq_true c2, Bool.and_true]
        · rw [t_brT (by rw [lg_cmp_ge, fa_le64, lN_I (by omega), lN_I (by omega)]; omega), e1]
          refine ih (s + 1) _ (by omega) (by omega) ?_
          intro k hk
          rw [e, hm k hk]
          show _ = ((drn w x s).2 k || (decide (k = s) && decide (drw (lcg (drn w x s).1) < w (14 + 7 * s))))
          rw [decide_eq_false c2, Bool.and_false, Bool.or_false]
/-- how many come over on a day, and who stays that must -/
noncomputable def dyN (w : Nat → Nat) (x way : Nat) : Nat := pSum w (day (drn w x (w 3)).2 way w (w 4)).2 (fun _ => 1)
noncomputable def dyM (w : Nat → Nat) (x way : Nat) : Int32 := mk (misW (day (drn w x (w 3)).2 way w (w 4)).1) (w 4)
theorem day11_T {w : Nat → Nat} (hG : Good w) {x way : Nat} (hx : x < 2147483648) (hw : way < 4) {μ : sm_Mem} (hR : RH 14 w μ) (hS : SH 24 w μ) (hL : LKS w μ) : T (fnX11_peopleOnDay 0 (nI x) (nI way)) μ (fun y μ' => y = nI (dyN w x way) ∧ SH 28 (day (drn w x (w 3)).2 way w (w 4)).1 μ' ∧ (∀ a, (a < 28 ∨ 32 ≤ a) → (a < 36 ∨ 41 ≤ a) → μ'.1 a = μ.1 a) ∧ μ'.2 = μ.2) := by
  have n := hG.1
  unfold fnX11_peopleOnDay fnX9_drawn fnX0_wadeOver
  rw [lk_0_7, lk_0_6, lk_0_10, t_bnd]
  refine t_mono (takeFrom9 (scK_of sc_28) (scK_of sc_24) (by omega) hG hS) ?_
  rintro - μ1 ⟨a1, a2, a3⟩
  have R1 : RH 14 w μ1 := rh_fr (fun a q1 q2 => a2 a (by omega)) hR
  have S1 : SH 24 w μ1 := sh_fr (fun a q1 q2 => a2 a (by omega)) hS
  have L1 : LKS w μ1 := lks_fr (fun a q1 q2 => a2 a (by omega)) hL
  rw [t_bnd, nI_l (by omega), li_0]
  refine t_mono (drawn_L hG hx R1 S1 4096 0 (nI 0) (by omega) (by omega) (fun k hk => b_0 k)) ?_
  rintro cm μ2 ⟨b1, rfl⟩
  rw [t_bnd]
  refine t_mono (wadeOver_L sc_28 hG hw (cr := (drn w x (w 3)).2) (fun s hs => b1 s (by omega)) R1 L1 4096 0 (nI 0) μ2 (by omega) (by omega) ?_ a1 (fun _ _ _ => rfl) rfl) ?_
  · intro p hp
    rw [show bt (nI 0) p = false from b_0 p]
    unfold ppl
    show false = (decide (p < w 4) && false)
    rw [Bool.and_false]
  · rintro m μ3 ⟨c1, c2, c3, c4⟩
    rw [mask_mk hG c1, t_bnd, t_eq (bitCount_mk (by omega) _), t_ret]
    refine ⟨?_, c2, fun a h1 h2 => (c3 a h2 h1).trans (a2 a h1), c4.trans a3⟩
    unfold dyN
    rw [pSum_ct]
def FrD (μ0 μ : sm_Mem) : Prop := μ.1 = μ0.1 ∧ ∀ a, a ≠ 146 → μ.2.1 a = μ0.2.1 a
theorem draw12 {x : Nat} (hx : x < 2147483648) {μ : sm_Mem} (h : μ.2.1 146 42 = lN x) : T (fnX12_draw 146) μ (fun y μ' => y = nI (drw (lcg x)) ∧ μ'.1 = μ.1 ∧ (∀ a, a ≠ 146 → μ'.2.1 a = μ.2.1 a) ∧ μ'.2.1 146 42 = lN (lcg x)) := by
  unfold fnX12_draw
  rw [t_gl, h, t_gd (by decide), t_sl, lcg_L hx, t_gl, t_gd (by decide), t_gd (by decide), t_ret]
  have e : ∀ v : Int64, (μ.1, u2 μ.2.1 146 42 v, μ.2.2).2.1 146 42 = v := fun v => (by show u2 μ.2.1 146 42 v 146 42 = v; rw [u2_at])
  have e' : ∀ (v : Int64) (a : Nat), a ≠ 146 → (μ.1, u2 μ.2.1 146 42 v, μ.2.2).2.1 a = μ.2.1 a := fun v a ha => u2_ne ha
  rw [e, drw_L (lcg_lt _), lN_i]
  exact ⟨rfl, rfl, e' _, e _⟩
theorem draw11 {w : Nat → Nat} (hG : Good w) {x way : Nat} (hx : x < 2147483648) {μ0 : sm_Mem} (hW : WH 147 w μ0) {Q : Int32 → sm_Mem → Prop} (ex : ∀ (m : Int32) (μ : sm_Mem), FrD μ0 μ → (∀ k, k < 32 → bt m k = (drn w x (w 3)).2 k) → T (fnX12_runOf_J60 146 (nI way) m) μ Q) :
    ∀ (f s : Nat) (m : Int32) (μ : sm_Mem), w 3 - s < f → s ≤ w 3 → FrD μ0 μ → μ.2.1 146 42 = lN (drn w x s).1 → (∀ k, k < 32 → bt m k = (drn w x s).2 k) → T (fnX12_runOf_L11 f 146 (nI way) m (nI s)) μ Q := by
  have n := hG.1
  have e_147 : ln 147 = 241 := rfl
  intro f
  induction f with
  | zero =>
    intro s m μ h
    omega
  | succ f ih =>
    intro s m μ hf hs hr hx42 hm
    have hW1 : WH 147 w μ := wh_L hr.1 hW
    have w3 := wh_lo hW1 (i := 3) (by omega)
    unfold fnX12_runOf_L11 fnX12_runOf_J54
    rw [lk_146_1, li_3, t_ai (by omega), w3]
    by_cases c : w 3 ≤ s
    · have : s = w 3 := by omega
      subst this
      rw [t_brT (nI_le c (by omega))]
      exact ex m μ hr hm
    · have hs' : s < w 3 := by omega
      have g := hG.2.2.2.1 s hs'
      have dl := drn_lt (w := w) hx s
      rw [t_brF (nI_ge (by omega) (by omega)), t_bnd, t_eq (isInDoubt12 hW1 hG hs'), nI_1]
      cases hd : dbt w s
      · have e : drn w x (s + 1) = drn w x s := by
          rw [drn, if_neg (by rw [hd]; decide)]
        rw [t_brT (by decide)]
        exact ih (s + 1) m μ (by omega) (by omega) hr (by rw [e]; exact hx42) (by rw [e]; exact hm)
      · have e : drn w x (s + 1) = (lcg (drn w x s).1, fun k => (drn w x s).2 k || (decide (k = s) && decide (drw (lcg (drn w x s).1) < w (14 + 7 * s)))) := by
          rw [drn, if_pos hd]
        have dl' := drw_lt (lcg (drn w x s).1)
        rw [t_brF (by decide), t_bnd]
        refine t_mono (draw12 dl hx42) ?_
        rintro y μ1 ⟨rfl, a2, a3, a4⟩
        have r1 : FrD μ0 μ1 := ⟨a2.trans hr.1, fun a ha => (a3 a ha).trans (hr.2 a ha)⟩
        rw [li_4, t_bnd, t_eq (ofStone_eq (wh_L r1.1 hW) (by omega) (by omega)), show 10 + 7 * s + 4 = 14 + 7 * s by omega]
        by_cases c2 : drw (lcg (drn w x s).1) < w (14 + 7 * s)
        · rw [t_brF (nI_ge c2 (by omega)), t_nm]
          refine ih (s + 1) _ μ1 (by omega) (by omega) r1 (by rw [e]; exact a4) ?_
          intro k hk
          rw [e, b_or, k_1 s (by omega) k hk, hm k hk]
          show _ = ((drn w x s).2 k || (decide (k = s) && decide (drw (lcg (drn w x s).1) < w (14 + 7 * s))))
          rw [decide_eq_true c2, Bool.and_true]
        · rw [t_brT (nI_le (by omega) (by omega))]
          refine ih (s + 1) _ μ1 (by omega) (by omega) r1 (by rw [e]; exact a4) ?_
          intro k hk
          rw [e, hm k hk]
          show _ = ((drn w x s).2 k || (decide (k = s) && decide (drw (lcg (drn w x s).1) < w (14 + 7 * s))))
          rw [decide_eq_false c2, Bool.and_false, Bool.or_false]
def FrRu (w : Nat → Nat) (μ0 μ : sm_Mem) : Prop := WH 147 w μ ∧ (∀ k, (k < 19 ∨ 26 ≤ k ∨ k = 21) → μ.1 146 k = μ0.1 146 k) ∧ (∀ a, (a < 146 ∨ (148 ≤ a ∧ a < 153) ∨ 158 ≤ a) → μ.1 a = μ0.1 a) ∧ ∀ a, a ≠ 146 → μ.2.1 a = μ0.2.1 a
theorem frRu_rf {w : Nat → Nat} {μ : sm_Mem} (hW : WH 147 w μ) : FrRu w μ μ := ⟨hW, fun _ _ => rfl, fun _ _ => rfl, fun _ _ => rfl⟩
theorem frRu_tr {w : Nat → Nat} {μ μ1 μ2 : sm_Mem} (h : FrRu w μ μ1) (h' : FrRu w μ1 μ2) : FrRu w μ μ2 := ⟨h'.1, fun k q => (h'.2.1 k q).trans (h.2.1 k q), fun a q => (h'.2.2.1 a q).trans (h.2.2.1 a q), fun a q => (h'.2.2.2 a q).trans (h.2.2.2 a q)⟩
theorem rp_fru {w : Nat → Nat} {μ μ1 : sm_Mem} (h : FrRu w μ μ1) : RP w μ μ1 := ⟨h.1, fun a _ => h.2.2.1 a (by omega), fun k _ => h.2.1 k (by omega), fun a _ => h.2.2.2 a (by omega)⟩
theorem run12_T {w : Nat → Nat} (hG : Good w) {x way : Nat} (hx : x < 2147483648) (hw : way < 4) {μ : sm_Mem} (hW : WH 147 w μ) (h21 : μ.1 146 21 = nI 0) : T (fnX12_runOf 146 (lN x) (nI way)) μ (fun y μ' => y = nI (dyN w x way) ∧ μ'.1 146 25 = dyM w x way ∧ FrRu w μ μ') := by
  have n := hG.1
  unfold fnX12_runOf
  rw [t_sl, li_0]
  refine draw11 hG hx (μ0 := (μ.1, u2 μ.2.1 146 42 (lN x), μ.2.2)) hW ?_ 4096 0 (nI 0) _ (by omega) (by omega) ⟨rfl, fun _ _ => rfl⟩ (by show u2 μ.2.1 146 42 (lN x) 146 42 = lN x; rw [u2_at]) (fun k hk => b_0 k)
  rintro m μ1 ⟨a1, a2⟩ hm
  have a1 : μ1.1 = μ.1 := a1
  have a2' : ∀ a, a ≠ 146 → μ1.2.1 a = μ.2.1 a := fun a ha => (a2 a ha).trans (u2_ne ha)
  have W1 : WH 147 w μ1 := wh_L a1 hW
  unfold fnX12_runOf_J60
  rw [t_bnd]
  refine t_mono (thinks_T (by rw [a1]; exact h21)) ?_
  rintro - μ2 ⟨b1, b2, b3, b4, b5⟩
  have W2 : WH 147 w μ2 := wh_fr (fun i _ => by rw [b4 147 (by omega) (by omega)]) W1
  unfold fnX12_clearsOver
  rw [t_bnd, t_si, t_si, t_si, t_si, t_ret, li_0]
  have z : pSum w (fun _ => false) (fun _ => 1) = 0 := by
    rw [pSum_ct]
    apply fb_ct_zero.mpr
    intro k _
    unfold ppl
    exact Bool.and_false _
  refine vd_L hG hw (cr := (drn w x (w 3)).2) (fun s hs => hm s (by omega)) (μ0 := (u2 (u2 (u2 (u2 μ2.1 146 22 (nI 0)) 146 23 (nI 0)) 146 24 (nI 0)) 146 25 (nI 0), μ2.2)) ?_ 4096 0 _ (by omega) (by omega) ⟨⟨w, eqR_rf w, wh_fr (μ := μ2) (fun i _ => (by simp (disch := omega) only [u2_ne, u2_a, u2_k, u2_at])) W2⟩, ?_, fun _ _ _ => rfl, fun _ _ _ _ => rfl, rfl⟩
  · rintro μ3 ⟨⟨wr, hE, hW3⟩, p2, p3, p4, p5⟩
    obtain ⟨hs, hg, -⟩ := day_good (cr := (drn w x (w 3)).2) (way := way) (good_q hG) (w 4) (Nat.le_refl _)
    obtain ⟨q1, -, -⟩ := eqR_same hE
    have w4 := hs.1 4 (by omega)
    have r4 := q1.1 4 (by omega)
    have em : mk (misW wr) (wr 4) = dyM w x way := by
      unfold dyM
      rw [r4, w4]
      apply b_ext
      intro i hi
      rw [bt_mk _ _ (by omega) i hi, bt_mk _ _ (by omega) i hi]
      by_cases c : i < w 4
      · rw [eqR_mis hE hg i (by omega)]
      · rw [decide_eq_false c]
        rfl
    have x21 : μ3.1 146 21 = nI 1 := by
      rw [p3 21 (by omega) (by omega)]
      show u2 (u2 (u2 (u2 μ2.1 146 22 (nI 0)) 146 23 (nI 0)) 146 24 (nI 0)) 146 25 (nI 0) 146 21 = nI 1
      rw [← b2]
      simp (disch := omega) only [u2_ne, u2_a, u2_k, u2_at]
    unfold fnX12_runOf_J95
    rw [t_bnd, t_eq (mustNot_eqQ hW3 (eqR_good hE hg)), em, t_si, t_bnd]
    refine t_mono (wakes_T (by
      show u2 μ3.1 146 25 (dyM w x way) 146 21 = nI 1
      rw [u2_k (by omega)]
      exact x21)) ?_
    rintro - μ4 ⟨c1, c2, c3, c4, c5⟩
    rw [t_gi, t_ret]
    have m146 : ∀ k, k ≠ 21 → k ≠ 25 → μ4.1 146 k = μ3.1 146 k := by
      intro k h1 h2
      rw [c3 k h1]
      show u2 μ3.1 146 25 (dyM w x way) 146 k = _
      rw [u2_k h2]
    refine ⟨?_, ?_, ?_, ?_, ?_, ?_⟩
    · rw [m146 22 (by omega) (by omega), p2]
      rfl
    · rw [c3 25 (by omega)]
      show u2 μ3.1 146 25 (dyM w x way) 146 25 = _
      rw [u2_at]
    · intro i hi
      rw [c1 i hi]
      show u2 μ3.1 146 25 (dyM w x way) 157 i = _
      rw [u2_ne (by omega), p4 157 (by omega) (by omega) (by omega)]
      show u2 (u2 (u2 (u2 μ2.1 146 22 (nI 0)) 146 23 (nI 0)) 146 24 (nI 0)) 146 25 (nI 0) 157 i = _
      rw [← W1 i hi, ← b1 i hi]
      simp (disch := omega) only [u2_ne, u2_a, u2_k, u2_at]
    · intro k hk
      by_cases c : k = 21
      · rw [c, c2, h21]
      · rw [m146 k c (by omega), p3 k (by omega) (by omega)]
        show u2 (u2 (u2 (u2 μ2.1 146 22 (nI 0)) 146 23 (nI 0)) 146 24 (nI 0)) 146 25 (nI 0) 146 k = _
        rw [← a1, ← b3 k c]
        simp (disch := omega) only [u2_ne, u2_a, u2_k, u2_at]
    · intro a ha
      by_cases c : a = 146 ∨ a = 147
      · omega
      · rw [c4 a (by omega) (by omega)]
        show u2 μ3.1 146 25 (dyM w x way) a = _
        rw [u2_ne (by omega), p4 a (by omega) (by omega) (by omega)]
        show u2 (u2 (u2 (u2 μ2.1 146 22 (nI 0)) 146 23 (nI 0)) 146 24 (nI 0)) 146 25 (nI 0) a = _
        rw [← a1, ← b4 a (by omega) (by omega)]
        simp (disch := omega) only [u2_ne, u2_a, u2_k, u2_at]
    · intro a ha
      rw [c5]
      show μ3.2.1 a = _
      rw [p5]
      show μ2.2.1 a = _
      rw [b5]
      exact a2' a ha
  · show u2 (u2 (u2 (u2 μ2.1 146 22 (nI 0)) 146 23 (nI 0)) 146 24 (nI 0)) 146 25 (nI 0) 146 22 = nI (pSum w (fun _ => false) (fun _ => 1))
    rw [z]
    simp (disch := omega) only [u2_ne, u2_a, u2_k, u2_at]
