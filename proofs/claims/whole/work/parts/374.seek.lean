/-! ===== spread, walk, costs, seek ===== -/
theorem spread13 {Q : Unit → sm_Mem → Prop} {r : Nat} {om bm gm : Int32} {c : Nat → Nat} {μ0 : sm_Mem} {N : Nat} (hN : N ≤ 24) (hg : ∀ i, i < 32 → bt gm i = true → i < N) (hc : ∀ x, x < N → μ0.1 38 x = nI (c x))
    (ex : ∀ μ' : sm_Mem, (∀ a, a ≠ 39 → μ'.1 a = μ0.1 a) → μ'.2 = μ0.2 → (∀ x, x < 24 → μ'.1 39 x = nI (if bt gm x = true then c x else 1048576)) → T (fnX10_spread_J51 36 (nI r) om bm gm) μ' Q) :
    ∀ (f j : Nat) (rest : Int32) (μ : sm_Mem), 32 - j < f → j ≤ 32 → Rest gm j rest → (∀ a, a ≠ 39 → μ.1 a = μ0.1 a) → μ.2 = μ0.2 → (∀ x, x < 24 → μ.1 39 x = nI (if bt gm x = true ∧ x < j then c x else 1048576)) → T (fnX10_spread_L13 f 36 (nI r) om bm gm rest) μ Q := by
  have e_38 : ln 38 = 24 := rfl
  have e_39 : ln 39 = 24 := rfl
  intro f
  induction f with
  | zero =>
    intro j rest μ h
    omega
  | succ f ih =>
    intro j rest μ hf hj hr ho h2 ht
    unfold fnX10_spread_L13
    by_cases c0 : rest = 0
    · rw [t_brT c0]
      refine ex μ ho h2 ?_
      intro x hx
      rw [ht x hx]
      by_cases q : bt gm x = true
      · have : x < j := by
          rcases Nat.lt_or_ge x j with z | z
          · exact z
          · rw [rest_end hr c0 (by omega) z] at q
            cases q
        rw [if_pos ⟨q, this⟩, if_pos q]
      · rw [if_neg (fun z => q z.1), if_neg q]
    · rw [t_brF c0]
      obtain ⟨v, v1, v2, v3, v4, v5, v6⟩ := rest_next hr c0
      have vN := hg v v1 v3
      have cv : μ.1 38 v = nI (c v) := by rw [ho 38 (by omega)]; exact hc v vN
      rw [t_bnd, t_eq (v5 μ), lk_36_4, lk_36_3, t_ai (by omega), t_sai (by omega), t_nm, cv]
      refine ih (v + 1) _ _ (by omega) (by omega) v6 ?_ h2 ?_
      · intro a ha
        rw [← ho a ha]
        simp (disch := omega) only [u2_ne, u2_a, u2_k, u2_at]
      · intro x hx
        by_cases e : x = v
        · subst e
          rw [if_pos ⟨v3, by omega⟩]
          simp (disch := omega) only [u2_ne, u2_a, u2_k, u2_at]
        · simp (disch := omega) only [u2_k]
          rw [ht x hx]
          by_cases q : bt gm x = true
          · by_cases q2 : x < j
            · rw [if_pos ⟨q, q2⟩, if_pos ⟨q, by omega⟩]
            · have : ¬ x < v + 1 := by
                intro z
                rw [v4 x (by omega) (by omega)] at q
                cases q
              rw [if_neg (fun z => q2 z.2), if_neg (fun z => this z.2)]
          · rw [if_neg (fun z => q z.1), if_neg (fun z => q z.1)]
theorem spread_T {w : Nat → Nat} (hG : Good w) {op goal bg : Nat → Bool} {c : Nat → Nat} {r : Nat} (hr : 1 ≤ r) (hr9 : r ≤ 9) {bm om gm : Int32} (hop : ∀ x, op x = true → x < w 3) (hbg : ∀ x, x < w 3 → bg x = (op x && bt bm x)) (hom : ∀ i, i < 32 → bt om i = op i) (hgo : ∀ x, goal x = true → op x = true) (hgm : ∀ i, i < 32 → bt gm i = goal i) (hcb : ∀ x, x < w 3 → c x ≤ 321) {μ : sm_Mem} (hL : LKS w μ) (hc : ∀ x, x < w 3 → μ.1 38 x = nI (c x)) :
    T (fnX10_spread 36 (nI r) om bm gm) μ (fun _ μ' => (∀ a, a ≠ 39 → μ'.1 a = μ.1 a) ∧ μ'.2 = μ.2 ∧ ∃ t', (∀ x, x < 24 → μ'.1 39 x = nI (t' x) ∧ t' x ≤ 1048576) ∧ Spr (w 3) op goal (adw w r) c 1048576 bg t') := by
  have n := hG.1
  have e_39 : ln 39 = 24 := rfl
  unfold fnX10_spread
  rw [t_bnd, lk_36_4, t_eq (fill_eq _ _ _)]
  refine spread13 (N := w 3) (c := c) (μ0 := μ) n.1 (fun i hi hb => hop i (hgo i (by rw [← hgm i hi]; exact hb))) hc ?_ 4096 0 gm _ (by omega) (by omega) (rest_0 gm) ?_ rfl ?_
  · intro μ1 a1 a2 a3
    generalize ht : (fun x => if bt gm x = true then c x else 1048576) = t
    have a3' : ∀ x, x < 24 → μ1.1 39 x = nI (t x) := by
      intro x hx
      rw [a3 x hx, ← ht]
    have tv : ∀ x, x < 24 → t x = if goal x = true then c x else 1048576 := by
      intro x hx
      rw [← ht]
      simp only
      rw [hgm x (by omega)]
    have tle : ∀ x, x < 24 → t x ≤ 1048576 := by
      intro x hx
      rw [tv x hx]
      split
      · rename_i q
        have := hcb x (hop x (hgo x q))
        omega
      · omega
    obtain ⟨v, e, hv⟩ := least_eq (m := gm) a3' tle (fun i h1 h2 => by
      cases q : bt gm i
      · rfl
      · rw [hgm i h2] at q
        have := hop i (hgo i q)
        omega)
    unfold fnX10_spread_J51
    rw [t_bnd, t_eq e]
    have hgom : ∀ i, i < 32 → bt (gm &&& om) i = bt gm i := by
      intro i hi
      rw [b_and, hom i hi]
      cases q : bt gm i
      · rfl
      · rw [hgm i hi] at q
        rw [hgo i q]
        rfl
    have hS0 : ∀ x, x < 32 → (op x && !bt om x) = false := by
      intro x hx
      rw [hom x hx]
      cases op x <;> rfl
    refine t_mono (spread69 hG hr hr9 hop hbg hcb (μ0 := μ1) (goal := goal) (lks_fr (fun a q1 q2 => a1 a (by omega)) hL) (fun x hx => by rw [a1 38 (by omega)]; exact hc x hx) 4096 0 gm om v t μ1 (by omega) (by omega) (fun _ _ => rfl) rfl a3' (fun i hi hb => by rw [← hom i hi]; exact hb) ?_ ?_ ?_ (fun i hi hb => hgo i (by rw [← hgm i hi]; exact hb)) ?_ ?_ ?_ ?_) ?_
    · refine ⟨fun s hs hS => ?_, fun s hs hS hlt => ?_, fun s hs ho' hS hg => ?_, fun s q hs ho' hS hq hSq => ?_⟩
      · have hS : (op s && !bt om s) = true := hS
        rw [hS0 s (by omega)] at hS
        cases hS
      · rw [tv s (by omega)] at hlt ⊢
        by_cases q : goal s = true
        · rw [if_pos q]
          exact ⟨0, hs, hgo s q, q, rfl⟩
        · rw [if_neg q] at hlt
          omega
      · rw [tv s (by omega), if_pos hg]
        exact Nat.le_refl _
      · have hSq : (op q && !bt om q) = true := hSq
        rw [hS0 q (by omega)] at hSq
        cases hSq
    · intro x hx
      refine ⟨tle x hx, fun hlt => ?_⟩
      rw [tv x hx] at hlt ⊢
      by_cases q : goal x = true
      · rw [if_pos q]
        have := hcb x (hop x (hgo x q))
        omega
      · rw [if_neg q] at hlt
        omega
    · intro x hx ho' hb
      rw [hom x (by omega), ho'] at hb
      cases hb
    · intro x hx ho' hb hlt
      rw [tv x (by omega)] at hlt
      by_cases q : goal x = true
      · rw [hgm x (by omega)]
        exact q
      · rw [if_neg q] at hlt
        omega
    · exact fb_ct_zero.mpr (fun k hk => hS0 k (by omega))
    · intro x hx ho' hb
      rw [hom x (by omega), ho'] at hb
      cases hb
    · refine lst_cong (fun s => ?_) hv
      by_cases q : s < 32
      · rw [hgom s q]
      · simp [q]
    · rintro - μ2 ⟨b1, b2, b3⟩
      exact ⟨fun a ha => (b1 a ha).trans (a1 a ha), b2.trans a2, b3⟩
  · intro a ha
    simp (disch := omega) only [u1_ne]
  · intro x hx
    rw [if_neg (by omega)]
    simp only [u1_at]
    rw [if_pos (by omega)]
    rfl
/-- the walk from a stone on -/
theorem walk_L {w : Nat → Nat} (hG : Good w) {op goal bg : Nat → Bool} {c : Nat → Nat} (hc1 : ∀ s, s < w 3 → 1 ≤ c s) {r : Nat} (hr : 1 ≤ r) (hr9 : r ≤ 9) {om : Int32} (hop : ∀ x, op x = true → x < w 3) (hom : ∀ i, i < 32 → bt om i = op i) {t : Nat → Nat} (hsp : Spr (w 3) op goal (adw w r) c 1048576 bg t) (hcb : ∀ x, x < w 3 → c x ≤ 321) (htb : ∀ x, x < 24 → t x ≤ 1048576) :
    ∀ (f z s : Nat) (μ : sm_Mem), fb_ct (fun x => decide (t x < t s)) 24 + 1 < f → LKS w μ → (∀ x, x < w 3 → μ.1 38 x = nI (c x)) → (∀ x, x < 24 → μ.1 39 x = nI (t x)) → μ.1 36 1 = nI z → z + fb_ct (fun x => decide (t x < t s)) 24 + 1 ≤ 24 → s < w 3 → Dm (w 3) op goal (adw w r) c s (t s) → t s < 1048576 → (∀ b v, Dm (w 3) op goal (adw w r) c b v → v ≤ t s → t b = v) →
    T (fnX10_walk_L7 f 36 (nI r) om (nI s)) μ (fun _ μ' => ∃ l, RowF (w 3) op goal (adw w r) c s l ∧ z + 1 + l.length ≤ 24 ∧ μ'.1 36 1 = nI (z + 1 + l.length) ∧ (∀ i, i < z → μ'.1 37 i = μ.1 37 i) ∧ μ'.1 37 z = nI s ∧ (∀ i, i < l.length → μ'.1 37 (z + 1 + i) = nI (l.getD i 0)) ∧ (∀ a, a ≠ 36 → a ≠ 37 → μ'.1 a = μ.1 a) ∧ μ'.2 = μ.2) := by
  have n := hG.1
  have e_37 : ln 37 = 24 := rfl
  have e_38 : ln 38 = 24 := rfl
  have e_39 : ln 39 = 24 := rfl
  have e_35 : ln 35 = 240 := rfl
  intro f
  induction f with
  | zero =>
    intro z s μ h
    omega
  | succ f ih =>
    intro z s μ hf hL hc ht hz hzs hs hD hB hsm
    obtain ⟨nx1, nx2⟩ := spr_next hc1 hsp hD hB hsm
    have ts := htb s (by omega)
    have cs := hcb s hs
    unfold fnX10_walk_L7
    rw [t_brF (show ¬ nI s = (-1 : Int32) from n_m1 (by omega)), t_gi, hz, t_brF (show ¬ (24 : Int32) ≤ nI z from nI_ge (b := 24) (by omega) (by omega)), t_gi, hz, lk_36_0, t_sai (by omega), t_gi, t_si]
    have y1 : (u2 μ.1 37 z (nI s), μ.2).1 36 1 = nI z := by
      rw [← hz]
      simp (disch := omega) only [u2_ne, u2_a, u2_k, u2_at]
    rw [y1, nI_1, lk_36_4, t_ai (by omega), lk_36_3, t_ai (by omega)]
    have y2 : (u2 (u2 μ.1 37 z (nI s)) 36 1 (nI (z + 1)), μ.2).1 39 s = nI (t s) := by
      rw [← ht s (by omega)]
      simp (disch := omega) only [u2_ne, u2_a, u2_k, u2_at]
    have y3 : (u2 (u2 μ.1 37 z (nI s)) 36 1 (nI (z + 1)), μ.2).1 38 s = nI (c s) := by
      rw [← hc s hs]
      simp (disch := omega) only [u2_ne, u2_a, u2_k, u2_at]
    rw [y2, y3]
    by_cases cc : t s ≤ c s
    · rw [t_brT (nI_le cc (by omega))]
      unfold fnX10_walk_J85
      cases f with
      | zero => omega
      | succ f =>
        unfold fnX10_walk_L7
        rw [t_brT rfl, t_ret]
        refine ⟨[], nx1 cc, by simp only [List.length_nil]; omega, (by simp (disch := omega) only [u2_ne, u2_a, u2_k, u2_at, List.length_nil, Nat.add_zero]), fun i hi => (by simp (disch := omega) only [u2_ne, u2_a, u2_k, u2_at]), (by simp (disch := omega) only [u2_ne, u2_a, u2_k, u2_at]), fun i hi => absurd hi (by simp), fun a a1 a2 => (by simp (disch := omega) only [u2_ne, u2_a, u2_k, u2_at]), rfl⟩
    · rw [t_brF (nI_ge (by omega) (by omega))]
      obtain ⟨g0, nx3⟩ := nx2 (by omega)
      rw [lk_36_2, lk_32_2, li_24, pk_mul, nI_add, t_ai (by omega)]
      have h35 : (u2 (u2 μ.1 37 z (nI s)) 36 1 (nI (z + 1)), μ.2).1 35 (r * 24 + s) = μ.1 35 (24 * r + s) := by
        rw [show r * 24 + s = 24 * r + s by omega]
        simp (disch := omega) only [u2_ne, u2_a, u2_k, u2_at]
      rw [h35]
      have hC : ∀ i, i < 32 → bt (μ.1 35 (24 * r + s) &&& om) i = (adw w r s i && op i) := by
        intro i hi
        rw [b_and, hom i hi, (hL r hr hr9 i hi).2.2 s (by omega)]
      obtain ⟨v, e, hv⟩ := least_eq (μ := (u2 (u2 μ.1 37 z (nI s)) 36 1 (nI (z + 1)), μ.2)) (m := μ.1 35 (24 * r + s) &&& om) (t := t) (fun x hx => by rw [← ht x hx]; simp (disch := omega) only [u2_ne, u2_a, u2_k, u2_at]) htb (fun i h1 h2 => by
        rw [hC i h2]
        cases q : op i
        · simp
        · have := hop i q
          omega)
      rw [t_bnd, t_eq e]
      unfold fnX10_walk_J85
      obtain ⟨b, rfl, bw, bn, bD, bt'⟩ := nx3 v (lst_cong (fun x => by
        by_cases q : x < 32
        · rw [hC x q]
          by_cases q2 : x < w 3
          · simp [q, q2]
          · have : op x = false := by
              cases q3 : op x
              · rfl
              · exact absurd (hop x q3) q2
            simp [this]
        · have : op x = false := by
            cases q3 : op x
            · rfl
            · have := hop x q3
              omega
          simp [q, this]) hv)
      have cnt : fb_ct (fun x => decide (t x < t b)) 24 + 1 ≤ fb_ct (fun x => decide (t x < t s)) 24 := by
        have u := fb_ct_upd (fun x => decide (t x < t b)) true (i := b) (n := 24) (by omega)
        simp only [Nat.lt_irrefl, decide_false, Bool.false_eq_true, if_false, if_true, Nat.add_zero] at u
        rw [← u]
        apply fb_ct_sub
        intro k hk h
        by_cases e : k = b
        · subst e
          exact decide_eq_true bt'
        · rw [if_neg e] at h
          have h := of_decide_eq_true h
          exact decide_eq_true (by omega)
      refine t_mono (ih (z + 1) b (u2 (u2 μ.1 37 z (nI s)) 36 1 (nI (z + 1)), μ.2) (by omega) (lks_fr (μ := μ) (fun a q1 q2 => (by simp (disch := omega) only [u2_ne, u2_a, u2_k, u2_at])) hL) (fun x hx => by rw [← hc x hx]; simp (disch := omega) only [u2_ne, u2_a, u2_k, u2_at]) (fun x hx => by rw [← ht x hx]; simp (disch := omega) only [u2_ne, u2_a, u2_k, u2_at]) (by simp (disch := omega) only [u2_ne, u2_a, u2_k, u2_at]) (by omega) bw bD (by omega) (fun b' v' h1 h2 => hsm b' v' h1 (by omega))) ?_
      rintro - μ' ⟨l, l1, l2, l3, l4, l5, l6, l7, l8⟩
      refine ⟨b :: l, ⟨g0, bn, l1⟩, by simp only [List.length_cons]; omega, by rw [l3]; congr 1; simp only [List.length_cons]; omega, ?_, ?_, ?_, ?_, l8⟩
      · intro i hi
        rw [l4 i (by omega)]
        simp (disch := omega) only [u2_ne, u2_a, u2_k, u2_at]
      · rw [l4 z (by omega)]
        simp (disch := omega) only [u2_ne, u2_a, u2_k, u2_at]
      · intro i hi
        cases i with
        | zero =>
          rw [Nat.add_zero, l5]
          rfl
        | succ i =>
          simp only [List.length_cons] at hi
          rw [show z + 1 + (i + 1) = z + 1 + 1 + i by omega, l6 i (by omega)]
          rfl
      · intro a a1 a2
        rw [l7 a a1 a2]
        simp (disch := omega) only [u2_ne, u2_a, u2_k, u2_at]
theorem walk_T {w : Nat → Nat} (hG : Good w) {op goal bg : Nat → Bool} {c : Nat → Nat} (hc1 : ∀ s, s < w 3 → 1 ≤ c s) {r : Nat} (hr : 1 ≤ r) (hr9 : r ≤ 9) {om bo : Int32} (hop : ∀ x, op x = true → x < w 3) (hom : ∀ i, i < 32 → bt om i = op i) (hbg : ∀ x, bg x = true → op x = true) (hbo : ∀ i, i < 32 → bt bo i = bg i) {t : Nat → Nat} (hsp : Spr (w 3) op goal (adw w r) c 1048576 bg t) (hcb : ∀ x, x < w 3 → c x ≤ 321) (htb : ∀ x, x < 24 → t x ≤ 1048576) {μ : sm_Mem} (hL : LKS w μ) (hc : ∀ x, x < w 3 → μ.1 38 x = nI (c x)) (ht : ∀ x, x < 24 → μ.1 39 x = nI (t x)) (hz : μ.1 36 1 = nI 0) :
    T (fnX10_walk 36 (nI r) om bo) μ (fun _ μ' => ∃ l, IsRow (w 3) op goal bg (adw w r) c l ∧ l.length ≤ 24 ∧ μ'.1 36 1 = nI l.length ∧ (∀ i, i < l.length → μ'.1 37 i = nI (l.getD i 0)) ∧ (∀ a, a ≠ 36 → a ≠ 37 → μ'.1 a = μ.1 a) ∧ μ'.2 = μ.2) := by
  have n := hG.1
  unfold fnX10_walk
  obtain ⟨v, e, hv⟩ := least_eq (m := bo) ht htb (fun i h1 h2 => by
    rw [hbo i h2]
    cases q : bg i
    · rfl
    · have := hop i (hbg i q)
      omega)
  rw [t_bnd, t_eq e]
  have hv' : Lst 1048576 bg t v := lst_cong (fun s => by
    by_cases q : s < 32
    · rw [hbo s q]
      simp [q]
    · cases q2 : bg s
      · simp [q]
      · have := hop s (hbg s q2)
        omega) hv
  rcases spr_begin hc1 (fun s hs => ⟨hop s (hbg s hs), hbg s hs⟩) hsp hv' with ⟨e1, e2⟩ | ⟨s0, rfl, s1, s2, s3, s4, s5⟩
  · subst e1
    unfold fnX10_walk_L7
    rw [t_brT (show mI 1 = (-1 : Int32) from rfl), t_ret]
    exact ⟨[], e2, by simp, hz, fun i hi => absurd hi (by simp), fun _ _ _ => rfl, rfl⟩
  · have c23 : fb_ct (fun x => decide (t x < t s0)) 24 + 1 ≤ 24 := by
      have u := fb_ct_upd (fun x => decide (t x < t s0)) true (i := s0) (n := 24) (by omega)
      simp only [Nat.lt_irrefl, decide_false, Bool.false_eq_true, if_false, if_true, Nat.add_zero] at u
      have := fb_ct_le (fun k => if k = s0 then true else decide (t k < t s0)) 24
      omega
    refine t_mono (walk_L hG hc1 hr hr9 hop hom hsp hcb htb 4096 0 s0 μ (by omega) hL hc ht hz (by omega) s1 s3 s4 s5) ?_
    rintro - μ' ⟨l, l1, l2, l3, l4, l5, l6, l7, l8⟩
    refine ⟨s0 :: l, ⟨s2, l1⟩, by simp only [List.length_cons]; omega, by rw [l3]; congr 1; simp only [List.length_cons]; omega, ?_, l7, l8⟩
    intro i hi
    cases i with
    | zero =>
      rw [l5]
      rfl
    | succ i =>
      simp only [List.length_cons] at hi
      rw [show i + 1 = 0 + 1 + i by omega, l6 i (by omega)]
      rw [show 0 + 1 + i = i + 1 by omega]
      rfl
/-! costs -/
theorem mk_nm1 {p : Nat → Bool} {n : Nat} (hn : n ≤ 24) : ¬ mk p n = (-1 : Int32) := by
  intro e
  have := bt_mk p n (by omega) 31 (by omega)
  rw [e, b_m1 31 (by omega)] at this
  simp [show ¬ 31 < n by omega] at this
theorem putReached_L {w : Nat → Nat} (hG : Good w) {μ0 : sm_Mem} (hR : RH 14 w μ0) (hL : LKS w μ0) : ∀ (f p : Nat) (μ : sm_Mem), w 4 - p < f → p ≤ w 4 → (∀ a, a ≠ 40 → μ.1 a = μ0.1 a) → μ.2 = μ0.2 → (∀ r, r < 10 → μ.1 40 r = (-1 : Int32) ∨ μ.1 40 r = mk (rch w (opn w 1) r) (w 3)) → (∀ q, q < p → μ.1 40 (w (185 + 7 * q)) = mk (rch w (opn w 1) (w (185 + 7 * q))) (w 3)) →
    T (fnX10_putReached_L10 f 36 14 (mk (opn w 1) (w 3)) (nI p)) μ (fun _ μ' => (∀ a, a ≠ 40 → μ'.1 a = μ0.1 a) ∧ μ'.2 = μ0.2 ∧ ∀ q, q < w 4 → μ'.1 40 (w (185 + 7 * q)) = mk (rch w (opn w 1) (w (185 + 7 * q))) (w 3)) := by
  have n := hG.1
  have e_20 : ln 20 = 8 := rfl
  have e_40 : ln 40 = 10 := rfl
  intro f
  induction f with
  | zero =>
    intro p μ h
    omega
  | succ f ih =>
    intro p μ hf hp ho h2 hr hq
    have hR1 : RH 14 w μ := rh_fr (fun a q1 q2 => ho a (by omega)) hR
    have hL1 : LKS w μ := lks_fr (fun a q1 q2 => ho a (by omega)) hL
    have r5 := hR1.1.2.2.2.2.2
    unfold fnX10_putReached_L10
    rw [t_gi, r5]
    by_cases c : w 4 ≤ p
    · have : p = w 4 := by omega
      subst this
      rw [t_brT (nI_le c (by omega)), t_ret]
      exact ⟨ho, h2, hq⟩
    · have g := hG.2.2.2.2.2.2.2.1 p (by omega)
      have x : μ.1 20 p = nI (w (185 + 7 * p)) := (hR1.2.2.2.2 p (by omega)).1
      rw [t_brF (nI_ge (by omega) (by omega)), lk_14_13, t_ai (by omega), x, lk_36_5, t_ai (by omega)]
      by_cases c1 : μ.1 40 (w (185 + 7 * p)) = (-1 : Int32)
      · rw [t_brT c1, lk_36_2, t_bnd, t_eq (flood_eq hL1 hG g.1 g.2.1 (opn_hom hG 1)), t_sai (by omega)]
        unfold fnX10_putReached_J54
        rw [nI_1]
        refine ih (p + 1) _ (by omega) (by omega) ?_ h2 ?_ ?_
        · intro a ha
          rw [← ho a ha]
          simp (disch := omega) only [u2_ne, u2_a, u2_k, u2_at]
        · intro r hr'
          by_cases e : r = w (185 + 7 * p)
          · subst e
            exact Or.inr (by simp (disch := omega) only [u2_ne, u2_a, u2_k, u2_at])
          · simp (disch := omega) only [u2_k]
            exact hr r hr'
        · intro q hq'
          by_cases e : w (185 + 7 * q) = w (185 + 7 * p)
          · rw [e]
            simp (disch := omega) only [u2_ne, u2_a, u2_k, u2_at]
          · simp (disch := omega) only [u2_k]
            refine hq q ?_
            rcases Nat.lt_or_ge q p with z | z
            · exact z
            · have : q = p := by omega
              subst this
              exact absurd rfl e
      · rw [t_brF c1]
        unfold fnX10_putReached_J54
        rw [nI_1]
        refine ih (p + 1) μ (by omega) (by omega) ho h2 hr ?_
        intro q hq'
        by_cases e : q = p
        · subst e
          exact (hr (w (185 + 7 * q)) (by omega)).resolve_left c1
        · exact hq q (by omega)
theorem putReached_T {w : Nat → Nat} (hG : Good w) {μ : sm_Mem} (hR : RH 14 w μ) (hL : LKS w μ) : T (fnX10_putReached 36 14 (mk (opn w 1) (w 3))) μ (fun _ μ' => (∀ a, a ≠ 40 → μ'.1 a = μ.1 a) ∧ μ'.2 = μ.2 ∧ ∀ q, q < w 4 → μ'.1 40 (w (185 + 7 * q)) = mk (rch w (opn w 1) (w (185 + 7 * q))) (w 3)) := by
  have n := hG.1
  have e_40 : ln 40 = 10 := rfl
  unfold fnX10_putReached
  rw [t_bnd, lk_36_5, t_eq (fill_eq _ _ _)]
  refine t_mono (putReached_L hG (μ0 := (u1 μ.1 40 (fun k => if k < ln 40 then (-1 : Int32) else μ.1 40 k), μ.2)) (rh_fr (μ := μ) (fun a q1 q2 => by simp (disch := omega) only [u1_ne]) hR) (lks_fr (μ := μ) (fun a q1 q2 => by simp (disch := omega) only [u1_ne]) hL) 4096 0 _ (by omega) (by omega) (fun _ _ => rfl) rfl ?_ (fun q hq => absurd hq (by omega))) ?_
  · intro r hr
    left
    simp only [u1_at]
    rw [if_pos (by omega)]
  · rintro - μ' ⟨a1, a2, a3⟩
    refine ⟨fun a ha => ?_, a2, a3⟩
    rw [a1 a ha]
    simp (disch := omega) only [u1_ne]
theorem crowd_L {w : Nat → Nat} (hG : Good w) {μ : sm_Mem} (hR : RH 14 w μ) (h40 : ∀ q, q < w 4 → μ.1 40 (w (185 + 7 * q)) = mk (rch w (opn w 1) (w (185 + 7 * q))) (w 3)) {s : Nat} (hs : s < w 3) : ∀ f p, w 4 - p < f → p ≤ w 4 → fnX10_crowd_L5 f 36 14 (nI s) (nI (fb_ct (fun p => rch w (opn w 1) (w (185 + 7 * p)) s) p)) (nI p) μ = some (nI (crowd w s), μ) := by
  have n := hG.1
  have e_20 : ln 20 = 8 := rfl
  have e_40 : ln 40 = 10 := rfl
  have r5 := hR.1.2.2.2.2.2
  intro f
  induction f with
  | zero =>
    intro p h
    omega
  | succ f ih =>
    intro p hf hp
    unfold fnX10_crowd_L5
    simp (disch := (first | assumption | omega)) only [m_gi, r5, m_br, nI_leI, m_ret]
    by_cases c : w 4 ≤ p
    · have : p = w 4 := by omega
      rw [if_pos c, this]
      rfl
    · have g := hG.2.2.2.2.2.2.2.1 p (by omega)
      have x : μ.1 20 p = nI (w (185 + 7 * p)) := (hR.2.2.2.2 p (by omega)).1
      rw [if_neg c, lk_14_13, e_ai (by omega), x, lk_36_5, e_ai (by omega), h40 p (by omega), e_nm, k_test _ (by omega), bt_mk _ _ (by omega) s (by omega), nI_1]
      have hh := ih (p + 1) (by omega) (by omega)
      rw [fb_ct_succ, ← nI_add] at hh
      rw [decide_eq_true hs, Bool.true_and]
      cases q : rch w (opn w 1) (w (185 + 7 * p)) s
      · rw [q] at hh
        exact hh
      · rw [q] at hh
        exact hh
theorem putCosts_L {c way : Nat} {w : Nat → Nat} (hc : isSc c) (hG : Good w) (hw : way < 4) {μ0 : sm_Mem} (hR : RH 14 w μ0) (hS : SH c w μ0) (hcc : c + 4 ≤ 38 ∨ 39 ≤ c) (h40 : way = 1 → ∀ q, q < w 4 → μ0.1 40 (w (185 + 7 * q)) = mk (rch w (opn w 1) (w (185 + 7 * q))) (w 3)) :
    ∀ (f s : Nat) (μ : sm_Mem), w 3 - s < f → s ≤ w 3 → (∀ a, a ≠ 38 → μ.1 a = μ0.1 a) → μ.2 = μ0.2 → (∀ x, x < s → μ.1 38 x = nI (32 * costW w way x + 1)) →
    T (fnX10_putCosts_L2 f 36 c (nI way) (nI s)) μ (fun _ μ' => (∀ a, a ≠ 38 → μ'.1 a = μ0.1 a) ∧ μ'.2 = μ0.2 ∧ ∀ x, x < w 3 → μ'.1 38 x = nI (32 * costW w way x + 1)) := by
  obtain ⟨k0, -, -, -, -, -, -⟩ := sc_lk hc
  have n := hG.1
  have e_38 : ln 38 = 24 := rfl
  intro f
  induction f with
  | zero =>
    intro s μ h
    omega
  | succ f ih =>
    intro s μ hf hs ho h2 hx
    have hR1 : RH 14 w μ := rh_fr (fun a q1 q2 => ho a (by omega)) hR
    have hS1 : SH c w μ := sh_fr (fun a q1 q2 => ho a (by omega)) hS
    have r4 := hR1.1.2.2.2.2.1
    unfold fnX10_putCosts_L2
    rw [k0, t_gi, r4]
    by_cases q : w 3 ≤ s
    · have : s = w 3 := by omega
      subst this
      rw [t_brT (nI_le q (by omega)), t_ret]
      exact ⟨ho, h2, hx⟩
    · rw [t_brF (nI_ge (by omega) (by omega))]
      have lfl := lf_le hG (s := s) (by omega)
      have lo := leftOf_eq hR1 hS1 hc hG (show s < w 3 by omega)
      have J : ∀ v : Nat, v = costW w way s → T (fnX10_putCosts_J67 (fnX10_putCosts_L2 f) 36 c (nI way) (nI s) (nI v)) μ (fun _ μ' => (∀ a, a ≠ 38 → μ'.1 a = μ0.1 a) ∧ μ'.2 = μ0.2 ∧ ∀ x, x < w 3 → μ'.1 38 x = nI (32 * costW w way x + 1)) := by
        intro v hv
        unfold fnX10_putCosts_J67
        rw [lk_36_3, t_sai (by omega), li_32, pk_mul, nI_1, nI_1]
        refine ih (s + 1) _ (by omega) (by omega) ?_ h2 ?_
        · intro a ha
          rw [← ho a ha]
          simp (disch := omega) only [u2_ne, u2_a, u2_k, u2_at]
        · intro x hx'
          by_cases e : x = s
          · subst e
            rw [← hv]
            simp (disch := omega) only [u2_ne, u2_a, u2_k, u2_at]
          · rw [← hx x (by omega)]
            simp (disch := omega) only [u2_ne, u2_a, u2_k, u2_at]
      unfold costW at J
      by_cases w1 : way = 1
      · have cr : fnX10_crowd 36 14 (nI s) μ = some (nI (crowd w s), μ) := crowd_L hG hR1 (fun q hq => by rw [ho 40 (by omega)]; exact h40 w1 q hq) (show s < w 3 by omega) 4096 0 (by omega) (by omega)
        rw [t_brT (by rw [w1]; rfl), t_bnd, t_eq cr, t_nm, li_1, nI_add]
        exact J _ (by rw [if_pos w1])
      · rw [t_brF (show ¬ nI way = (1 : Int32) by rw [li_1, nI_eq (by omega) (by omega)]; exact w1)]
        by_cases w2 : way = 2
        · rw [t_brT (by rw [w2]; rfl), t_bnd, t_eq lo]
          exact J _ (by rw [if_neg w1, if_pos w2])
        · rw [t_brF (show ¬ nI way = (2 : Int32) by rw [li_2, nI_eq (by omega) (by omega)]; exact w2)]
          by_cases w3 : way = 3
          · rw [t_brT (by rw [w3]; rfl), t_bnd, t_eq lo, t_nm, li_10, pk_sub (by omega)]
            exact J _ (by rw [if_neg w1, if_neg w2, if_pos w3])
          · rw [t_brF (show ¬ nI way = (3 : Int32) by rw [li_3, nI_eq (by omega) (by omega)]; exact w3), li_1]
            exact J 1 (by rw [if_neg w1, if_neg w2, if_neg w3])
theorem putCosts_T {c way : Nat} {w : Nat → Nat} (hc : isSc c) (hG : Good w) (hw : way < 4) {μ : sm_Mem} (hR : RH 14 w μ) (hS : SH c w μ) (hcc : c + 4 ≤ 38 ∨ 39 ≤ c) (h40 : way = 1 → ∀ q, q < w 4 → μ.1 40 (w (185 + 7 * q)) = mk (rch w (opn w 1) (w (185 + 7 * q))) (w 3)) :
    T (fnX10_putCosts 36 c (nI way)) μ (fun _ μ' => (∀ a, a ≠ 38 → μ'.1 a = μ.1 a) ∧ μ'.2 = μ.2 ∧ ∀ x, x < w 3 → μ'.1 38 x = nI (32 * costW w way x + 1)) := by
  have n := hG.1
  unfold fnX10_putCosts
  exact putCosts_L hc hG hw hR hS hcc h40 4096 0 μ (by omega) (by omega) (fun _ _ => rfl) rfl (fun x hx => absurd hx (by omega))
