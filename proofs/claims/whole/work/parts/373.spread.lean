/-! ===== THE SEARCH OF THE COMPONENT: least, spread, walk ===== -/
theorem mI1_ne {n : Nat} (h : n < 2 ^ 31) : ¬ nI n = mI 1 := n_m1 h
theorem least_L {t : Nat → Nat} {m : Int32} {μ : sm_Mem} (ht : ∀ s, s < 24 → μ.1 39 s = nI (t s)) (hB : ∀ s, s < 24 → t s ≤ 1048576) (hm : ∀ i, 24 ≤ i → i < 32 → bt m i = false) :
    ∀ (f j T' : Nat) (rest best : Int32), 32 - j < f → j ≤ 32 → Rest m j rest → T' ≤ 1048576 → ((best = mI 1 ∧ T' = 1048576 ∧ ∀ s, s < j → bt m s = true → 1048576 ≤ t s) ∨ ∃ b, b < j ∧ best = nI b ∧ T' = t b ∧ bt m b = true ∧ T' < 1048576 ∧ (∀ s, s < j → bt m s = true → T' ≤ t s) ∧ ∀ s, s < b → bt m s = true → T' < t s) →
    ∃ r, fnX10_least_L8 f 36 best (nI T') rest μ = some (r, μ) ∧ Lst 1048576 (fun s => decide (s < 32) && bt m s) t r := by
  have e_39 : ln 39 = 24 := rfl
  intro f
  induction f with
  | zero =>
    intro j T' rest best h
    omega
  | succ f ih =>
    intro j T' rest best hf hj hr hT hx
    unfold fnX10_least_L8
    simp only [m_br]
    by_cases c : rest = 0
    · rw [if_pos c]
      have em : ∀ s, j ≤ s → s < 32 → bt m s = false := fun s h1 h2 => rest_end hr c h2 h1
      refine ⟨best, rfl, ?_⟩
      rcases hx with ⟨x1, x2, x3⟩ | ⟨b, x1, x2, x3, x4, x5, x6, x7⟩
      · refine Or.inl ⟨x1, fun s hs => ?_⟩
        simp only [Bool.and_eq_true, decide_eq_true_eq] at hs
        rcases Nat.lt_or_ge s j with q | q
        · exact x3 s q hs.2
        · have := em s q hs.1
          rw [hs.2] at this
          cases this
      · refine Or.inr ⟨b, x2, by omega, by simp [x4, show b < 32 by omega], by omega, fun s hs => ?_, fun s h1 hs => ?_⟩
        · simp only [Bool.and_eq_true, decide_eq_true_eq] at hs
          rcases Nat.lt_or_ge s j with q | q
          · rw [← x3]
            exact x6 s q hs.2
          · have := em s q hs.1
            rw [hs.2] at this
            cases this
        · simp only [Bool.and_eq_true, decide_eq_true_eq] at hs
          rw [← x3]
          exact x7 s h1 hs.2
    · rw [if_neg c]
      obtain ⟨s, s1, s2, s3, s4, s5, s6⟩ := rest_next hr c
      have s24 : s < 24 := by
        rcases Nat.lt_or_ge s 24 with q | q
        · exact q
        · rw [hm s q s1] at s3
          cases s3
      have old : ∀ x, x < s → bt m x = true → x < j := by
        intro x h1 h2
        rcases Nat.lt_or_ge x j with q | q
        · exact q
        · rw [s4 x q h1] at h2
          cases h2
      have hts := hB s s24
      simp only [m_bnd, s5]
      rw [lk_36_4, e_ai (by omega), ht s s24]
      simp only [m_br]
      by_cases c2 : T' ≤ t s
      · rw [if_pos (by rw [nI_leI (by omega) (by omega)]; exact c2)]
        unfold fnX10_least_J42
        rw [e_nm]
        refine ih (s + 1) T' _ best (by omega) (by omega) s6 hT ?_
        rcases hx with ⟨x1, x2, x3⟩ | ⟨b, x1, x2, x3, x4, x5, x6, x7⟩
        · refine Or.inl ⟨x1, x2, fun x h1 h2 => ?_⟩
          by_cases e : x = s
          · subst e
            omega
          · exact x3 x (old x (by omega) h2) h2
        · refine Or.inr ⟨b, by omega, x2, x3, x4, x5, fun x h1 h2 => ?_, x7⟩
          by_cases e : x = s
          · subst e
            exact c2
          · exact x6 x (old x (by omega) h2) h2
      · rw [if_neg (by rw [nI_leI (by omega) (by omega)]; exact c2), e_ai (by omega), ht s s24]
        unfold fnX10_least_J42
        rw [e_nm]
        refine ih (s + 1) (t s) _ (nI s) (by omega) (by omega) s6 hts (Or.inr ⟨s, by omega, rfl, rfl, s3, by omega, ?_, ?_⟩)
        · intro x h1 h2
          by_cases e : x = s
          · subst e
            omega
          · have hxj := old x (by omega) h2
            rcases hx with ⟨x1, x2, x3⟩ | ⟨b, x1, x2, x3, x4, x5, x6, x7⟩
            · have := x3 x hxj h2
              omega
            · have := x6 x hxj h2
              omega
        · intro x h1 h2
          have hxj := old x h1 h2
          rcases hx with ⟨x1, x2, x3⟩ | ⟨b, x1, x2, x3, x4, x5, x6, x7⟩
          · have := x3 x hxj h2
            omega
          · have := x6 x hxj h2
            omega
theorem least_eq {t : Nat → Nat} {m : Int32} {μ : sm_Mem} (ht : ∀ s, s < 24 → μ.1 39 s = nI (t s)) (hB : ∀ s, s < 24 → t s ≤ 1048576) (hm : ∀ i, 24 ≤ i → i < 32 → bt m i = false) : ∃ r, fnX10_least 36 m μ = some (r, μ) ∧ Lst 1048576 (fun s => decide (s < 32) && bt m s) t r := by
  unfold fnX10_least
  exact least_L ht hB hm 4096 0 1048576 m (-1) (by omega) (by omega) (rest_0 m) (by omega) (Or.inl ⟨rfl, rfl, fun s hs => absurd hs (by omega)⟩)
theorem lst_cong {B : Nat} {m m' : Nat → Bool} {t : Nat → Nat} {r : Int32} (h : ∀ s, m s = m' s) (H : Lst B m t r) : Lst B m' t r := by
  have : m = m' := funext h
  rw [← this]
  exact H
/-- relaxing over the bits of a mask -/
theorem spread133 {k69 : Nat → Int32 → Int32 → Int32 → Int32 → Int32 → Int32 → sm_M Unit} {Q : Unit → sm_Mem → Prop} {r : Nat} {bm sn td : Int32} {s k : Nat} {C : Int32} {t c : Nat → Nat} {μ0 : sm_Mem} {N : Nat} (hN : N ≤ 24) (hs : s < 24) (hC : ∀ i, i < 32 → bt C i = true → i < N ∧ i ≠ s) (hc : ∀ x, x < N → μ0.1 38 x = nI (c x)) (hcb : ∀ x, x < N → c x ≤ 321) (htb : ∀ x, x < 24 → t x ≤ 1048576)
    (ex : ∀ μ' : sm_Mem, (∀ a, a ≠ 39 → μ'.1 a = μ0.1 a) → μ'.2 = μ0.2 → (∀ x, x < 24 → μ'.1 39 x = nI (if bt C x = true then min (t x) (t s + c x) else t x)) → T (fnX10_spread_J189 k69 36 (nI r) bm sn td (nI k)) μ' Q) :
    ∀ (f j : Nat) (rest : Int32) (μ : sm_Mem), 32 - j < f → j ≤ 32 → Rest C j rest → (∀ a, a ≠ 39 → μ.1 a = μ0.1 a) → μ.2 = μ0.2 → (∀ x, x < 24 → μ.1 39 x = nI (if bt C x = true ∧ x < j then min (t x) (t s + c x) else t x)) → T (fnX10_spread_L133 k69 f 36 (nI r) bm sn td (nI s) (nI k) rest) μ Q := by
  have e_38 : ln 38 = 24 := rfl
  have e_39 : ln 39 = 24 := rfl
  intro f
  induction f with
  | zero =>
    intro j rest μ h
    omega
  | succ f ih =>
    intro j rest μ hf hj hr ho h2 ht
    unfold fnX10_spread_L133
    by_cases c0 : rest = 0
    · rw [t_brT c0]
      refine ex μ ho h2 ?_
      intro x hx
      rw [ht x hx]
      by_cases q : bt C x = true
      · have : x < j := by
          rcases Nat.lt_or_ge x j with z | z
          · exact z
          · rw [rest_end hr c0 (by omega) z] at q
            cases q
        rw [if_pos ⟨q, this⟩, if_pos q]
      · rw [if_neg (fun z => q z.1), if_neg q]
    · rw [t_brF c0]
      obtain ⟨v, v1, v2, v3, v4, v5, v6⟩ := rest_next hr c0
      obtain ⟨vN, vs⟩ := hC v v1 v3
      have tv := ht v (by omega)
      rw [if_neg (by omega)] at tv
      have ts := ht s hs
      rw [if_neg (fun z => (hC s (by omega) z.1).2 rfl)] at ts
      have cv : μ.1 38 v = nI (c v) := by rw [ho 38 (by omega)]; exact hc v vN
      have b1 := hcb v vN
      have b2 := htb v (by omega)
      have b3 := htb s hs
      have jm : jmin (nI (t v)) (nI (t s + c v)) = nI (min (t v) (t s + c v)) := by
        unfold jmin
        by_cases q : t s + c v < t v
        · rw [if_pos (nI_lt q (by omega)), Nat.min_eq_right (by omega)]
        · rw [if_neg (nI_nlt (by omega) (by omega)), Nat.min_eq_left (by omega)]
      rw [t_bnd, t_eq (v5 μ), lk_36_4, lk_36_3, t_ai (by omega), t_ai (by omega), t_ai (by omega), t_sai (by omega), t_nm, tv, ts, cv, nI_add, jm]
      refine ih (v + 1) _ _ (by omega) (by omega) v6 ?_ h2 ?_
      · intro a ha
        rw [← ho a ha]
        simp (disch := omega) only [u2_ne, u2_a, u2_k, u2_at]
      · intro x hx
        by_cases e : x = v
        · subst e
          rw [if_pos ⟨v3, by omega⟩]
          simp (disch := omega) only [u2_ne, u2_a, u2_k, u2_at]
        · simp (disch := omega) only [u2_k]
          rw [ht x hx]
          by_cases q : bt C x = true
          · by_cases q2 : x < j
            · rw [if_pos ⟨q, q2⟩, if_pos ⟨q, by omega⟩]
            · have : ¬ x < v + 1 := by
                intro z
                rw [v4 x (by omega) (by omega)] at q
                cases q
              rw [if_neg (fun z => q2 z.2), if_neg (fun z => this z.2)]
          · rw [if_neg (fun z => q z.1), if_neg (fun z => q z.1)]
/-- the spreading's loop -/
theorem spread69 {w : Nat → Nat} (hG : Good w) {op goal bg : Nat → Bool} {c : Nat → Nat} {r : Nat} (hr : 1 ≤ r) (hr9 : r ≤ 9) {bm : Int32} (hop : ∀ x, op x = true → x < w 3) (hbg : ∀ x, x < w 3 → bg x = (op x && bt bm x)) (hcb : ∀ x, x < w 3 → c x ≤ 321) {μ0 : sm_Mem} (hL : LKS w μ0) (hc : ∀ x, x < w 3 → μ0.1 38 x = nI (c x)) :
    ∀ (f k : Nat) (sn td v7 : Int32) (t : Nat → Nat) (μ : sm_Mem), 24 - k < f → k ≤ 24 → (∀ a, a ≠ 39 → μ.1 a = μ0.1 a) → μ.2 = μ0.2 → (∀ x, x < 24 → μ.1 39 x = nI (t x)) →
    (∀ i, i < 32 → bt td i = true → op i = true) → Dj (w 3) op goal (adw w r) c 1048576 (fun x => op x && !bt td x) t → (∀ x, x < 24 → t x ≤ 1048576 ∧ (t x < 1048576 → t x ≤ 321 * (k + 1))) → (∀ x, x < w 3 → op x = true → bt td x = false → t x < 1048576) →
    (∀ i, i < 32 → bt sn i = true → op i = true) → (∀ x, x < w 3 → op x = true → bt td x = true → t x < 1048576 → bt sn x = true) → fb_ct (fun i => op i && !bt td i) 24 = k → (∀ x, x < w 3 → op x = true → bt td x = false → bg x = false) → Lst 1048576 (fun s => decide (s < 32) && bt (sn &&& td) s) t v7 →
    T (fnX10_spread_L69 f 36 (nI r) bm sn td v7 (nI k)) μ (fun _ μ' => (∀ a, a ≠ 39 → μ'.1 a = μ0.1 a) ∧ μ'.2 = μ0.2 ∧ ∃ t', (∀ x, x < 24 → μ'.1 39 x = nI (t' x) ∧ t' x ≤ 1048576) ∧ Spr (w 3) op goal (adw w r) c 1048576 bg t') := by
  have n := hG.1
  have e_35 : ln 35 = 240 := rfl
  intro f
  induction f with
  | zero =>
    intro k sn td v7 t μ h
    omega
  | succ f ih =>
    intro k sn td v7 t μ hf hk ho h2 ht i1 i2 i3 i4 i5 i6 i7 i8 i9
    have spr : ((∀ x, x < w 3 → op x = true → (op x && !bt td x) = false → 1048576 ≤ t x) ∨ ∃ s0, s0 < w 3 ∧ op s0 = true ∧ (op s0 && !bt td s0) = false ∧ bg s0 = true ∧ t s0 < 1048576 ∧ (∀ u, u < w 3 → op u = true → (op u && !bt td u) = false → t s0 ≤ t u) ∧ ∀ u, u < s0 → op u = true → (op u && !bt td u) = false → t s0 < t u) → (∀ a, a ≠ 39 → μ.1 a = μ0.1 a) ∧ μ.2 = μ0.2 ∧ ∃ t', (∀ x, x < 24 → μ.1 39 x = nI (t' x) ∧ t' x ≤ 1048576) ∧ Spr (w 3) op goal (adw w r) c 1048576 bg t' := by
      intro hx
      refine ⟨ho, h2, t, fun x hx => ⟨ht x hx, (i3 x hx).1⟩, (fun x => op x && !bt td x), i2, fun u hu => by have := hcb u hu; omega, ?_, ?_, hx⟩
      · intro u q hu hq hS
        simp only [Bool.and_eq_true, Bool.not_eq_true'] at hS
        have a := i4 q hq hS.1 hS.2
        have b := (i3 q (by omega)).2 a
        have d := hcb u hu
        omega
      · intro x hx' hS
        simp only [Bool.and_eq_true, Bool.not_eq_true'] at hS
        exact i8 x hx' hS.1 hS.2
    unfold fnX10_spread_L69
    by_cases c1 : 24 ≤ k
    · rw [t_brT (show (24 : Int32) ≤ nI k from nI_le (a := 24) c1 (by omega)), t_ret]
      refine spr (Or.inl ?_)
      intro x hx ho' hS
      have := fb_ct_all.mp (show fb_ct (fun i => op i && !bt td i) 24 = 24 by omega) x (by omega)
      rw [this] at hS
      cases hS
    rw [t_brF (show ¬ (24 : Int32) ≤ nI k from nI_ge (b := 24) (by omega) (by omega))]
    rcases i9 with ⟨e9, n9⟩ | ⟨s, e9, s32, sm, sB, smin, sfst⟩
    · rw [t_brT (show v7 = (-1 : Int32) from e9), t_ret]
      refine spr (Or.inl ?_)
      intro x hx ho' hS
      rcases Nat.lt_or_ge (t x) 1048576 with q | q
      · have htd : bt td x = true := by
          rw [ho'] at hS
          simpa using hS
        have := n9 x (by
          simp only [Bool.and_eq_true, decide_eq_true_eq]
          exact ⟨by omega, by rw [b_and, i6 x hx ho' htd q, htd]; rfl⟩)
        omega
      · exact q
    · subst e9
      rw [t_brF (show ¬ nI s = (-1 : Int32) from n_m1 (by omega))]
      simp only [Bool.and_eq_true, decide_eq_true_eq] at sm
      have sm2 := sm.2
      rw [b_and, Bool.and_eq_true] at sm2
      have sop := i1 s s32 sm2.2
      have sw := hop s sop
      have unmin : ∀ u, u < w 3 → op u = true → (op u && !bt td u) = false → t s ≤ t u ∧ (u < s → t s < t u) := by
        intro u hu ho' hS
        have htd : bt td u = true := by
          rw [ho'] at hS
          simpa using hS
        rcases Nat.lt_or_ge (t u) 1048576 with q | q
        · have hm : (decide (u < 32) && bt (sn &&& td) u) = true := by
            simp only [Bool.and_eq_true, decide_eq_true_eq]
            exact ⟨by omega, by rw [b_and, i6 u hu ho' htd q, htd]; rfl⟩
          exact ⟨smin u hm, fun h => sfst u h hm⟩
        · omega
      have hSs : (op s && !bt td s) = false := by rw [sm2.2]; simp
      by_cases c2 : bt bm s = true
      · rw [t_brF (by rw [k_t0 bm s32]; simp [c2]), t_ret]
        refine spr (Or.inr ⟨s, sw, sop, hSs, by rw [hbg s sw, sop, c2]; rfl, sB, fun u a b d => (unmin u a b d).1, fun u a b d => (unmin u (by omega) b d).2 a⟩)
      · rw [t_brT (by rw [k_t0 bm s32]; simpa using c2), t_nm, lk_36_2, lk_32_2, li_24, pk_mul, nI_add, t_ai (by omega), t_nm, t_nm]
        have hD := dj_pick i2 sw hSs sB (fun u a b d => (unmin u a b d).1)
        have htd' : ∀ i, i < 32 → bt (td &&& (((1 : Int32) <<< (nI s &&& 31)) ^^^ (-1 : Int32))) i = (bt td i && decide (i ≠ s)) := by
          intro i hi
          rw [b_and, k_not _ hi, k_1 s s32 i hi]
          by_cases e : i = s <;> simp [e]
        generalize td &&& (((1 : Int32) <<< (nI s &&& 31)) ^^^ (-1 : Int32)) = td' at htd'
        have h35 : μ.1 35 = μ0.1 35 := ho 35 (by omega)
        have hC : ∀ i, i < 32 → bt (μ.1 35 (r * 24 + s) &&& td') i = (adw w r s i && (bt td i && decide (i ≠ s))) := by
          intro i hi
          rw [b_and, htd' i hi, h35, show r * 24 + s = 24 * r + s by omega, (hL r hr hr9 i hi).2.2 s (by omega)]
        generalize μ.1 35 (r * 24 + s) &&& td' = C at hC
        have hC2 : ∀ i, i < 32 → bt C i = true → (i < w 3 ∧ i ≠ s) ∧ bt td i = true ∧ adw w r s i = true := by
          intro i hi hb
          rw [hC i hi] at hb
          simp only [Bool.and_eq_true, decide_eq_true_eq] at hb
          exact ⟨⟨hop i (i1 i hi hb.2.1), hb.2.2⟩, hb.2.1, hb.1⟩
        refine spread133 (N := w 3) (t := t) (c := c) (μ0 := μ) n.1 (by omega) (fun i hi hb => (hC2 i hi hb).1) (fun x hx => by rw [ho 38 (by omega)]; exact hc x hx) hcb (fun x hx => (i3 x hx).1) ?_ 4096 0 C μ (by omega) (by omega) (rest_0 C) (fun _ _ => rfl) rfl ?_
        · intro μ1 a1 a2 a3
          generalize ht' : (fun x => if bt C x = true then min (t x) (t s + c x) else t x) = t'
          have a3' : ∀ x, x < 24 → μ1.1 39 x = nI (t' x) := by
            intro x hx
            rw [a3 x hx, ← ht']
          have tle : ∀ x, x < 24 → t' x ≤ 1048576 := by
            intro x hx
            have b1 := (i3 x hx).1
            rw [← ht']
            simp only
            split
            · have := Nat.min_le_left (t x) (t s + c x)
              omega
            · exact b1
          have ts24 := (i3 s (by omega)).2 sB
          obtain ⟨v, e, hv⟩ := least_eq (m := (sn ||| C) &&& td') a3' tle (fun i h1 h2 => by
            rw [b_and, htd' i h2]
            have : bt td i = false := by
              cases q : bt td i
              · rfl
              · have := hop i (i1 i h2 q)
                omega
            rw [this]
            simp)
          unfold fnX10_spread_J189
          rw [t_bnd, t_eq e, nI_1]
          refine ih (k + 1) (sn ||| C) td' v t' μ1 (by omega) (by omega) (fun a ha => (a1 a ha).trans (ho a ha)) (a2.trans h2) a3' ?_ ?_ ?_ ?_ ?_ ?_ ?_ ?_ hv
          · intro i hi hb
            rw [htd' i hi] at hb
            simp only [Bool.and_eq_true] at hb
            exact i1 i hi hb.1
          · refine dj_relax (fun a b => by unfold adw; rw [stp_comm w a b r]; congr 1; apply decide_eq_decide.mpr; omega) i2 sw hD ?_ ?_
            · intro x hx
              rw [htd' x (by omega)]
              by_cases e : x = s
              · simp [e, sop]
              · simp [e]
            · intro x hx
              rw [← ht']
              simp only
              by_cases q : bt C x = true
              · obtain ⟨⟨q1, q2⟩, q3, q4⟩ := hC2 x (by omega) q
                have qo := i1 x (by omega) q3
                rw [if_pos q, if_pos ⟨qo, by rw [htd' x (by omega), q3]; simp [q2], q4⟩]
              · rw [if_neg q, if_neg]
                rintro ⟨z1, z2, z3⟩
                apply q
                rw [hC x (by omega), z3]
                rw [htd' x (by omega), z1] at z2
                simpa using z2
          · intro x hx
            refine ⟨tle x hx, ?_⟩
            intro hlt
            rw [← ht'] at hlt ⊢
            simp only at hlt ⊢
            by_cases q : bt C x = true
            · obtain ⟨⟨q1, q2⟩, q3, q4⟩ := hC2 x (by omega) q
              rw [if_pos q]
              have := Nat.min_le_right (t x) (t s + c x)
              have := hcb x q1
              omega
            · rw [if_neg q] at hlt ⊢
              have := (i3 x hx).2 hlt
              omega
          · intro x hx ho' hb
            rw [htd' x (by omega)] at hb
            rw [← ht']
            simp only
            by_cases e : x = s
            · subst e
              rw [if_neg (fun z => (hC2 x (by omega) z).1.2 rfl)]
              exact sB
            · have hb' : bt td x = false := by simpa [e] using hb
              have := i4 x hx ho' hb'
              split
              · have := Nat.min_le_left (t x) (t s + c x)
                omega
              · exact this
          · intro i hi hb
            rw [b_or, Bool.or_eq_true] at hb
            rcases hb with hb | hb
            · exact i5 i hi hb
            · exact i1 i hi (hC2 i hi hb).2.1
          · intro x hx ho' hb hlt
            rw [b_or, Bool.or_eq_true]
            rw [htd' x (by omega)] at hb
            simp only [Bool.and_eq_true] at hb
            rw [← ht'] at hlt
            simp only at hlt
            by_cases q : bt C x = true
            · exact Or.inr q
            · rw [if_neg q] at hlt
              exact Or.inl (i6 x hx ho' hb.1 hlt)
          · have e : fb_ct (fun i => op i && !bt td' i) 24 = fb_ct (fun i => if i = s then true else (op i && !bt td i)) 24 := by
              apply fb_ct_cong
              intro i hi
              rw [htd' i (by omega)]
              by_cases e : i = s
              · simp [e, sop]
              · simp [e]
            rw [e]
            have u := fb_ct_upd (fun i => op i && !bt td i) true (i := s) (n := 24) (by omega)
            rw [i7] at u
            simp only [hSs, Bool.false_eq_true, if_false, if_true, Nat.add_zero] at u
            exact u
          · intro x hx ho' hb
            rw [htd' x (by omega)] at hb
            by_cases e : x = s
            · subst e
              rw [hbg x hx, ho']
              simpa using c2
            · exact i8 x hx ho' (by simpa [e] using hb)
        · intro x hx
          rw [ht x hx, if_neg (by omega)]
