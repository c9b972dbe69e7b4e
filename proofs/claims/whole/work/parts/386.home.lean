/-! ===== ROWS ARE THERE (no machine in it) ===== -/
theorem rowF_ex {n : Nat} {op goal : Nat → Bool} {adj : Nat → Nat → Bool} {c : Nat → Nat} (hc : ∀ s, s < n → 1 ≤ c s) : ∀ (v s : Nat), Dm n op goal adj c s v → ∃ l, RowF n op goal adj c s l := by
  intro v
  induction v using Nat.strongRecOn with
  | ind v ih =>
    intro s h
    cases hg : goal s
    · have hs := dm_s h
      rcases dm_inv h with ⟨g, -⟩ | ⟨q, u, a, dq, e⟩
      · rw [hg] at g
        cases g
      · have hx : ∃ i, i < n ∧ Nxt n op goal adj c s i := ⟨q, (dm_s dq).1, a, u, dq, by rw [← e]; exact h⟩
        obtain ⟨i, hi, hN, hF⟩ := @fb_first (fun i => Nxt n op goal adj c s i) (fun _ => Classical.propDecidable _) n hx
        obtain ⟨-, u', d1, d2⟩ := id hN
        have e2 := dm_one h d2
        have := hc s hs.1
        obtain ⟨l, hl⟩ := ih u' (by omega) i d1
        exact ⟨i :: l, hg, ⟨hN, hF⟩, hl⟩
    · exact ⟨[], hg⟩
theorem isRow_ex {n : Nat} {op goal bg : Nat → Bool} {adj : Nat → Nat → Bool} {c : Nat → Nat} (hc : ∀ s, s < n → 1 ≤ c s) : ∃ l, IsRow n op goal bg adj c l := by
  by_cases h : ∃ v s, bg s = true ∧ Dm n op goal adj c s v
  · have low : ∃ v s, bg s = true ∧ Dm n op goal adj c s v ∧ ∀ s' v', bg s' = true → Dm n op goal adj c s' v' → v ≤ v' := by
      obtain ⟨v, hv⟩ := h
      induction v using Nat.strongRecOn with
      | ind v ih =>
        obtain ⟨s, a, b⟩ := hv
        by_cases q : ∀ s' v', bg s' = true → Dm n op goal adj c s' v' → v ≤ v'
        · exact ⟨v, s, a, b, q⟩
        · have : ∃ s' v', bg s' = true ∧ Dm n op goal adj c s' v' ∧ v' < v := by
            refine Classical.byContradiction (fun hn => q ?_)
            intro s' v' x y
            refine Classical.byContradiction (fun hl => hn ⟨s', v', x, y, by omega⟩)
          obtain ⟨s', v', x, y, l⟩ := this
          exact ih v' l ⟨s', x, y⟩
    obtain ⟨v, s, a, b, low⟩ := low
    have hx : ∃ i, i < n ∧ Fst n op goal bg adj c i := ⟨s, (dm_s b).1, a, v, b, low⟩
    obtain ⟨i, hi, hN, hF⟩ := @fb_first (fun i => Fst n op goal bg adj c i) (fun _ => Classical.propDecidable _) n hx
    obtain ⟨-, v', d, -⟩ := id hN
    obtain ⟨l, hl⟩ := rowF_ex hc v' i d
    exact ⟨i :: l, ⟨hN, hF⟩, hl⟩
  · exact ⟨[], fun s v x y => h ⟨v, s, x, y⟩⟩
theorem find_facts {w : Nat → Nat} {r wt way bank : Nat} {l : List Nat} (h : findW w r wt way bank = some l) : (∀ x, x ∈ l → x < w 3 ∧ opn w wt x = true) ∧ l.Nodup ∧ (r < w 1 → l ≠ []) := by
  by_cases c : w 1 ≤ r
  · unfold findW at h
    rw [if_pos c] at h
    cases h
    exact ⟨fun x hx => absurd hx (by simp), List.nodup_nil, fun q => absurd q (by omega)⟩
  · obtain ⟨l0, h0⟩ := isRow_ex (n := w 3) (op := opn w wt) (goal := fun s => opn w wt s && stp w s (197 - bank) r) (bg := fun s => opn w wt s && stp w bank s r) (adj := adw w r) (c := fun s => 32 * costW w way s + 1) (fun s _ => by omega)
    rw [findW_row c h0] at h
    by_cases e : l0 = []
    · rw [if_pos e] at h
      cases h
    · rw [if_neg e] at h
      cases h
      obtain ⟨a, b⟩ := isRow_facts (fun s _ => by omega) h0
      exact ⟨a, b, fun _ => e⟩
/-- what a unit's going changes: what stones have borne, and where the unit is -/
theorem go_facts {w : Nat → Nat} {u way bank : Nat} {x : (Nat → Nat) × Nat} (hG : Good w) (hu : u < w 4) (hb : bank = 98 ∨ bank = 99) (h : goW w u way bank = some x) : ∃ l, findW w (uStr w u) (uSum w 1 u) way bank = some l ∧ x = (putW (wearW w l (uSum w 1 u)) u (197 - bank), l.length) ∧ Same w x.1 ∧ Good x.1 ∧ lead w u = true ∧ uAt w u bank = true := by
  obtain ⟨hl, ha⟩ := go_lead h
  obtain ⟨t1, t2⟩ := uWt_rng hG hu
  unfold goW at h
  rw [if_pos ⟨hl, ha⟩] at h
  cases hf : findW w (uStr w u) (uSum w 1 u) way bank with
  | none =>
    rw [hf] at h
    cases h
  | some l =>
    rw [hf] at h
    cases h
    obtain ⟨f1, f2, -⟩ := find_facts hf
    obtain ⟨ws, wg⟩ := good_wear hG t1 f1 f2
    exact ⟨l, rfl, rfl, same_tr ws same_put, good_put wg (by omega), hl, ha⟩
theorem put_pl {w : Nat → Nat} {u b p : Nat} : putW w u b (191 + 7 * p) = if p = u ∨ (w (190 + 7 * u) ≠ 0 ∧ p = w (190 + 7 * u) - 1) then b else w (191 + 7 * p) := by
  unfold putW
  by_cases q : w (190 + 7 * u) = 0
  · rw [if_pos q]
    by_cases c : p = u
    · subst c
      rw [up_at, if_pos (Or.inl rfl)]
    · rw [up_ne (by omega), if_neg (by omega)]
  · rw [if_neg q]
    by_cases c2 : p = w (190 + 7 * u) - 1
    · rw [if_pos (Or.inr ⟨q, c2⟩), ← c2, up_at]
    · rw [up_ne (by omega)]
      by_cases c : p = u
      · subst c
        rw [up_at, if_pos (Or.inl rfl)]
      · rw [up_ne (by omega), if_neg (by omega)]
theorem go_pl {w : Nat → Nat} {u way bank : Nat} {x : (Nat → Nat) × Nat} (hG : Good w) (hu : u < w 4) (hb : bank = 98 ∨ bank = 99) (h : goW w u way bank = some x) (p : Nat) : x.1 (191 + 7 * p) = if p = u ∨ (w (190 + 7 * u) ≠ 0 ∧ p = w (190 + 7 * u) - 1) then 197 - bank else w (191 + 7 * p) := by
  have n := hG.1
  obtain ⟨l, f, rfl, -, -, -, -⟩ := go_facts hG hu hb h
  obtain ⟨f1, -, -⟩ := find_facts f
  show putW (wearW w l (uSum w 1 u)) u (197 - bank) (191 + 7 * p) = _
  rw [put_pl, wear_o l w (191 + 7 * p) (fun s hs => by have := f1 s hs; omega), wear_o l w (190 + 7 * u) (fun s hs => by have := f1 s hs; omega)]
/-! how many are here -/
def c98 (w : Nat → Nat) : Nat := fb_ct (fun p => decide (w (191 + 7 * p) = 98)) (w 4)
theorem go_c98 {w : Nat → Nat} {u way : Nat} {x : (Nat → Nat) × Nat} (hG : Good w) (hu : u < w 4) (h : goW w u way 98 = some x) : c98 x.1 < c98 w := by
  obtain ⟨l, f, e, hs, hg, hl, ha⟩ := go_facts hG hu (Or.inl rfl) h
  have pl := go_pl hG hu (Or.inl rfl) h
  have w4 := hs.1 4 (by omega)
  unfold uAt at ha
  have ha := (of_decide_eq_true ha).1
  unfold c98
  rw [w4]
  have a1 := fb_ct_upd (fun p => decide (w (191 + 7 * p) = 98)) false (i := u) (n := w 4) hu
  rw [ha] at a1
  simp only [decide_true, if_true, Bool.false_eq_true, if_false] at a1
  have a2 : fb_ct (fun p => decide (x.1 (191 + 7 * p) = 98)) (w 4) ≤ fb_ct (fun k => if k = u then false else decide (w (191 + 7 * k) = 98)) (w 4) := by
    apply fb_ct_sub
    intro k hk hx
    have hx := of_decide_eq_true hx
    rw [pl k] at hx
    by_cases c : k = u ∨ (w (190 + 7 * u) ≠ 0 ∧ k = w (190 + 7 * u) - 1)
    · rw [if_pos c] at hx
      omega
    · rw [if_neg c] at hx
      rw [if_neg (fun q => c (Or.inl q))]
      exact decide_eq_true hx
  omega
theorem ovr_c98 {w : Nat → Nat} (hG : Good w) {way : Nat} : ∀ u, u ≤ w 4 → Same w (ovr w way u).1 ∧ Good (ovr w way u).1 ∧ c98 (ovr w way u).1 ≤ c98 w ∧ ((∃ k, (ovr w way u).2 k = true) → c98 (ovr w way u).1 < c98 w)
  | 0, _ => ⟨same_rf w, hG, Nat.le_refl _, fun ⟨k, hk⟩ => by
    have hk : false = true := hk
    cases hk⟩
  | u + 1, hu => by
    obtain ⟨a1, a2, a3, a4⟩ := ovr_c98 hG (way := way) u (by omega)
    have w4 := a1.1 4 (by omega)
    cases hgo : goW (ovr w way u).1 u way 98 with
    | none =>
      have e1 : ovr w way (u + 1) = ovr w way u := by
        show (match goW (ovr w way u).1 u way 98 with | none => ovr w way u | some x => (x.1, fun k => (ovr w way u).2 k || decide (k = u))) = _
        rw [hgo]
      rw [e1]
      exact ⟨a1, a2, a3, a4⟩
    | some z =>
      have e1 : ovr w way (u + 1) = (z.1, fun k => (ovr w way u).2 k || decide (k = u)) := by
        show (match goW (ovr w way u).1 u way 98 with | none => ovr w way u | some x => (x.1, fun k => (ovr w way u).2 k || decide (k = u))) = _
        rw [hgo]
      obtain ⟨l, f, e, hs, hg, hl, ha⟩ := go_facts a2 (show u < (ovr w way u).1 4 by omega) (Or.inl rfl) hgo
      have := go_c98 a2 (show u < (ovr w way u).1 4 by omega) hgo
      rw [e1]
      exact ⟨same_tr a1 hs, hg, by show c98 z.1 ≤ _; omega, fun _ => by show c98 z.1 < _; omega⟩
/-! ===== HOME ===== -/
noncomputable def hmr (w : Nat → Nat) (way : Nat) : Nat → (Nat → Nat) × (Nat → Bool)
  | 0 => (w, fun _ => false)
  | u + 1 => if 0 < uSum w 4 u then (match goW (hmr w way u).1 u way 99 with
    | none => hmr w way u
    | some x => (x.1, fun k => (hmr w way u).2 k || decide (k = u))) else hmr w way u
theorem at_one {w : Nat → Nat} {u : Nat} (h : uAt w u 99 = true) : uAt w u 98 = false := by
  unfold uAt at h ⊢
  have h := of_decide_eq_true h
  exact decide_eq_false (by omega)
theorem sendHome_L {c : Nat} (hc : isSc c) {w : Nat → Nat} (hG : Good w) {way : Nat} (hw : way < 4) {μ0 : sm_Mem} (hR : RH 14 w μ0) (hL : LKS w μ0) :
    ∀ (f u : Nat) (m : Int32) (μ : sm_Mem), w 4 - u < f → u ≤ w 4 → (∀ p, p < 32 → bt m p = ppl w (hmr w way u).2 p) → SH c (hmr w way u).1 μ → Same w (hmr w way u).1 → Good (hmr w way u).1 → (∀ a, (a < 36 ∨ 41 ≤ a) → (a < c ∨ c + 4 ≤ a) → μ.1 a = μ0.1 a) → μ.2 = μ0.2 →
    T (fnX0_sendHome_L5 f 41 c (nI way) m (nI u)) μ (fun x μ' => (∀ p, p < 32 → bt x p = ppl w (hmr w way (w 4)).2 p) ∧ (∀ a, (a < 36 ∨ 41 ≤ a) → (a < c ∨ c + 4 ≤ a) → μ'.1 a = μ0.1 a) ∧ μ'.2 = μ0.2) := by
  obtain ⟨k0, -, -, -, -, -, -⟩ := sc_lk hc
  have n := hG.1
  have hcr : (c + 4 ≤ 14 ∨ 24 ≤ c) ∧ (c + 4 ≤ 33 ∨ 36 ≤ c) := by
    unfold isSc at hc
    simp only [List.mem_cons, List.not_mem_nil, or_false] at hc
    omega
  intro f
  induction f with
  | zero =>
    intro u m μ h
    omega
  | succ f ih =>
    intro u m μ hf hu hm hS hs hg ho h2
    have hR1 : RH 14 (hmr w way u).1 μ := same_rh hs hG (rh_fr (fun a q1 q2 => ho a (by omega) (by omega)) hR)
    have hL1 : LKS (hmr w way u).1 μ := same_lks hs hG (lks_fr (fun a q1 q2 => ho a (by omega) (by omega)) hL)
    have w4 := hs.1 4 (by omega)
    have r5 := hR1.1.2.2.2.2.2
    rw [w4] at r5
    unfold fnX0_sendHome_L5
    rw [k0, t_gi, r5]
    by_cases c1 : w 4 ≤ u
    · have : u = w 4 := by omega
      subst this
      rw [t_brT (nI_le c1 (by omega)), t_ret]
      exact ⟨hm, ho, h2⟩
    have hu' : u < (hmr w way u).1 4 := by omega
    have step : ∀ μ1, hmr w way (u + 1) = hmr w way u → SH c (hmr w way u).1 μ1 → (∀ a, (a < 36 ∨ 41 ≤ a) → (a < c ∨ c + 4 ≤ a) → μ1.1 a = μ0.1 a) → μ1.2 = μ0.2 → T (fnX0_sendHome_J75 (fnX0_sendHome_L5 f) 41 c (nI way) m (nI u)) μ1 (fun x μ' => (∀ p, p < 32 → bt x p = ppl w (hmr w way (w 4)).2 p) ∧ (∀ a, (a < 36 ∨ 41 ≤ a) → (a < c ∨ c + 4 ≤ a) → μ'.1 a = μ0.1 a) ∧ μ'.2 = μ0.2) := by
      intro μ1 e1 e3 e4 e5
      unfold fnX0_sendHome_J75
      rw [nI_1]
      exact ih (u + 1) m μ1 (by omega) (by omega) (by rw [e1]; exact hm) (by rw [e1]; exact e3) (by rw [e1]; exact hs) (by rw [e1]; exact hg) e4 e5
    have none_of : ¬ (0 < uSum w 4 u ∧ lead (hmr w way u).1 u = true ∧ uAt (hmr w way u).1 u 99 = true) → hmr w way (u + 1) = hmr w way u := by
      intro h
      show (if 0 < uSum w 4 u then (match goW (hmr w way u).1 u way 99 with | none => hmr w way u | some x => (x.1, fun k => (hmr w way u).2 k || decide (k = u))) else hmr w way u) = _
      by_cases q : 0 < uSum w 4 u
      · have : goW (hmr w way u).1 u way 99 = none := by
          unfold goW
          rw [if_neg (fun z => h ⟨q, z⟩)]
        rw [if_pos q, this]
      · rw [if_neg q]
    have s4 := same_sum hs hG (show u < w 4 by omega) (k := 4) (by omega)
    rw [t_brF (nI_ge (by omega) (by omega)), t_bnd, t_eq (isUnit7 hR1 hg hu')]
    cases hl : lead (hmr w way u).1 u
    · rw [t_brT (by decide)]
      exact step μ (none_of (by rw [hl]; simp)) hS ho h2
    rw [t_brF (by decide), t_bnd, t_eq (comesBack7 hR1 hg hu'), s4]
    by_cases hbk : 0 < uSum w 4 u
    · rw [decide_eq_true hbk, t_brF (by decide), li_99, t_bnd, t_eq (isAt9 hc hR1 hS hg hu' (by omega))]
      cases hat : uAt (hmr w way u).1 u 99
      · rw [t_brT (by decide)]
        exact step μ (none_of (by rw [hat]; simp)) hS ho h2
      rw [t_brF (by decide), t_bnd]
      refine t_mono (send_T hc hR1 hS hL1 hg hu' hw hl) ?_
      rw [at_one hat, if_neg (by decide)]
      rintro x μ1 ⟨a1, a2, a3⟩
      have fr1 : ∀ a, (a < 36 ∨ 41 ≤ a) → (a < c ∨ c + 4 ≤ a) → μ1.1 a = μ0.1 a := fun a h1 h3 => (a2 a h1 h3).trans (ho a h1 h3)
      have ex : hmr w way (u + 1) = (match goW (hmr w way u).1 u way 99 with | none => hmr w way u | some x => (x.1, fun k => (hmr w way u).2 k || decide (k = u))) := by
        show (if 0 < uSum w 4 u then _ else _) = _
        rw [if_pos hbk]
      cases hgo : goW (hmr w way u).1 u way 99 with
      | none =>
        rw [hgo] at a1 ex
        obtain ⟨rfl, b1⟩ := a1
        rw [t_brT mI_lt0]
        exact step μ1 ex b1 fr1 (a3.trans h2)
      | some z =>
        rw [hgo] at a1 ex
        obtain ⟨rfl, b1, b2, b3, b4⟩ := a1
        have e1 : hmr w way (u + 1) = (z.1, fun k => (hmr w way u).2 k || decide (k = u)) := ex
        have hR2 : RH 14 w μ1 := rh_fr (fun a q1 q2 => fr1 a (by omega) (by omega)) hR
        obtain ⟨pm, p1, p2⟩ := peopleOf7 hR2 hG (show u < w 4 by omega)
        rw [t_brF (nI_pos (by omega)), t_bnd, t_eq p1, t_nm]
        unfold fnX0_sendHome_J75
        rw [nI_1]
        have hlw : lead w u = true := by
          rw [← same_lead hs (show u < 8 by omega)]
          exact hl
        refine ih (u + 1) (m ||| pm) μ1 (by omega) (by omega) ?_ (by rw [e1]; exact b2) (by rw [e1]; exact same_tr hs b3) (by rw [e1]; exact b4) fr1 (a3.trans h2)
        intro p hp
        rw [e1, ppl_add hG (show u < w 4 by omega) hlw hp, b_or, hm p hp, p2 p hp]
        congr 1
        apply decide_eq_decide.mpr
        rcases hand_cases hG (show u < w 4 by omega) with q | ⟨q1, q2, q3, q4⟩
        · omega
        · omega
    · rw [decide_eq_false hbk, t_brT (by decide)]
      exact step μ (none_of (fun z => hbk z.1)) hS ho h2
theorem sendHome_T {c : Nat} (hc : isSc c) {w : Nat → Nat} (hG : Good w) {way : Nat} (hw : way < 4) {μ : sm_Mem} (hR : RH 14 w μ) (hL : LKS w μ) (hS : SH c w μ) : T (fnX0_sendHome 41 c (nI way)) μ (fun x μ' => (∀ p, p < 32 → bt x p = ppl w (hmr w way (w 4)).2 p) ∧ (∀ a, (a < 36 ∨ 41 ≤ a) → (a < c ∨ c + 4 ≤ a) → μ'.1 a = μ.1 a) ∧ μ'.2 = μ.2) := by
  have n := hG.1
  unfold fnX0_sendHome
  refine sendHome_L hc hG hw hR hL 4096 0 0 μ (by omega) (by omega) ?_ hS (same_rf w) hG (fun _ _ _ => rfl) rfl
  intro p hp
  rw [b_0]
  unfold ppl
  show false = (decide (p < w 4) && false)
  simp
/-- the reference's loop: the answer kept for behind the waking -/
def HmP (w : Nat → Nat) (way u : Nat) (μ0 μ : sm_Mem) : Prop := WH 147 (hmr w way u).1 μ ∧ Same w (hmr w way u).1 ∧ Good (hmr w way u).1 ∧ (∀ k, (hmr w way u).2 k = true → k < u) ∧ (∀ k, k ≠ 19 → μ.1 146 k = μ0.1 146 k) ∧ (∀ a, a ≠ 146 → a ≠ 147 → (a < 153 ∨ 157 ≤ a) → μ.1 a = μ0.1 a) ∧ μ.2 = μ0.2
theorem home12_L {w : Nat → Nat} (hG : Good w) {way : Nat} (hw : way < 4) {μ0 : sm_Mem} {Q : Int32 → sm_Mem → Prop} (ex : ∀ μ, HmP w way (w 4) μ0 μ → T (fnX12_home_J66 146 (nI (pSum w (hmr w way (w 4)).2 (fun _ => 1)))) μ Q) : ∀ (f u : Nat) (μ : sm_Mem), w 4 - u < f → u ≤ w 4 → HmP w way u μ0 μ → T (fnX12_home_L24 f 146 (nI way) (nI (pSum w (hmr w way u).2 (fun _ => 1))) (nI u)) μ Q := by
  have n := hG.1
  intro f
  induction f with
  | zero =>
    intro u μ h
    omega
  | succ f ih =>
    intro u μ hf hu hP
    obtain ⟨p1, p2, p3, p7, p8, p9, p10⟩ := id hP
    have w4 := p2.1 4 (by omega)
    unfold fnX12_home_L24
    rw [t_bnd, t_eq (units12 p1), w4]
    by_cases c1 : w 4 ≤ u
    · have : u = w 4 := by omega
      subst this
      rw [t_brT (nI_le c1 (by omega))]
      exact ex μ hP
    have hu' : u < (hmr w way u).1 4 := by omega
    have e5 := p2.2.2 u 5 (by omega) (by omega)
    rw [show 185 + 7 * u + 5 = 190 + 7 * u by omega] at e5
    have s4 := same_sum p2 hG (show u < w 4 by omega) (k := 4) (by omega)
    have g4 := uSum3_le hG (show u < w 4 by omega) (k := 4) (by omega)
    have step : ∀ μ1, hmr w way (u + 1) = hmr w way u → WH 147 (hmr w way u).1 μ1 → (∀ k, k ≠ 19 → μ1.1 146 k = μ0.1 146 k) → (∀ a, a ≠ 146 → a ≠ 147 → (a < 153 ∨ 157 ≤ a) → μ1.1 a = μ0.1 a) → μ1.2 = μ0.2 → T (fnX12_home_J60 (fnX12_home_L24 f) 146 (nI way) (nI (pSum w (hmr w way u).2 (fun _ => 1))) (nI u)) μ1 Q := by
      intro μ1 e1 e3 e4 e6 e7
      unfold fnX12_home_J60
      have := ih (u + 1) μ1 (by omega) (by omega) (by unfold HmP; rw [e1]; exact ⟨e3, p2, p3, fun k hk => by have := p7 k hk; omega, e4, e6, e7⟩)
      rw [e1] at this
      rw [nI_1]
      exact this
    rw [t_brF (nI_ge (by omega) (by omega)), li_4, t_bnd, t_eq (sumOf12 p1 p3 hu' (by omega)), s4]
    by_cases hbk : 0 < uSum w 4 u
    · rw [t_brF (show ¬ nI (uSum w 4 u) ≤ 0 from nI_ge (a := 0) (by omega) (by omega)), li_99, t_bnd]
      refine t_mono (goes_T p1 p3 hu' hw (Or.inr rfl)) ?_
      rintro x μ1 ⟨a1, a2, a3, a4⟩
      have exx : hmr w way (u + 1) = (match goW (hmr w way u).1 u way 99 with | none => hmr w way u | some x => (x.1, fun k => (hmr w way u).2 k || decide (k = u))) := by
        show (if 0 < uSum w 4 u then _ else _) = _
        rw [if_pos hbk]
      have f1 : ∀ k, k ≠ 19 → μ1.1 146 k = μ0.1 146 k := fun k hk => (a2 k hk).trans (p8 k hk)
      have f2 : ∀ a, a ≠ 146 → a ≠ 147 → (a < 153 ∨ 157 ≤ a) → μ1.1 a = μ0.1 a := fun a h1 h2 h3 => (a3 a h1 h2 h3).trans (p9 a h1 h2 h3)
      cases hgo : goW (hmr w way u).1 u way 99 with
      | none =>
        rw [hgo] at a1 exx
        obtain ⟨rfl, b1⟩ := a1
        rw [t_brT (by decide)]
        exact step μ1 exx b1 f1 f2 (a4.trans p10)
      | some z =>
        rw [hgo] at a1 exx
        obtain ⟨rfl, b1, b2, b3, b4⟩ := a1
        have e1 : hmr w way (u + 1) = (z.1, fun k => (hmr w way u).2 k || decide (k = u)) := exx
        obtain ⟨hl, -⟩ := go_lead hgo
        have hlw : lead w u = true := by
          rw [← same_lead p2 (show u < 8 by omega)]
          exact hl
        have zu : u < z.1 4 := by rw [b3.1 4 (by omega)]; exact hu'
        have z5 := b3.2.2 u 5 (by omega) (by omega)
        rw [show 185 + 7 * u + 5 = 190 + 7 * u by omega] at z5
        rw [t_brF (by decide), t_bnd, t_eq (manyOf12 b1 b4 zu), t_nm, nI_add]
        unfold fnX12_home_J60
        rw [nI_1]
        have hx : pSum w (hmr w way (u + 1)).2 (fun _ => 1) = pSum w (hmr w way u).2 (fun _ => 1) + (if z.1 (190 + 7 * u) = 0 then 1 else 2) := by
          rw [e1]
          unfold pSum
          rw [sum_add hG (show u < w 4 by omega) hlw p7 (fun _ => 1), z5, e5]
          rcases hand_cases hG (show u < w 4 by omega) with q | ⟨q, -⟩
          · rw [if_pos q, if_pos q]
          · rw [if_neg q, if_neg q]
        rw [← hx]
        refine ih (u + 1) μ1 (by omega) (by omega) ?_
        unfold HmP
        rw [e1]
        refine ⟨b1, same_tr p2 b3, b4, ?_, f1, f2, a4.trans p10⟩
        intro k hk
        simp only [Bool.or_eq_true, decide_eq_true_eq] at hk
        rcases hk with hk | hk
        · have := p7 k hk
          omega
        · omega
    · rw [t_brT (show nI (uSum w 4 u) ≤ 0 from nI_le (b := 0) (by omega) (by omega))]
      refine step μ ?_ p1 p8 p9 p10
      show (if 0 < uSum w 4 u then _ else _) = _
      rw [if_neg hbk]
theorem op_home (z : Int32) : op2 Inv (fnX11_home 0 z) (fnX12_home 146 z) := by
  apply op_two
  intro w μ hC hO
  obtain ⟨hG, hR, hS, hW, hL, hT, hSl, hI, hF⟩ := id hC
  have n := hG.1
  unfold fnX11_home fnX12_home
  cases hz : (decide (0 < w 0) && rg z 0 3)
  · refine ⟨-2, w, same_rf w, hG, ?_, ?_⟩
    · rw [t_bnd, t_eq (isWay11 hR hG _), hz, t_brT (by decide), t_ret]
      exact ⟨rfl, cp_rf hS⟩
    · intro μ1 _ _ hW1
      rw [t_bnd, t_eq (isWay12 hW1 hG _), hz, t_brT (by decide), t_ret]
      exact ⟨rfl, rp_rf hW1⟩
  obtain ⟨-, way, hw, rfl⟩ := way_nat hz
  obtain ⟨v1, v2, -, -⟩ := ovr_c98 hG (way := way) (w 4) (Nat.le_refl _)
  have ho : ∃ w1, w1 = (ovr w way (w 4)).1 := ⟨_, rfl⟩
  obtain ⟨w1, hw1⟩ := ho
  have w14 : w1 4 = w 4 := by rw [hw1]; exact v1.1 4 (by omega)
  refine ⟨nI (pSum w1 (hmr w1 way (w1 4)).2 (fun _ => 1)), w, same_rf w, hG, ?_, ?_⟩
  · rw [t_bnd, t_eq (isWay11 hR hG _), hz, t_brF (by decide), t_bnd]
    refine t_mono (overT_T hG hR hS hL hw) ?_
    rintro x μ1 ⟨-, a2, a3, a4, a5, a6⟩
    rw [← hw1] at a2 a3 a4
    have hR2 : RH 14 w1 μ1 := same_rh a3 hG (rh_fr (fun a q1 q2 => a5 a (by omega) (by omega)) hR)
    have hL2 : LKS w1 μ1 := same_lks a3 hG (lks_fr (fun a q1 q2 => a5 a (by omega) (by omega)) hL)
    rw [lk_0_10, lk_0_7, t_bnd]
    refine t_mono (sendHome_T sc_28 a4 hw hR2 hL2 a2) ?_
    rintro x μ2 ⟨b1, b2, b3⟩
    rw [mask_mk a4 b1, t_bnd, t_eq (bitCount_mk (by omega) _), t_ret]
    exact ⟨by rw [pSum_ct], cp_th hS (fun a h1 h2 => (b2 a h2 h1).trans (a5 a h1 h2)) (b3.trans a6)⟩
  · intro μ1 h1 h2 hW1
    have d0 : μ1.1 146 21 = nI 0 := by rw [h1 146 (by omega)]; exact hF.1
    rw [t_bnd, t_eq (isWay12 hW1 hG _), hz, t_brF (by decide), t_bnd]
    refine t_mono (thinks_T d0) ?_
    rintro - μ2 ⟨b1, b2, b3, b4, b5⟩
    have hW2 : WH 147 w μ2 := wh_fr (fun i hi => by rw [b4 147 (by omega) (by omega)]) hW1
    rw [t_bnd]
    refine t_mono (allGo_T hG hw hW2) ?_
    rintro - μ3 ⟨p1, p2, p3, p4, p5, p6, p7, p8, p9, p10⟩
    rw [← hw1] at p1 p2 p3
    have zz : pSum w1 (hmr w1 way 0).2 (fun _ => 1) = 0 := by
      unfold pSum
      have : fb_sm (fun p => if ppl w1 (hmr w1 way 0).2 p = true then 1 else 0) (w1 4) = fb_sm (fun _ => 0) (w1 4) := by
        apply fb_sm_cong
        intro k _
        unfold ppl
        show (if (decide (k < w1 4) && false) = true then 1 else 0) = 0
        rw [Bool.and_false]
        rfl
      rw [this, sm_0]
    have st := home12_L (w := w1) p3 hw (μ0 := μ3) (Q := fun r2 μ' => r2 = nI (pSum w1 (hmr w1 way (w1 4)).2 (fun _ => 1)) ∧ RP w μ1 μ') ?_ 4096 0 μ3 (by omega) (by omega) ⟨p1, same_rf w1, p3, fun k hk => absurd (show false = true from hk) (by decide), fun _ _ => rfl, fun _ _ _ _ => rfl, rfl⟩
    · rw [zz] at st
      exact st
    · rintro μ4 ⟨q1, q2, q3, q7, q8, q9, q10⟩
      unfold fnX12_home_J66
      rw [t_bnd]
      refine t_mono (wakes_T (by rw [q8 21 (by omega), p8 21 (by omega) (by omega)]; exact b2)) ?_
      rintro - μ5 ⟨e1, e2, e3, e4, e5⟩
      rw [t_ret]
      refine ⟨rfl, ?_, ?_, ?_, ?_⟩
      · intro i hi
        rw [e1 i hi, q9 157 (by omega) (by omega) (by omega), p9 157 (by omega) (by omega) (by omega), b1 i hi]
        exact hW1 i hi
      · intro a ha
        rw [e4 a (by omega) (by omega), q9 a (by omega) (by omega) (by omega), p9 a (by omega) (by omega) (by omega), b4 a (by omega) (by omega)]
      · intro k hk
        by_cases q : k = 21
        · subst q
          rw [e2, d0]
        · rw [e3 k q, q8 k (by omega), p8 k (by omega) (by omega), b3 k q]
      · intro a _
        rw [e5, q10, p10, b5]
