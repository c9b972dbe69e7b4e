/-! ===== A DAY WITH CRACKS: the two worlds ===== -/
section
variable {n : Nat} {op goal bg : Nat → Bool} {adj : Nat → Nat → Bool} {c c' : Nat → Nat}
theorem wk_cg (h : ∀ s, s < n → c s = c' s) : ∀ k s v, Wk n op goal adj c k s v ↔ Wk n op goal adj c' k s v := by
  intro k
  induction k with
  | zero =>
    intro s v
    constructor
    · rintro ⟨a, b, d, e⟩
      exact ⟨a, b, d, by rw [← h s a]; exact e⟩
    · rintro ⟨a, b, d, e⟩
      exact ⟨a, b, d, by rw [h s a]; exact e⟩
  | succ k ih =>
    intro s v
    constructor
    · rintro ⟨a, b, q, u, d, e, f⟩
      exact ⟨a, b, q, u, d, (ih q u).mp e, by rw [← h s a]; exact f⟩
    · rintro ⟨a, b, q, u, d, e, f⟩
      exact ⟨a, b, q, u, d, (ih q u).mpr e, by rw [h s a]; exact f⟩
theorem dm_cg (h : ∀ s, s < n → c s = c' s) : Dm n op goal adj c = Dm n op goal adj c' := by
  funext s v
  apply propext
  unfold Dm
  constructor
  · rintro ⟨⟨k, a⟩, b⟩
    exact ⟨⟨k, (wk_cg h k s v).mp a⟩, fun k v' q => b k v' ((wk_cg h k s v').mpr q)⟩
  · rintro ⟨⟨k, a⟩, b⟩
    exact ⟨⟨k, (wk_cg h k s v).mpr a⟩, fun k v' q => b k v' ((wk_cg h k s v').mp q)⟩
theorem nxt_c (h : ∀ s, s < n → c s = c' s) : Nxt n op goal adj c = Nxt n op goal adj c' := by
  funext s q
  apply propext
  unfold Nxt
  rw [dm_cg h]
  constructor
  · rintro ⟨a, u, b, d⟩
    obtain ⟨⟨k, z⟩, -⟩ := id d
    have e := h s (wk_s z).1
    exact ⟨a, u, b, by rw [← e]; exact d⟩
  · rintro ⟨a, u, b, d⟩
    obtain ⟨⟨k, z⟩, -⟩ := id d
    have e := h s (wk_s z).1
    exact ⟨a, u, b, by rw [e]; exact d⟩
theorem rowF_c (h : ∀ s, s < n → c s = c' s) : ∀ l s, RowF n op goal adj c s l ↔ RowF n op goal adj c' s l := by
  intro l
  induction l with
  | nil =>
    intro s
    exact Iff.rfl
  | cons q l ih =>
    intro s
    rw [RowF, RowF, nxt_c h, ih q]
theorem isRow_c (h : ∀ s, s < n → c s = c' s) : IsRow n op goal bg adj c = IsRow n op goal bg adj c' := by
  funext l
  apply propext
  cases l with
  | nil =>
    rw [IsRow, IsRow, dm_cg h]
  | cons s l =>
    rw [IsRow, IsRow, rowF_c h]
    unfold Fst
    rw [dm_cg h]
end
theorem find_cong {w w' : Nat → Nat} (hs : Same w w') (hG : GoodQ w) (hl : ∀ s, s < w 3 → lf w' s = lf w s) {r wt way bank : Nat} (hb : bank = 98 ∨ bank = 99) : findW w' r wt way bank = findW w r wt way bank := by
  have n := hG.1
  have e1 := hs.1 1 (by omega)
  have e3 := hs.1 3 (by omega)
  have e4 := hs.1 4 (by omega)
  have st : ∀ a b r, (a < w 3 ∨ a = 98 ∨ a = 99) → (b < w 3 ∨ b = 98 ∨ b = 99) → stp w' a b r = stp w a b r := fun a b r ha hb => same_stpQ hs hG ha hb r
  have eo : ∀ wt, opn w' wt = opn w wt := by
    intro wt
    funext s
    unfold opn
    by_cases c : s < w 3
    · rw [e3, hl s c]
    · rw [decide_eq_false (fun z => c (by omega)), decide_eq_false (fun z => c z.1)]
  have ea : adw w' r = adw w r := by
    funext s t
    unfold adw
    by_cases c : s < w 3 ∧ t < w 3
    · rw [e3, st s t r (Or.inl c.1) (Or.inl c.2)]
    · rw [e3, decide_eq_false c, Bool.false_and, Bool.false_and]
  have eg : (fun s => opn w' wt s && stp w' s (197 - bank) r) = (fun s => opn w wt s && stp w s (197 - bank) r) := by
    funext s
    rw [eo]
    cases q : opn w wt s
    · rfl
    · rw [st s _ r (Or.inl (opn_lt q)) (by omega)]
  have eb : (fun s => opn w' wt s && stp w' bank s r) = (fun s => opn w wt s && stp w bank s r) := by
    funext s
    rw [eo]
    cases q : opn w wt s
    · rfl
    · rw [st _ s r (by omega) (Or.inl (opn_lt q))]
  have er : ∀ op r s, rch w' op r s = rch w op r s := by
    intro op r s
    apply Bool.eq_iff_iff.mpr
    rw [rch_t, rch_t, e3]
    have hR : Rch w' op r s ↔ Rch w op r s := by
      unfold Rch
      rw [e3]
      constructor
      · intro H S h1 h2
        exact H S (fun a ha ho hst => h1 a ha ho (by rw [← st 98 a r (by omega) (Or.inl ha)]; exact hst)) (fun a b hS ha hb ho hst => h2 a b hS ha hb ho (by rw [← st a b r (Or.inl ha) (Or.inl hb)]; exact hst))
      · intro H S h1 h2
        exact H S (fun a ha ho hst => h1 a ha ho (by rw [st 98 a r (by omega) (Or.inl ha)]; exact hst)) (fun a b hS ha hb ho hst => h2 a b hS ha hb ho (by rw [st a b r (Or.inl ha) (Or.inl hb)]; exact hst))
    rw [hR]
  have ec : ∀ s, s < w 3 → 32 * costW w' way s + 1 = 32 * costW w way s + 1 := by
    intro s h
    unfold costW crowd
    rw [hl s h, e4]
    have : fb_ct (fun p => rch w' (opn w' 1) (w' (185 + 7 * p)) s) (w 4) = fb_ct (fun p => rch w (opn w 1) (w (185 + 7 * p)) s) (w 4) := by
      apply fb_ct_cong
      intro p hp
      have := hs.2.2 p 0 (by omega) (by omega)
      rw [er, eo, show 185 + 7 * p = 185 + 7 * p + 0 by omega, this]
    rw [this]
  unfold findW rowW
  rw [e1, e3, eg, eb, eo, ea, isRow_c (c := fun s => 32 * costW w' way s + 1) (c' := fun s => 32 * costW w way s + 1) ec]
/-- the component's world and the reference's, before unit u -/
def EqR (u : Nat) (wc wr : Nat → Nat) : Prop := (∀ i, (∀ s, s < 25 → i ≠ 16 + 7 * s) → (∀ p, p < 8 → i ≠ 191 + 7 * p) → wr i = wc i) ∧ (∀ s, s < 25 → wr (16 + 7 * s) = wc (16 + 7 * s) ∨ (s < wc 3 ∧ wc (16 + 7 * s) = wc (12 + 7 * s) ∧ wr (16 + 7 * s) = 1000)) ∧ (∀ p, p < 8 → wr (191 + 7 * p) = wc (191 + 7 * p) ∨ (p < wc 4 ∧ ldr wc p < u ∧ wc (191 + 7 * p) = 97 ∧ wr (191 + 7 * p) = 98))
theorem eqR_rf (w : Nat → Nat) : EqR 0 w w := ⟨fun _ _ _ => rfl, fun _ _ => Or.inl rfl, fun _ _ => Or.inl rfl⟩
theorem eqR_same {u : Nat} {wc wr : Nat → Nat} (h : EqR u wc wr) : Same wc wr ∧ wr 7 = wc 7 ∧ ∀ s, s < 25 → wr (15 + 7 * s) = wc (15 + 7 * s) := by
  refine ⟨⟨fun i hi => h.1 i (by omega) (by omega), fun s k hs hk => h.1 _ (by omega) (by omega), fun p k hp hk => h.1 _ (by omega) (by omega)⟩, h.1 7 (by omega) (by omega), fun s hs => h.1 _ (by omega) (by omega)⟩
theorem eqR_lf {u : Nat} {wc wr : Nat → Nat} (h : EqR u wc wr) (hG : GoodQ wc) : ∀ s, s < wc 3 → lf wr s = lf wc s := by
  intro s hs
  have n := hG.1
  have g := hG.2.2.2.1 s hs
  obtain ⟨q1, q2, q3⟩ := eqR_same h
  have a := q1.2.1 s 2 (by omega) (by omega)
  have b := q1.2.1 s 3 (by omega) (by omega)
  rw [show 10 + 7 * s + 2 = 12 + 7 * s by omega] at a
  rw [show 10 + 7 * s + 3 = 13 + 7 * s by omega] at b
  unfold lf
  rw [a, b, q2, q3 s (by omega)]
  rcases h.2.1 s (by omega) with z | ⟨z1, z2, z3⟩
  · rw [z]
  · rw [z2, z3]
    have : (if wc (15 + 7 * s) = 2 then 1 else wc (12 + 7 * s)) ≤ 9 := by split <;> omega
    have t2 : (if wc (15 + 7 * s) = 2 then 1 else wc (12 + 7 * s)) ≤ wc (12 + 7 * s) := by split <;> omega
    rw [Nat.sub_eq_zero_of_le (show _ ≤ 1000 by omega), Nat.sub_eq_zero_of_le t2]
theorem eqR_good {u : Nat} {wc wr : Nat → Nat} (h : EqR u wc wr) (hG : GoodQ wc) : GoodQ wr := by
  have n := hG.1
  obtain ⟨q1, q2, q3⟩ := eqR_same h
  refine same_goodR q1 hG q2 ?_ ?_ ?_
  · intro s hs
    refine ⟨q3 s (by omega), ?_⟩
    have := (hG.2.2.2.1 s hs).2.2.2.2.2.2.2.2
    rcases h.2.1 s (by omega) with z | ⟨-, -, z⟩ <;> omega
  · intro s h1 h2
    have := hG.2.2.2.2.1 s h1 h2
    rcases h.2.1 s (by omega) with z | ⟨z, -, -⟩ <;> omega
  · intro p hp
    have := hG.2.2.2.2.2.2.2.2.2 p hp
    rcases h.2.2 p (by omega) with z | ⟨-, -, -, z⟩ <;> omega
theorem same_str {w w' : Nat → Nat} (h : Same w w') (hG : GoodQ w) {u : Nat} (hu : u < w 4) : uStr w' u = uStr w u := by
  have n := hG.1
  have e5 := h.2.2 u 5 (by omega) (by omega)
  have e0 := h.2.2 u 0 (by omega) (by omega)
  rw [show 185 + 7 * u + 5 = 190 + 7 * u by omega] at e5
  rw [show 185 + 7 * u + 0 = 185 + 7 * u by omega] at e0
  unfold uStr
  rw [e5, e0]
  rcases hand_casesQ hG hu with q | ⟨q1, q2, q3, q4⟩
  · rw [if_pos q, if_pos q]
  · have e0' := h.2.2 (w (190 + 7 * u) - 1) 0 (by omega) (by omega)
    rw [show 185 + 7 * (w (190 + 7 * u) - 1) + 0 = 185 + 7 * (w (190 + 7 * u) - 1) by omega] at e0'
    rw [if_neg q1, if_neg q1, e0']
theorem eqR_at {u : Nat} {wc wr : Nat → Nat} (h : EqR u wc wr) (hG : GoodQ wc) (hu : u < wc 4) (hl : lead wc u = true) (b : Nat) : uAt wr u b = uAt wc u b := by
  have n := hG.1
  obtain ⟨q1, -, -⟩ := eqR_same h
  have e5 := q1.2.2 u 5 (by omega) (by omega)
  rw [show 185 + 7 * u + 5 = 190 + 7 * u by omega] at e5
  have pu : wr (191 + 7 * u) = wc (191 + 7 * u) := by
    rcases h.2.2 u (by omega) with z | ⟨-, z, -⟩
    · exact z
    · rw [(ldr_iffQ hG hu hu hl).mpr (Or.inl rfl)] at z
      omega
  unfold uAt
  rw [e5, pu]
  rcases hand_casesQ hG hu with q | ⟨c1, c2, c3, c4⟩
  · apply decide_eq_decide.mpr
    omega
  · have pq : wr (191 + 7 * (wc (190 + 7 * u) - 1)) = wc (191 + 7 * (wc (190 + 7 * u) - 1)) := by
      rcases h.2.2 (wc (190 + 7 * u) - 1) (by omega) with z | ⟨-, z, -⟩
      · exact z
      · rw [(ldr_iffQ hG hu c2 hl).mpr (Or.inr ⟨c1, rfl⟩)] at z
        omega
    rw [pq]
theorem eqR_mono {u : Nat} {wc wr : Nat → Nat} (h : EqR u wc wr) : EqR (u + 1) wc wr := ⟨h.1, h.2.1, fun p hp => (h.2.2 p hp).elim Or.inl (fun z => Or.inr ⟨z.1, by omega, z.2.2⟩)⟩
theorem same_ldr {w w' : Nat → Nat} (h : Same w w') {p : Nat} (hp : p < 8) : ldr w' p = ldr w p := by
  have e5 := h.2.2 p 5 (by omega) (by omega)
  rw [show 185 + 7 * p + 5 = 190 + 7 * p by omega] at e5
  unfold ldr
  rw [same_lead h hp, e5]
/-- both bear the same at a stone that bears -/
theorem eqR_up {u : Nat} {wc wr : Nat → Nat} (h : EqR u wc wr) {s v : Nat} (hs : s < 25) : EqR u (up wc (16 + 7 * s) v) (up wr (16 + 7 * s) v) := by
  have hS : Same wc (up wc (16 + 7 * s) v) := same_up (Or.inr (Or.inr (Or.inl ⟨s, hs, rfl⟩)))
  refine ⟨?_, ?_, ?_⟩
  · intro i h1 h2
    rw [up_ne (h1 s hs), up_ne (h1 s hs)]
    exact h.1 i h1 h2
  · intro t ht
    by_cases c : t = s
    · rw [c, up_at, up_at]
      exact Or.inl rfl
    · rw [up_ne (by omega), up_ne (by omega), up_ne (by omega), up_ne (by omega)]
      exact h.2.1 t ht
  · intro p hp
    rw [up_ne (by omega), up_ne (by omega), up_ne (by omega), same_ldr hS hp]
    exact h.2.2 p hp
theorem wkF_rel {cr : Nat → Bool} {u wt : Nat} (hw : 1 ≤ wt) : ∀ (l : List Nat) (wc wr : Nat → Nat), GoodQ wc → EqR u wc wr → (∀ x, x ∈ l → x < wc 3 ∧ wr (16 + 7 * x) = wc (16 + 7 * x)) → l.Nodup → (∀ x, x ∈ l → wc (16 + 7 * x) + wt ≤ 9) → EqR u (wkF cr wt l wc).1 (wkF cr wt l wr).1 ∧ (wkF cr wt l wc).2 = (wkF cr wt l wr).2 := by
  intro l
  induction l with
  | nil =>
    intro wc wr _ h _ _ _
    exact ⟨h, rfl⟩
  | cons s t ih =>
    intro wc wr hG h hl hn h9
    have n := hG.1
    obtain ⟨h1, h2⟩ := hl s (List.mem_cons_self ..)
    have h3 := h9 s (List.mem_cons_self ..)
    have hn := List.nodup_cons.mp hn
    rw [wkF, wkF, h2]
    by_cases c : (cr s && decide (1 < wc (16 + 7 * s) + wt)) = true
    · rw [if_pos c, if_pos c]
      exact ⟨h, rfl⟩
    · rw [if_neg c, if_neg c]
      have e3 : up wc (16 + 7 * s) (wc (16 + 7 * s) + wt) 3 = wc 3 := up_ne (by omega)
      obtain ⟨-, g1⟩ := good_upQ hG h1 (v := wc (16 + 7 * s) + wt) (by omega)
      refine ih _ _ g1 (eqR_up h (by omega)) ?_ hn.2 ?_
      · intro x hx
        have ne : x ≠ s := fun z => hn.1 (by rw [← z]; exact hx)
        rw [e3, up_ne (by omega), up_ne (by omega)]
        exact hl x (List.mem_cons_of_mem _ hx)
      · intro x hx
        have ne : x ≠ s := fun z => hn.1 (by rw [← z]; exact hx)
        rw [up_ne (by omega)]
        exact h9 x (List.mem_cons_of_mem _ hx)
theorem eqR_put {u : Nat} {wc wr : Nat → Nat} (h : EqR u wc wr) (hG : GoodQ wc) (hu : u < wc 4) (b : Nat) : EqR u (putW wc u b) (putW wr u b) := by
  have n := hG.1
  obtain ⟨q1, -, -⟩ := eqR_same h
  have e5 := q1.2.2 u 5 (by omega) (by omega)
  rw [show 185 + 7 * u + 5 = 190 + 7 * u by omega] at e5
  have hc := hand_casesQ hG hu
  refine ⟨?_, ?_, ?_⟩
  · intro i h1 h2
    unfold putW
    rw [e5]
    rcases hc with q | ⟨c1, c2, c3, c4⟩
    · rw [if_pos q, if_pos q, up_ne (h2 u (by omega)), up_ne (h2 u (by omega))]
      exact h.1 i h1 h2
    · rw [if_neg c1, if_neg c1, up_ne (h2 _ (by omega)), up_ne (h2 u (by omega)), up_ne (h2 _ (by omega)), up_ne (h2 u (by omega))]
      exact h.1 i h1 h2
  · intro s hs
    rw [put_ne (fun p => by omega)] 
    rw [put_ne (fun p => by omega), put_ne (fun p => by omega), put_ne (fun p => by omega)]
    exact h.2.1 s hs
  · intro p hp
    rw [put_pl, put_pl, e5, put_ne (fun p => by omega), same_ldr same_put hp]
    by_cases c : p = u ∨ (wc (190 + 7 * u) ≠ 0 ∧ p = wc (190 + 7 * u) - 1)
    · rw [if_pos c, if_pos c]
      exact Or.inl rfl
    · rw [if_neg c, if_neg c]
      exact h.2.2 p hp
theorem put_ne8 {w : Nat → Nat} {u b i : Nat} (hu : u < 8) (hh : w (190 + 7 * u) ≤ 8) (h : ∀ p, p < 8 → i ≠ 191 + 7 * p) : putW w u b i = w i := by
  unfold putW
  split
  · rw [up_ne (h _ hu)]
  · rw [up_ne (h _ (by omega)), up_ne (h _ hu)]
theorem wkF_ne {cr : Nat → Bool} {wt i : Nat} : ∀ (l : List Nat) (w : Nat → Nat), (∀ s, s ∈ l → i ≠ 16 + 7 * s) → (wkF cr wt l w).1 i = w i := by
  intro l
  induction l with
  | nil =>
    intro w _
    rfl
  | cons s t ih =>
    intro w h
    rw [wkF]
    split
    · rfl
    · rw [ih _ (fun x hx => h x (List.mem_cons_of_mem _ hx)), up_ne (h s (List.mem_cons_self ..))]
theorem wkF_mem {cr : Nat → Bool} {wt : Nat} : ∀ (l : List Nat) (w : Nat → Nat) {s : Nat}, (wkF cr wt l w).2 = some s → s ∈ l := by
  intro l
  induction l with
  | nil =>
    intro w s h
    cases h
  | cons x t ih =>
    intro w s h
    rw [wkF] at h
    split at h
    · cases h
      exact List.mem_cons_self ..
    · exact List.mem_cons_of_mem _ (ih _ h)
theorem step_rel {cr : Nat → Bool} {way u : Nat} {wc wr : Nat → Nat} (h : EqR u wc wr) (hG : GoodQ wc) (hu : u < wc 4) : EqR (u + 1) (wdS cr way wc u).1 (rdS cr way wr u).1 ∧ (wdS cr way wc u).2 = (rdS cr way wr u).2 := by
  have n := hG.1
  obtain ⟨q1, q2, q3⟩ := eqR_same h
  obtain ⟨t1, t2⟩ := uWt_rngQ hG hu
  have el : lead wr u = lead wc u := same_lead q1 (by omega)
  by_cases c1 : lead wc u = true
  · have ea : uAt wr u 98 = uAt wc u 98 := eqR_at h hG hu c1 98
    have es : uStr wr u = uStr wc u := same_str q1 hG hu
    have eu : uSum wr 1 u = uSum wc 1 u := same_sumQ q1 hG hu (by omega)
    have ef : findW wr (uStr wc u) (uSum wc 1 u) way 98 = findW wc (uStr wc u) (uSum wc 1 u) way 98 := find_cong q1 hG (eqR_lf h hG) (Or.inl rfl)
    unfold wdS rdS
    rw [el, ea, es, eu, ef]
    by_cases c2 : lead wc u = true ∧ uAt wc u 98 = true
    · rw [if_pos c2, if_pos c2]
      cases hf : findW wc (uStr wc u) (uSum wc 1 u) way 98 with
      | none => exact ⟨eqR_mono h, rfl⟩
      | some l =>
        obtain ⟨f1, f2, -⟩ := find_facts hf
        have h9 : ∀ x, x ∈ l → wc (16 + 7 * x) + uSum wc 1 u ≤ 9 := fun x hx => opn_9 hG t1 (f1 x hx).1 (f1 x hx).2
        have hb : ∀ x, x ∈ l → x < wc 3 ∧ wr (16 + 7 * x) = wc (16 + 7 * x) := by
          intro x hx
          have hx3 := (f1 x hx).1
          refine ⟨hx3, ?_⟩
          rcases h.2.1 x (by omega) with z | ⟨z1, z2, z3⟩
          · exact z
          · exfalso
            have ho := (f1 x hx).2
            unfold opn at ho
            have ho := (of_decide_eq_true ho).2
            rw [← eqR_lf h hG x hx3] at ho
            have g := hG.2.2.2.1 x hx3
            have w12 := q1.2.1 x 2 (by omega) (by omega)
            rw [show 10 + 7 * x + 2 = 12 + 7 * x by omega] at w12
            unfold lf at ho
            rw [z3, w12] at ho
            split at ho
            · omega
            · split at ho <;> omega
        obtain ⟨r1, r2⟩ := wkF_rel (cr := cr) t1 l wc wr hG h hb f2 h9
        obtain ⟨a1, a2, a3⟩ := wkF_good (cr := cr) l wc hG (fun x hx => ⟨(f1 x hx).1, h9 x hx⟩) f2
        have w3 := a1.1 3 (by omega)
        have w4 := a1.1 4 (by omega)
        show EqR (u + 1) (wdR u (wkF cr (uSum wc 1 u) l wc)).1 (rdR u (wkF cr (uSum wc 1 u) l wr)).1 ∧ (wdR u (wkF cr (uSum wc 1 u) l wc)).2 = (rdR u (wkF cr (uSum wc 1 u) l wr)).2
        unfold wdR rdR
        rw [← r2]
        cases ho : (wkF cr (uSum wc 1 u) l wc).2 with
        | none => exact ⟨eqR_mono (eqR_put r1 a2 (by omega) 99), rfl⟩
        | some s =>
          refine ⟨?_, rfl⟩
          have hs := a3 s ho
          have hml : ∀ x, x ∈ l → x < 24 := fun x hx => by
            have := (f1 x hx).1
            omega
          generalize hzc : (wkF cr (uSum wc 1 u) l wc).1 = zc at r1 a1 a2 w3 w4 ⊢
          generalize hzr : (wkF cr (uSum wc 1 u) l wr).1 = zr at r1 ⊢
          have sU : Same zc (up zc (16 + 7 * s) (zc (12 + 7 * s))) := same_up (Or.inr (Or.inr (Or.inl ⟨s, by omega, rfl⟩)))
          show EqR (u + 1) (up zc (16 + 7 * s) (zc (12 + 7 * s))) (up zr (16 + 7 * s) 1000)
          refine ⟨?_, ?_, ?_⟩
          · intro i i1 i2
            rw [up_ne (i1 s (by omega)), up_ne (i1 s (by omega))]
            exact r1.1 i i1 i2
          · intro t ht
            by_cases ct : t = s
            · rw [ct, up_at, up_at, up_ne (by omega), up_ne (by omega)]
              exact Or.inr ⟨by omega, rfl, rfl⟩
            · rw [up_ne (by omega), up_ne (by omega), up_ne (by omega), up_ne (by omega)]
              exact r1.2.1 t ht
          · intro p hp
            rw [up_ne (k := 191 + 7 * p) (by omega), up_ne (k := 191 + 7 * p) (by omega), up_ne (k := 4) (by omega), same_ldr sU hp]
            exact (eqR_mono r1).2.2 p hp
    · rw [if_neg c2, if_neg c2]
      exact ⟨eqR_mono h, rfl⟩
  · have e1 : wdS cr way wc u = (wc, false) := by
      unfold wdS
      rw [if_neg (fun z => c1 z.1)]
    have e2 : rdS cr way wr u = (wr, false) := by
      unfold rdS
      rw [if_neg (fun z => c1 (by rw [← el]; exact z.1))]
    rw [e1, e2]
    exact ⟨eqR_mono h, rfl⟩
theorem eqR_mis {u : Nat} {wc wr : Nat → Nat} (h : EqR u wc wr) (hG : GoodQ wc) : ∀ k, k < wc 4 → misW wr k = misW wc k := by
  intro k hk
  have n := hG.1
  obtain ⟨q1, -, -⟩ := eqR_same h
  have e5 := q1.2.2 k 5 (by omega) (by omega)
  rw [show 185 + 7 * k + 5 = 190 + 7 * k by omega] at e5
  have pl : ∀ p, p < 8 → (wr (191 + 7 * p) = 99 ↔ wc (191 + 7 * p) = 99) := by
    intro p hp
    rcases h.2.2 p hp with z | ⟨-, -, z1, z2⟩ <;> omega
  unfold misW
  rw [same_lead q1 (by omega), same_sumQ q1 hG hk (by omega)]
  congr 3
  unfold uAt
  rw [e5]
  apply decide_eq_decide.mpr
  rcases hand_casesQ hG hk with q | ⟨d1, d2, d3, d4⟩
  · have := pl k (by omega)
    omega
  · have := pl k (by omega)
    have := pl (wc (190 + 7 * k) - 1) (by omega)
    omega
