/-! ===== ORDERS: outcomes (no machine in it) ===== -/
theorem bet_tr {a b c : Nat × Nat} (h1 : better a b = false) (h2 : better b c = false) : better a c = false := by
  unfold better at *
  rw [decide_eq_false_iff_not] at *
  omega
/-- what is held is no worse -/
def geO (b : Option ((Nat × Nat) × List Nat)) (x : Nat × Nat) : Prop := ∃ y, b = some y ∧ better x y.1 = false
section
variable {w : Nat → Nat} {way : Nat}
theorem bet_rf (x : Nat × Nat) : better x x = false := by
  unfold better
  rw [decide_eq_false_iff_not]
  omega
theorem pick_ge (b : Option ((Nat × Nat) × List Nat)) (l : List Nat) : geO (ordPick w way b l) (ordOut w way l) := by
  unfold ordPick
  cases b with
  | none => exact ⟨_, rfl, bet_rf _⟩
  | some y =>
    by_cases c : better (ordOut w way l) y.1 = true
    · refine ⟨(ordOut w way l, l), ?_, bet_rf _⟩
      show (if better (ordOut w way l) y.1 = true then _ else _) = _
      rw [if_pos c]
    · refine ⟨y, ?_, by rw [Bool.not_eq_true] at c; exact c⟩
      show (if better (ordOut w way l) y.1 = true then _ else _) = _
      rw [if_neg c]
theorem pick_up {b : Option ((Nat × Nat) × List Nat)} {l : List Nat} {x : Nat × Nat} (h : geO b x) : geO (ordPick w way b l) x := by
  obtain ⟨y, rfl, hy⟩ := h
  by_cases c : better (ordOut w way l) y.1 = true
  · refine ⟨(ordOut w way l, l), ?_, ?_⟩
    · show (if better (ordOut w way l) y.1 = true then _ else _) = _
      rw [if_pos c]
    · show better x (ordOut w way l) = false
      unfold better at *
      rw [decide_eq_true_iff] at c
      rw [decide_eq_false_iff_not] at *
      omega
  · refine ⟨y, ?_, hy⟩
    show (if better (ordOut w way l) y.1 = true then _ else _) = _
    rw [if_neg c]
theorem pick_no {b : Option ((Nat × Nat) × List Nat)} {l : List Nat} (h : geO b (ordOut w way l)) : ordPick w way b l = b := by
  obtain ⟨y, rfl, hy⟩ := h
  show (if better (ordOut w way l) y.1 = true then _ else _) = _
  rw [hy, if_neg (by decide)]
noncomputable def fld (w : Nat → Nat) (way : Nat) (b : Option ((Nat × Nat) × List Nat)) (ls : List (List Nat)) : Option ((Nat × Nat) × List Nat) := ls.foldl (ordPick w way) b
theorem fld_up : ∀ (ls : List (List Nat)) (b : Option ((Nat × Nat) × List Nat)) (x : Nat × Nat), geO b x → geO (fld w way b ls) x := by
  intro ls
  induction ls with
  | nil => intro b x h; exact h
  | cons l ls ih =>
    intro b x h
    exact ih (ordPick w way b l) x (pick_up h)
theorem fld_ge : ∀ (ls : List (List Nat)) (b : Option ((Nat × Nat) × List Nat)) (l : List Nat), l ∈ ls → geO (fld w way b ls) (ordOut w way l) := by
  intro ls
  induction ls with
  | nil => intro b l h; cases h
  | cons l0 ls ih =>
    intro b l h
    rcases List.mem_cons.mp h with rfl | h
    · exact fld_up ls _ _ (pick_ge b l)
    · exact ih (ordPick w way b l0) l h
theorem fld_no : ∀ (ls : List (List Nat)) (b : Option ((Nat × Nat) × List Nat)), (∀ l, l ∈ ls → geO b (ordOut w way l)) → fld w way b ls = b := by
  intro ls
  induction ls with
  | nil => intro b h; rfl
  | cons l ls ih =>
    intro b h
    show fld w way (ordPick w way b l) ls = b
    rw [pick_no (h l (List.mem_cons_self ..))]
    exact ih b (fun l' h' => h l' (List.mem_cons_of_mem _ h'))
theorem fld_app (b : Option ((Nat × Nat) × List Nat)) (l1 l2 : List (List Nat)) : fld w way b (l1 ++ l2) = fld w way (fld w way b l1) l2 := by
  unfold fld
  rw [List.foldl_append]
/-! the world on the way -/
def StO (w z : Nat → Nat) : Prop := Same w z ∧ Good z ∧ ∀ s, s < w 3 → lf z s ≤ lf w s
theorem sto_rf (hG : Good w) : StO w w := ⟨same_rf w, hG, fun _ _ => Nat.le_refl _⟩
theorem sto_tr {z z1 : Nat → Nat} (h : StO w z) (h' : StO z z1) : StO w z1 := ⟨same_tr h.1 h'.1, h'.2.1, fun s hs => Nat.le_trans (h'.2.2 s (by rw [h.1.1 3 (by omega)]; exact hs)) (h.2.2 s hs)⟩
theorem lf_put {u b s : Nat} (hs : s < 24) : lf (putW w u b) s = lf w s := by
  unfold lf
  rw [put_o (by omega), put_o (by omega), put_o (by omega), put_o (by omega), put_o (by omega)]
theorem go_sto (hG : Good w) {u : Nat} (hu : u < w 4) {x : (Nat → Nat) × Nat} (h : goW w u way 98 = some x) : StO w x.1 := by
  have n := hG.1
  obtain ⟨l, f, e, hs, hg, hl, ha⟩ := go_facts hG hu (Or.inl rfl) h
  obtain ⟨f1, f2, -⟩ := find_facts f
  refine ⟨hs, hg, fun s hs' => ?_⟩
  rw [e]
  show lf (putW (wearW w l (uSum w 1 u)) u (197 - 98)) s ≤ _
  rw [lf_put (by omega), lf_wear (fun x hx => by have := f1 x hx; omega) f2 (by omega)]
  omega
theorem step_sto {z : Nat → Nat} (hG : Good z) {m v u : Nat} (hu : u < z 4) : StO z (ordStep way (z, m, v) u).1 := by
  unfold ordStep
  cases hg : goW z u way 98 with
  | none => exact sto_rf hG
  | some x => exact go_sto hG hu hg
/-- who is of another unit stays -/
theorem go_stay (hG : Good w) {u u' : Nat} (hu : u < w 4) (hu' : u' < w 4) (hl' : lead w u' = true) (hne : u' ≠ u) {x : (Nat → Nat) × Nat} (h : goW w u way 98 = some x) (ha : uAt w u' 98 = true) : uAt x.1 u' 98 = true := by
  have n := hG.1
  obtain ⟨l, f, e, hs, hg, hl, _⟩ := go_facts hG hu (Or.inl rfl) h
  have pl := go_pl hG hu (Or.inl rfl) h
  have eh : x.1 (190 + 7 * u') = w (190 + 7 * u') := by
    have := hs.2.2 u' 5 (by omega) (by omega)
    rw [show 185 + 7 * u' + 5 = 190 + 7 * u' by omega] at this
    exact this
  have out : ∀ p, p < w 4 → ldr w p = u' → ¬ (p = u ∨ (w (190 + 7 * u) ≠ 0 ∧ p = w (190 + 7 * u) - 1)) := by
    intro p hp hd z
    have := (ldr_iff hG hu hp hl).mpr z
    omega
  unfold uAt at ha ⊢
  have ha := of_decide_eq_true ha
  refine decide_eq_true ⟨?_, ?_⟩
  · rw [pl u', if_neg (out u' hu' ((ldr_iff hG hu' hu' hl').mpr (Or.inl rfl)))]
    exact ha.1
  · rw [eh]
    by_cases c : w (190 + 7 * u') = 0
    · exact Or.inl c
    · right
      rcases hand_cases hG hu' with z | ⟨z1, z2, z3, z4⟩
      · exact absurd z c
      · rw [pl _, if_neg (out _ z2 ((ldr_iff hG hu' z2 hl').mpr (Or.inr ⟨c, rfl⟩)))]
        rcases ha.2 with y | y
        · exact absurd y c
        · exact y
theorem step_stay {z : Nat → Nat} (hG : Good z) {m v u u' : Nat} (hu : u < z 4) (hu' : u' < z 4) (hl' : lead z u' = true) (hne : u' ≠ u) (ha : uAt z u' 98 = true) : uAt (ordStep way (z, m, v) u).1 u' 98 = true := by
  unfold ordStep
  cases hg : goW z u way 98 with
  | none => exact ha
  | some x => exact go_stay hG hu hu' hl' hne hg ha
/-! who could go at all -/
def cgo (z : Nat → Nat) (u : Nat) : Prop := z 1 ≤ uStr z u ∨ ∃ s, s < z 3 ∧ stp z s 99 (uStr z u) = true ∧ rch z (opn z (uSum z 1 u)) (uStr z u) s = true
theorem wk_rch {z z1 : Nat → Nat} (h : StO z z1) (hG : Good z) {r wt : Nat} {c : Nat → Nat} : ∀ (k s v : Nat), Wk (z1 3) (opn z1 wt) (fun s => opn z1 wt s && stp z1 s 99 r) (adw z1 r) c k s v → Rch z (opn z wt) r s → ∃ t, t < z 3 ∧ stp z t 99 r = true ∧ rch z (opn z wt) r t = true := by
  have e3 := h.1.1 3 (by omega)
  intro k
  induction k with
  | zero =>
    rintro s v ⟨h1, h2, h3, _⟩ hR
    rw [e3] at h1
    refine ⟨s, h1, ?_, ?_⟩
    · have := (Bool.and_eq_true _ _ ▸ h3 : opn z1 wt s = true ∧ stp z1 s 99 r = true).2
      rw [same_stp h.1 hG (Or.inl h1) (Or.inr (Or.inr rfl))] at this
      exact this
    · unfold rch
      exact @decide_eq_true _ (Classical.propDecidable _) ⟨h1, hR⟩
  | succ k ih =>
    rintro s v ⟨h1, h2, q, u, ha, hW, _⟩ hR
    have hq := wk_s hW
    rw [e3] at h1 hq
    refine ih q u hW ?_
    intro S a b
    refine b s q (hR S a b) h1 hq.1 ?_ ?_
    · have := of_decide_eq_true hq.2
      unfold opn
      have l := h.2.2 q hq.1
      exact decide_eq_true ⟨hq.1, by omega⟩
    · unfold adw at ha
      have := (Bool.and_eq_true _ _ ▸ ha : _ ∧ stp z1 s q r = true).2
      rw [same_stp h.1 hG (Or.inl h1) (Or.inl hq.1)] at this
      exact this
theorem find_cgo {z z1 : Nat → Nat} (h : StO z z1) (hG : Good z) {r wt : Nat} {l : List Nat} (hf : findW z1 r wt way 98 = some l) : z 1 ≤ r ∨ ∃ s, s < z 3 ∧ stp z s 99 r = true ∧ rch z (opn z wt) r s = true := by
  have e1 := h.1.1 1 (by omega)
  have e3 := h.1.1 3 (by omega)
  by_cases c : z1 1 ≤ r
  · exact Or.inl (by omega)
  · right
    obtain ⟨l0, h0⟩ := isRow_ex (n := z1 3) (op := opn z1 wt) (goal := fun s => opn z1 wt s && stp z1 s (197 - 98) r) (bg := fun s => opn z1 wt s && stp z1 98 s r) (adj := adw z1 r) (c := fun s => 32 * costW z1 way s + 1) (fun s _ => by omega)
    rw [findW_row c h0] at hf
    cases l0 with
    | nil =>
      rw [if_pos rfl] at hf
      cases hf
    | cons i l0 =>
      obtain ⟨⟨⟨hb, v, hD, _⟩, _⟩, _⟩ := h0
      have hb : opn z1 wt i = true ∧ stp z1 98 i r = true := (Bool.and_eq_true _ _ ▸ hb)
      have hi := (dm_s hD).1
      rw [e3] at hi
      obtain ⟨k, hk⟩ := hD.1
      refine wk_rch h hG k i v hk ?_
      intro S a b
      refine a i hi ?_ ?_
      · have := of_decide_eq_true hb.1
        unfold opn
        have l := h.2.2 i hi
        exact decide_eq_true ⟨hi, by omega⟩
      · rw [← same_stp h.1 hG (Or.inr (Or.inl rfl)) (Or.inl hi)]
        exact hb.2
/-- the most that can come of those who are left -/
noncomputable def mB (z : Nat → Nat) (u : Nat) : Nat := @ite _ (cgo z u) (Classical.propDecidable _) (if 0 < uSum z 3 u then 1 else 0) 0
noncomputable def vB (z : Nat → Nat) (u : Nat) : Nat := @ite _ (cgo z u) (Classical.propDecidable _) (uSum z 2 u) 0
theorem go_cgo {z z1 : Nat → Nat} (h : StO z z1) (hG : Good z) {u : Nat} (hu : u < z 4) {x : (Nat → Nat) × Nat} (hg : goW z1 u way 98 = some x) : cgo z u := by
  have e4 := h.1.1 4 (by omega)
  obtain ⟨l, f, _⟩ := go_facts h.2.1 (by omega) (Or.inl rfl) hg
  rw [same_str h.1 (good_q hG) hu, same_sum h.1 hG hu (by omega)] at f
  exact find_cgo h hG f
theorem ord_bound {z0 : Nat → Nat} (hG : Good z0) : ∀ (q : List Nat) (z : Nat → Nat) (m v : Nat), StO z0 z → (∀ u, u ∈ q → u < z0 4) → (q.foldl (ordStep way) (z, m, v)).2.1 ≤ m + (q.map (mB z0)).sum ∧ (q.foldl (ordStep way) (z, m, v)).2.2 ≤ v + (q.map (vB z0)).sum := by
  intro q
  induction q with
  | nil => intro z m v _ _; exact ⟨Nat.le_refl _, Nat.le_refl _⟩
  | cons u q ih =>
    intro z m v h hq
    have hu := hq u (List.mem_cons_self ..)
    have e4 := h.1.1 4 (by omega)
    rw [List.foldl_cons, List.map_cons, List.map_cons, List.sum_cons, List.sum_cons]
    have hs := step_sto (way := way) (m := m) (v := v) h.2.1 (show u < z 4 by omega)
    have key : (ordStep way (z, m, v) u).2.1 ≤ m + mB z0 u ∧ (ordStep way (z, m, v) u).2.2 ≤ v + vB z0 u := by
      unfold ordStep
      cases hg : goW z u way 98 with
      | none => exact ⟨Nat.le_add_right _ _, Nat.le_add_right _ _⟩
      | some x =>
        have hc := go_cgo h hG hu hg
        unfold mB vB
        rw [@if_pos _ (Classical.propDecidable _) hc, @if_pos _ (Classical.propDecidable _) hc]
        show m + (if 0 < uSum z 3 u then 1 else 0) ≤ _ ∧ v + uSum z 2 u ≤ _
        rw [same_sum h.1 hG hu (by omega), same_sum h.1 hG hu (by omega)]
        exact ⟨Nat.le_refl _, Nat.le_refl _⟩
    have := ih (ordStep way (z, m, v) u).1 (ordStep way (z, m, v) u).2.1 (ordStep way (z, m, v) u).2.2 (sto_tr h hs) (fun y hy => hq y (List.mem_cons_of_mem _ hy))
    have this : ((q.foldl (ordStep way) (ordStep way (z, m, v) u)).2.1 ≤ _ ∧ (q.foldl (ordStep way) (ordStep way (z, m, v) u)).2.2 ≤ _) := this
    omega
theorem sum_erase {g : Nat → Nat} : ∀ (L : List Nat) (x : Nat), x ∈ L → (L.map g).sum = g x + ((L.erase x).map g).sum := by
  intro L
  induction L with
  | nil => intro x h; cases h
  | cons y L ih =>
    intro x h
    by_cases c : y = x
    · subst c
      rw [List.erase_cons_head, List.map_cons, List.sum_cons]
    · have hx : x ∈ L := by
        rcases List.mem_cons.mp h with e | e
        · exact absurd e.symm c
        · exact e
      rw [List.erase_cons_tail (by simpa using c), List.map_cons, List.sum_cons, List.map_cons, List.sum_cons, ih x hx]
      omega
theorem perm_sum {g : Nat → Nat} : ∀ (n : Nat) (L q : List Nat), L.length = n → q ∈ permsF n L → (q.map g).sum = (L.map g).sum := by
  intro n
  induction n with
  | zero =>
    intro L q hL hq
    have e : L = [] := List.length_eq_zero_iff.mp hL
    have : q = [] := by
      unfold permsF at hq
      exact List.mem_singleton.mp hq
    rw [e, this]
  | succ n ih =>
    intro L q hL hq
    obtain ⟨x, p, hx, hp, rfl⟩ := permsF_s.mp hq
    rw [List.map_cons, List.sum_cons, sum_erase L x hx, ih (L.erase x) p (by rw [List.length_erase_of_mem hx]; omega) hp]
/-! units that are alike -/
def tyW (w : Nat → Nat) (u : Nat) : Nat × Nat × Bool × Nat := (uStr w u, uSum w 1 u, decide (0 < uSum w 3 u), uSum w 2 u)
noncomputable def stT (way : Nat) (z : (Nat → Nat) × Nat × Nat) (t : Nat × Nat × Bool × Nat) : (Nat → Nat) × Nat × Nat :=
  match findW z.1 t.1 t.2.1 way 98 with
  | none => z
  | some l => (wearW z.1 l t.2.1, z.2.1 + (if t.2.2.1 = true then 1 else 0), z.2.2 + t.2.2.2)
theorem wear_cg {wt i : Nat} : ∀ (l : List Nat) (z zs : Nat → Nat), zs i = z i → wearW zs l wt i = wearW z l wt i := by
  intro l
  induction l with
  | nil => intro z zs h; exact h
  | cons s l ih =>
    intro z zs h
    refine ih (up z (16 + 7 * s) (z (16 + 7 * s) + wt)) (up zs (16 + 7 * s) (zs (16 + 7 * s) + wt)) ?_
    by_cases c : i = 16 + 7 * s
    · rw [c] at h ⊢
      rw [up_at, up_at, h]
    · rw [up_ne c, up_ne c, h]
theorem out_ty (hG : Good w) : ∀ (q : List Nat) (z zs : Nat → Nat) (m v : Nat), Same w z → Good z → (∀ i, (∀ p, i ≠ 191 + 7 * p) → zs i = z i) → q.Nodup → (∀ u, u ∈ q → u < w 4 ∧ lead w u = true ∧ uAt z u 98 = true) → (q.foldl (ordStep way) (z, m, v)).2 = ((q.map (tyW w)).foldl (stT way) (zs, m, v)).2 := by
  intro q
  induction q with
  | nil => intro z zs m v _ _ _ _ _; rfl
  | cons u q ih =>
    intro z zs m v hs hz he hn hq
    have n := hG.1
    obtain ⟨u1, u2, u3⟩ := hq u (List.mem_cons_self ..)
    have e3 := hs.1 3 (by omega)
    have e4 := hs.1 4 (by omega)
    have hsz : Same z zs := ⟨fun i hi => he i (by omega), fun s k h1 h2 => he _ (by omega), fun p k h1 h2 => he _ (by omega)⟩
    have ef : findW zs (uStr w u) (uSum w 1 u) way 98 = findW z (uStr w u) (uSum w 1 u) way 98 := find_cong hsz (good_q hz) (fun s hs' => by
      unfold lf
      rw [he _ (by omega), he _ (by omega), he _ (by omega), he _ (by omega), he _ (by omega)]) (Or.inl rfl)
    have l' : lead z u = true := by rw [same_lead hs (by omega)]; exact u2
    have hstay : ∀ u', u' ∈ q → u' < w 4 ∧ lead w u' = true ∧ uAt (ordStep way (z, m, v) u).1 u' 98 = true := by
      intro u' hu'
      obtain ⟨a1, a2, a3⟩ := hq u' (List.mem_cons_of_mem _ hu')
      refine ⟨a1, a2, step_stay hz (by omega) (by omega) (by rw [same_lead hs (by omega)]; exact a2) ?_ a3⟩
      intro e
      subst e
      exact (List.nodup_cons.mp hn).1 hu'
    have hst := step_sto (way := way) (m := m) (v := v) hz (show u < z 4 by omega)
    rw [List.foldl_cons, List.map_cons, List.foldl_cons]
    have hg : goW z u way 98 = (match findW z (uStr w u) (uSum w 1 u) way 98 with
      | none => none
      | some l => some (putW (wearW z l (uSum w 1 u)) u (197 - 98), l.length)) := by
      unfold goW
      rw [if_pos ⟨l', u3⟩, same_str hs (good_q hG) u1, same_sum hs hG u1 (by omega)]
      cases findW z (uStr w u) (uSum w 1 u) way 98 <;> rfl
    cases hf : findW z (uStr w u) (uSum w 1 u) way 98 with
    | none =>
      rw [hf] at hg
      have e1 : ordStep way (z, m, v) u = (z, m, v) := by
        unfold ordStep
        rw [hg]
      have e2 : stT way (zs, m, v) (tyW w u) = (zs, m, v) := by
        show (match findW zs (uStr w u) (uSum w 1 u) way 98 with | none => (zs, m, v) | some l => (wearW zs l (uSum w 1 u), m + (if decide (0 < uSum w 3 u) = true then 1 else 0), v + uSum w 2 u)) = _
        rw [ef, hf]
      rw [e1] at hstay ⊢
      rw [e2]
      exact ih z zs m v hs hz he (List.nodup_cons.mp hn).2 hstay
    | some l =>
      rw [hf] at hg
      have e1 : ordStep way (z, m, v) u = (putW (wearW z l (uSum w 1 u)) u (197 - 98), m + (if 0 < uSum w 3 u then 1 else 0), v + uSum w 2 u) := by
        unfold ordStep
        rw [hg]
        show (_, m + (if 0 < uSum z 3 u then 1 else 0), v + uSum z 2 u) = _
        rw [same_sum hs hG u1 (by omega), same_sum hs hG u1 (by omega)]
      have e2 : stT way (zs, m, v) (tyW w u) = (wearW zs l (uSum w 1 u), m + (if 0 < uSum w 3 u then 1 else 0), v + uSum w 2 u) := by
        show (match findW zs (uStr w u) (uSum w 1 u) way 98 with | none => (zs, m, v) | some l => (wearW zs l (uSum w 1 u), m + (if decide (0 < uSum w 3 u) = true then 1 else 0), v + uSum w 2 u)) = _
        rw [ef, hf]
        show (_, m + (if decide (0 < uSum w 3 u) = true then 1 else 0), _) = _
        by_cases c : 0 < uSum w 3 u
        · rw [if_pos c, decide_eq_true c, if_pos rfl]
        · rw [if_neg c, decide_eq_false c, if_neg (by decide)]
      rw [e1] at hstay hst ⊢
      rw [e2]
      refine ih _ _ _ _ (same_tr hs hst.1) hst.2.1 (fun i hi => ?_) (List.nodup_cons.mp hn).2 hstay
      show wearW zs l (uSum w 1 u) i = putW (wearW z l (uSum w 1 u)) u (197 - 98) i
      rw [put_o hi]
      exact wear_cg l z zs (he i hi)
end
