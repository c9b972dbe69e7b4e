/-! ===== A DAY WITH CRACKS: without machine ===== -/
def wkF (cr : Nat → Bool) (wt : Nat) : List Nat → (Nat → Nat) → (Nat → Nat) × Option Nat
  | [], w => (w, none)
  | s :: t, w => if (cr s && decide (1 < w (16 + 7 * s) + wt)) = true then (w, some s) else wkF cr wt t (up w (16 + 7 * s) (w (16 + 7 * s) + wt))
def wdR (u : Nat) (z : (Nat → Nat) × Option Nat) : (Nat → Nat) × Bool := match z.2 with
  | none => (putW z.1 u 99, true)
  | some s => (up z.1 (16 + 7 * s) (z.1 (12 + 7 * s)), false)
def rdR (u : Nat) (z : (Nat → Nat) × Option Nat) : (Nat → Nat) × Bool := match z.2 with
  | none => (putW z.1 u 99, true)
  | some s => (up z.1 (16 + 7 * s) 1000, false)
noncomputable def wdS (cr : Nat → Bool) (way : Nat) (w : Nat → Nat) (u : Nat) : (Nat → Nat) × Bool :=
  if lead w u = true ∧ uAt w u 98 = true then (match findW w (uStr w u) (uSum w 1 u) way 98 with
    | none => (w, false)
    | some l => wdR u (wkF cr (uSum w 1 u) l w)) else (w, false)
noncomputable def rdS (cr : Nat → Bool) (way : Nat) (w : Nat → Nat) (u : Nat) : (Nat → Nat) × Bool :=
  if lead w u = true ∧ uAt w u 98 = true then (match findW w (uStr w u) (uSum w 1 u) way 98 with
    | none => (w, false)
    | some l => rdR u (wkF cr (uSum w 1 u) l w)) else (w, false)
noncomputable def day (cr : Nat → Bool) (way : Nat) (w : Nat → Nat) : Nat → (Nat → Nat) × (Nat → Bool)
  | 0 => (w, fun _ => false)
  | u + 1 => ((wdS cr way (day cr way w u).1 u).1, fun k => (day cr way w u).2 k || (decide (k = u) && (wdS cr way (day cr way w u).1 u).2))
theorem same_goodR {w w' : Nat → Nat} (h : Same w w') (hG : GoodQ w) (d1 : w' 7 = w 7) (d2 : ∀ s, s < w 3 → w' (15 + 7 * s) = w (15 + 7 * s) ∧ w' (16 + 7 * s) ≤ 1000) (d3 : ∀ s, w 3 ≤ s → s < 25 → w' (16 + 7 * s) = 0) (d4 : ∀ p, p < w 4 → w' (191 + 7 * p) ≤ 99) : GoodQ w' := by
  obtain ⟨⟨g1, g2, g3, g4, g5⟩, g6, g7, g8, g9, g10, g11, g12, g13, g14⟩ := hG
  have h3 := h.1 3 (by omega)
  have h4 := h.1 4 (by omega)
  have st : ∀ s, s < w 3 → ∀ k, k < 5 → w' (10 + k + 7 * s) = w (10 + k + 7 * s) := by
    intro s hs k hk
    have := h.2.1 s k (by omega) hk
    rw [show 10 + k + 7 * s = 10 + 7 * s + k by omega]
    exact this
  have pt : ∀ p, p < w 4 → ∀ k, k < 6 → w' (185 + k + 7 * p) = w (185 + k + 7 * p) := by
    intro s hs k hk
    have := h.2.2 s k (by omega) hk
    rw [show 185 + k + 7 * s = 185 + 7 * s + k by omega]
    exact this
  unfold GoodQ
  rw [h.1 0 (by omega), h.1 1 (by omega), h.1 2 (by omega), h.1 6 (by omega), h3, h4, d1]
  refine ⟨⟨g1, g2, g3, g4, g5⟩, g6, g7, ?_, d3, ?_, ?_, ?_, ?_, d4⟩
  · intro s hs
    rw [st s hs 0 (by omega), st s hs 1 (by omega), st s hs 2 (by omega), st s hs 3 (by omega), st s hs 4 (by omega)]
    have a := g8 s hs
    have b := d2 s hs
    rw [b.1]
    exact ⟨a.1, a.2.1, a.2.2.1, a.2.2.2.1, a.2.2.2.2.1, a.2.2.2.2.2.1, a.2.2.2.2.2.2.1, a.2.2.2.2.2.2.2.1, b.2⟩
  · have e : fb_ct (fun s => decide (0 < w' (14 + 7 * s))) (w 3) = fb_ct (fun s => decide (0 < w (14 + 7 * s))) (w 3) := fb_ct_cong (fun k hk => by rw [st k hk 4 (by omega)])
    rw [e]
    exact g10
  · intro s t hs ht e1 e2
    rw [st s hs 0 (by omega), st t ht 0 (by omega)] at e1
    rw [st s hs 1 (by omega), st t ht 1 (by omega)] at e2
    exact g11 s t hs ht e1 e2
  · intro p hp
    rw [pt p hp 0 (by omega), pt p hp 1 (by omega), pt p hp 2 (by omega), pt p hp 3 (by omega), pt p hp 4 (by omega)]
    exact g12 p hp
  · intro p hp
    rw [pt p hp 5 (by omega)]
    rcases g13 p hp with q | ⟨q, a, b, c, d⟩
    · exact Or.inl q
    · exact Or.inr ⟨q, a, b, c, by rw [pt q b 5 (by omega)]; exact d⟩
theorem good_upQ {w : Nat → Nat} (hG : GoodQ w) {s v : Nat} (hs : s < w 3) (hv : v ≤ 1000) : Same w (up w (16 + 7 * s) v) ∧ GoodQ (up w (16 + 7 * s) v) := by
  have n := hG.1
  have h : Same w (up w (16 + 7 * s) v) := same_up (Or.inr (Or.inr (Or.inl ⟨s, by omega, rfl⟩)))
  refine ⟨h, same_goodR h hG (up_ne (by omega)) ?_ ?_ ?_⟩
  · intro t ht
    refine ⟨up_ne (by omega), ?_⟩
    by_cases c : t = s
    · rw [c, up_at]
      exact hv
    · rw [up_ne (by omega)]
      exact (hG.2.2.2.1 t ht).2.2.2.2.2.2.2.2
  · intro t h1 h2
    rw [up_ne (by omega)]
    exact hG.2.2.2.2.1 t h1 h2
  · intro p hp
    rw [up_ne (by omega)]
    exact hG.2.2.2.2.2.2.2.2.2 p hp
theorem put_ne {w : Nat → Nat} {u b i : Nat} (h : ∀ p, i ≠ 191 + 7 * p) : putW w u b i = w i := by
  unfold putW
  split
  · rw [up_ne (h _)]
  · rw [up_ne (h _), up_ne (h _)]
theorem good_putQ {w : Nat → Nat} (hG : GoodQ w) {u b : Nat} (hb : b ≤ 99) : Same w (putW w u b) ∧ GoodQ (putW w u b) := by
  have n := hG.1
  refine ⟨same_put, same_goodR same_put hG (put_ne (by omega)) ?_ ?_ ?_⟩
  · intro t ht
    have := (hG.2.2.2.1 t ht).2.2.2.2.2.2.2.2
    rw [put_ne (by omega), put_ne (by omega)]
    exact ⟨rfl, this⟩
  · intro t h1 h2
    rw [put_ne (by omega)]
    exact hG.2.2.2.2.1 t h1 h2
  · intro p hp
    rw [put_pl]
    split
    · exact hb
    · exact hG.2.2.2.2.2.2.2.2.2 p hp
theorem wkF_good {cr : Nat → Bool} {wt : Nat} : ∀ (l : List Nat) (w : Nat → Nat), GoodQ w → (∀ x, x ∈ l → x < w 3 ∧ w (16 + 7 * x) + wt ≤ 9) → l.Nodup → Same w (wkF cr wt l w).1 ∧ GoodQ (wkF cr wt l w).1 ∧ (∀ s, (wkF cr wt l w).2 = some s → s < w 3) := by
  intro l
  induction l with
  | nil =>
    intro w hG _ _
    exact ⟨same_rf w, hG, fun s h => by cases h⟩
  | cons s t ih =>
    intro w hG hl hn
    obtain ⟨h1, h2⟩ := hl s (List.mem_cons_self ..)
    rw [wkF]
    by_cases c : (cr s && decide (1 < w (16 + 7 * s) + wt)) = true
    · rw [if_pos c]
      exact ⟨same_rf w, hG, fun x h => by cases h; exact h1⟩
    · rw [if_neg c]
      obtain ⟨s1, g1⟩ := good_upQ hG h1 (v := w (16 + 7 * s) + wt) (by omega)
      have hn := List.nodup_cons.mp hn
      have e3 : up w (16 + 7 * s) (w (16 + 7 * s) + wt) 3 = w 3 := up_ne (by omega)
      obtain ⟨a1, a2, a3⟩ := ih _ g1 (fun x hx => by
        have := hl x (List.mem_cons_of_mem _ hx)
        have ne : x ≠ s := fun z => hn.1 (by rw [← z]; exact hx)
        rw [e3, up_ne (by omega)]
        exact this) hn.2
      rw [e3] at a3
      exact ⟨same_tr s1 a1, a2, a3⟩
theorem opn_9 {w : Nat → Nat} (hG : GoodQ w) {wt x : Nat} (hw : 1 ≤ wt) (hx : x < w 3) (ho : opn w wt x = true) : w (16 + 7 * x) + wt ≤ 9 := by
  have g := hG.2.2.2.1 x hx
  unfold opn at ho
  have ho := (of_decide_eq_true ho).2
  unfold lf at ho
  split at ho
  · omega
  · split at ho <;> omega
theorem wdS_good {cr : Nat → Bool} {way : Nat} {w : Nat → Nat} (hG : GoodQ w) {u : Nat} (hu : u < w 4) : Same w (wdS cr way w u).1 ∧ GoodQ (wdS cr way w u).1 := by
  have t1 := (uWt_rngQ hG hu).1
  unfold wdS
  by_cases c : lead w u = true ∧ uAt w u 98 = true
  · rw [if_pos c]
    cases hf : findW w (uStr w u) (uSum w 1 u) way 98 with
    | none => exact ⟨same_rf w, hG⟩
    | some l =>
      obtain ⟨f1, f2, -⟩ := find_facts hf
      obtain ⟨a1, a2, a3⟩ := wkF_good (cr := cr) l w hG (fun x hx => ⟨(f1 x hx).1, opn_9 hG t1 (f1 x hx).1 (f1 x hx).2⟩) f2
      show Same w (wdR u (wkF cr (uSum w 1 u) l w)).1 ∧ GoodQ (wdR u (wkF cr (uSum w 1 u) l w)).1
      unfold wdR
      have w3 := a1.1 3 (by omega)
      cases ho : (wkF cr (uSum w 1 u) l w).2 with
      | none =>
        obtain ⟨b1, b2⟩ := good_putQ a2 (u := u) (b := 99) (by omega)
        exact ⟨same_tr a1 b1, b2⟩
      | some s =>
        have hs := a3 s ho
        have g := a2.2.2.2.1 s (by omega)
        obtain ⟨c1, c2⟩ := good_upQ a2 (s := s) (v := (wkF cr (uSum w 1 u) l w).1 (12 + 7 * s)) (by omega) (by omega)
        exact ⟨same_tr a1 c1, c2⟩
  · rw [if_neg c]
    exact ⟨same_rf w, hG⟩
theorem day_good {cr : Nat → Bool} {way : Nat} {w : Nat → Nat} (hG : GoodQ w) : ∀ u, u ≤ w 4 → Same w (day cr way w u).1 ∧ GoodQ (day cr way w u).1 ∧ ∀ k, (day cr way w u).2 k = true → k < u := by
  intro u
  induction u with
  | zero =>
    intro _
    exact ⟨same_rf w, hG, fun k h => by cases h⟩
  | succ u ih =>
    intro hu
    obtain ⟨a1, a2, a3⟩ := ih (by omega)
    have w4 := a1.1 4 (by omega)
    obtain ⟨b1, b2⟩ := wdS_good (cr := cr) (way := way) a2 (u := u) (by omega)
    refine ⟨same_tr a1 b1, b2, ?_⟩
    intro k hk
    have hk : ((day cr way w u).2 k || (decide (k = u) && (wdS cr way (day cr way w u).1 u).2)) = true := hk
    simp only [Bool.or_eq_true, Bool.and_eq_true, decide_eq_true_eq] at hk
    rcases hk with q | q
    · have := a3 k q
      omega
    · omega
