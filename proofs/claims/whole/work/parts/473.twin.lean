/-! ===== ORDERS: swaps of the alike; the world on the way (no machine in it) ===== -/
theorem perm_nd : ∀ (n : Nat) (L q : List Nat), L.Nodup → L.length = n → q ∈ permsF n L → q.Nodup ∧ (∀ u, u ∈ q → u ∈ L) := by
  intro n
  induction n with
  | zero =>
    intro L q hN hL hq
    have : q = [] := by
      unfold permsF at hq
      exact List.mem_singleton.mp hq
    subst this
    exact ⟨List.nodup_nil, fun u hu => by cases hu⟩
  | succ n ih =>
    intro L q hN hL hq
    obtain ⟨x, p, hx, hp, rfl⟩ := permsF_s.mp hq
    obtain ⟨h1, h2⟩ := ih (L.erase x) p (hN.erase x) (by rw [List.length_erase_of_mem hx]; omega) hp
    refine ⟨List.nodup_cons.mpr ⟨fun z => ((hN.mem_erase_iff).mp (h2 x z)).1 rfl, h1⟩, fun u hu => ?_⟩
    rcases List.mem_cons.mp hu with e | e
    · rw [e]
      exact hx
    · exact List.mem_of_mem_erase (h2 u e)
theorem fnL_mem {q : List Nat} {i : Nat} (h : i < q.length) : fnL q i ∈ q := by
  unfold fnL
  rw [List.getD_eq_getElem?_getD, List.getElem?_eq_getElem h]
  exact List.getElem_mem h
theorem lsF_fnL {q : List Nat} : lsF q.length (fnL q) = q := by
  apply fnL_ext lsF_len
  intro i hi
  rw [lsF_len] at hi
  exact lsF_at hi
theorem twin_perm {β : Type} {t : Nat → β} {R : List Nat} {k a y : Nat} {q : List Nat} (hN : R.Nodup) (hR : R.length = k + 1) (ha : a ∈ R) (hy : y ∈ R) (hne : a ≠ y) (ht : t a = t y) (hq : q ∈ permsF k (R.erase y)) : ∃ q', q' ∈ permsF k (R.erase a) ∧ (a :: q').map t = (y :: q).map t := by
  have ly : (R.erase y).length = k := by
    rw [List.length_erase_of_mem hy]
    omega
  have la : (R.erase a).length = k := by
    rw [List.length_erase_of_mem ha]
    omega
  obtain ⟨q1, q2, q3, q4⟩ := perm_PO k (R.erase y) q (hN.erase y) ly hq
  rw [ly] at q2 q3 q4
  have inR : ∀ i, i < k → fnL q i ∈ R ∧ fnL q i ≠ y := fun i hi => ⟨List.mem_of_mem_erase (q2 i hi), ((hN.mem_erase_iff).mp (q2 i hi)).1⟩
  refine ⟨lsF k (fun i => if fnL q i = a then y else fnL q i), PO_perm k (R.erase a) _ (hN.erase a) la ⟨fun i hi => ?_, fun i j hi hj he => ?_, fun b hb => ?_⟩, ?_⟩
  · rw [la] at hi
    show (if fnL q i = a then y else fnL q i) ∈ R.erase a
    by_cases c : fnL q i = a
    · rw [if_pos c]
      exact (hN.mem_erase_iff).mpr ⟨fun z => hne z.symm, hy⟩
    · rw [if_neg c]
      exact (hN.mem_erase_iff).mpr ⟨c, (inR i hi).1⟩
  · rw [la] at hi hj
    have i1 := inR i hi
    have j1 := inR j hj
    apply q3 i j hi hj
    by_cases c : fnL q i = a
    · by_cases d : fnL q j = a
      · rw [c, d]
      · simp only [if_pos c, if_neg d] at he
        exact absurd he.symm j1.2
    · by_cases d : fnL q j = a
      · simp only [if_neg c, if_pos d] at he
        exact absurd he i1.2
      · simp only [if_neg c, if_neg d] at he
        exact he
  · rw [la]
    obtain ⟨b1, b2⟩ := (hN.mem_erase_iff).mp hb
    by_cases c : b = y
    · obtain ⟨i, i1, i2⟩ := q4 a ((hN.mem_erase_iff).mpr ⟨hne, ha⟩)
      exact ⟨i, i1, by simp only [if_pos i2]; exact c.symm⟩
    · obtain ⟨i, i1, i2⟩ := q4 b ((hN.mem_erase_iff).mpr ⟨c, b2⟩)
      have : ¬ fnL q i = a := by
        rw [i2]
        exact b1
      exact ⟨i, i1, by simp only [if_neg this]; exact i2⟩
  · rw [List.map_cons, List.map_cons, ht]
    congr 1
    have e : q = lsF k (fnL q) := by
      rw [← q1]
      exact lsF_fnL.symm
    rw [show q.map t = (lsF k (fnL q)).map t by rw [← e]]
    unfold lsF
    rw [List.map_map, List.map_map]
    apply List.map_congr_left
    intro i _
    show t (if fnL q i = a then y else fnL q i) = t (fnL q i)
    by_cases c : fnL q i = a
    · rw [if_pos c, c, ht]
    · rw [if_neg c]
section
variable {w : Nat → Nat} {way : Nat}
theorem fold_ok : ∀ (p : List Nat) (z : Nat → Nat) (m v : Nat), StO w z → w 4 ≤ 8 → p.Nodup → (∀ u, u ∈ p → u < w 4) → StO w (p.foldl (ordStep way) (z, m, v)).1 ∧ ∀ u', u' < w 4 → lead w u' = true → u' ∉ p → uAt z u' 98 = true → uAt (p.foldl (ordStep way) (z, m, v)).1 u' 98 = true := by
  intro p
  induction p with
  | nil => intro z m v h _ _ _; exact ⟨h, fun u' _ _ _ z => z⟩
  | cons u p ih =>
    intro z m v h h8 hn hp
    have hu := hp u (List.mem_cons_self ..)
    have e4 := h.1.1 4 (by omega)
    have hs := step_sto (way := way) (m := m) (v := v) h.2.1 (show u < z 4 by omega)
    have := ih (ordStep way (z, m, v) u).1 (ordStep way (z, m, v) u).2.1 (ordStep way (z, m, v) u).2.2 (sto_tr h hs) h8 (List.nodup_cons.mp hn).2 (fun y hy => hp y (List.mem_cons_of_mem _ hy))
    refine ⟨this.1, fun u' h1 h2 h3 h4 => this.2 u' h1 h2 (fun q => h3 (List.mem_cons_of_mem _ q)) ?_⟩
    refine step_stay h.2.1 (by omega) (by omega) (by rw [same_lead h.1 (by omega)]; exact h2) (fun e => h3 ?_) h4
    rw [e]
    exact List.mem_cons_self ..
def Uok (w : Nat → Nat) (l : List Nat) : Prop := l.Nodup ∧ ∀ u, u ∈ l → u < w 4 ∧ lead w u = true ∧ uAt w u 98 = true
theorem out_eq (hG : Good w) {l l' : List Nat} (h : Uok w l) (h' : Uok w l') (e : l.map (tyW w) = l'.map (tyW w)) : ordOut w way l = ordOut w way l' := by
  unfold ordOut
  rw [out_ty hG l w w 0 0 (same_rf w) hG (fun _ _ => rfl) h.1 h.2, out_ty hG l' w w 0 0 (same_rf w) hG (fun _ _ => rfl) h'.1 h'.2, e]
theorem uok_perm {p R q : List Nat} {k : Nat} (h : Uok w (p ++ R)) (hR : R.length = k) (hq : q ∈ permsF k R) : Uok w (p ++ q) := by
  obtain ⟨h1, h2⟩ := h
  have a := List.nodup_append.mp h1
  obtain ⟨q1, q2⟩ := perm_nd k R q a.2.1 hR hq
  refine ⟨List.nodup_append.mpr ⟨a.1, q1, fun x hx y hy => a.2.2 x hx y (q2 y hy)⟩, fun u hu => ?_⟩
  rcases List.mem_append.mp hu with e | e
  · exact h2 u (List.mem_append.mpr (Or.inl e))
  · exact h2 u (List.mem_append.mpr (Or.inr (q2 u e)))
theorem ord_app {p q : List Nat} {o : (Nat → Nat) × Nat × Nat} (h : p.foldl (ordStep way) (w, 0, 0) = o) : ordOut w way (p ++ q) = (q.foldl (ordStep way) o).2 := by
  unfold ordOut
  rw [List.foldl_append, h]
/-- the bound: where it is no better, no order of those left is -/
theorem bound_no (hG : Good w) {p R : List Nat} {k m v : Nat} {z : Nat → Nat} {b : Option ((Nat × Nat) × List Nat)} (hU : Uok w (p ++ R)) (hR : R.length = k) (ho : p.foldl (ordStep way) (w, 0, 0) = (z, m, v)) (hz : StO w z) (hb : bBt b (m + (R.map (mB z)).sum, v + (R.map (vB z)).sum) = false) : ∀ l, l ∈ (permsF k R).map (fun q => p ++ q) → geO b (ordOut w way l) := by
  intro l hl
  obtain ⟨q, hq, rfl⟩ := List.mem_map.mp hl
  have nR := (List.nodup_append.mp hU.1).2.1
  obtain ⟨_, q2⟩ := perm_nd k R q nR hR hq
  have e4 := hz.1.1 4 (by omega)
  obtain ⟨b1, b2⟩ := ord_bound (way := way) hz.2.1 q z m v (sto_rf hz.2.1) (fun u hu => by
    have := (hU.2 u (List.mem_append.mpr (Or.inr (q2 u hu)))).1
    omega)
  rw [perm_sum k R q hR hq] at b1 b2
  rw [ord_app ho]
  cases b with
  | none => cases hb
  | some y =>
    refine ⟨y, rfl, ?_⟩
    have hb : better (m + (R.map (mB z)).sum, v + (R.map (vB z)).sum) y.1 = false := hb
    unfold better at hb ⊢
    rw [decide_eq_false_iff_not] at hb ⊢
    have hb : ¬ (y.1.1 < m + (R.map (mB z)).sum ∨ (m + (R.map (mB z)).sum = y.1.1 ∧ y.1.2 < v + (R.map (vB z)).sum)) := hb
    omega
end
