/-! ===== ORDERS (no machine in it) ===== -/
def PO (W : List Nat) (f : Nat → Nat) : Prop := (∀ i, i < W.length → f i ∈ W) ∧ (∀ i j, i < W.length → j < W.length → f i = f j → i = j) ∧ (∀ a, a ∈ W → ∃ i, i < W.length ∧ f i = a)
def lxG (n : Nat) (f g : Nat → Nat) : Prop := ∃ d, d < n ∧ f d < g d ∧ ∀ k, k < d → f k = g k
def fnL (l : List Nat) : Nat → Nat := fun i => l.getD i 0
def lsF (n : Nat) (f : Nat → Nat) : List Nat := (List.range n).map f
theorem first_diff (f g : Nat → Nat) : ∀ n, (∀ k, k < n → f k = g k) ∨ ∃ d, d < n ∧ f d ≠ g d ∧ ∀ k, k < d → f k = g k := by
  intro n
  induction n with
  | zero => exact Or.inl (fun k hk => by omega)
  | succ n ih =>
    rcases ih with h | ⟨d, h1, h2, h3⟩
    · by_cases c : f n = g n
      · refine Or.inl (fun k hk => ?_)
        by_cases e : k = n
        · rw [e, c]
        · exact h k (by omega)
      · exact Or.inr ⟨n, by omega, c, h⟩
    · exact Or.inr ⟨d, by omega, h2, h3⟩
theorem lx_irr {n : Nat} {f : Nat → Nat} : ¬ lxG n f f := by
  rintro ⟨d, _, h, _⟩
  omega
theorem lx_tr {n : Nat} {f g h : Nat → Nat} (a : lxG n f g) (b : lxG n g h) : lxG n f h := by
  obtain ⟨d, d1, d2, d3⟩ := a
  obtain ⟨e, e1, e2, e3⟩ := b
  by_cases c : d < e
  · exact ⟨d, d1, by rw [← e3 d c]; exact d2, fun k hk => (d3 k hk).trans (e3 k (by omega))⟩
  · by_cases c' : d = e
    · subst c'
      exact ⟨d, d1, by omega, fun k hk => (d3 k hk).trans (e3 k hk)⟩
    · exact ⟨e, e1, by rw [d3 e (by omega)]; exact e2, fun k hk => (d3 k (by omega)).trans (e3 k hk)⟩
theorem lsF_len {n : Nat} {f : Nat → Nat} : (lsF n f).length = n := by
  unfold lsF
  rw [List.length_map, List.length_range]
theorem lsF_at {n i : Nat} {f : Nat → Nat} (h : i < n) : fnL (lsF n f) i = f i := by
  unfold fnL lsF
  rw [List.getD_eq_getElem?_getD, List.getElem?_map, List.getElem?_range h]
  rfl
theorem fnL_ext {l l' : List Nat} (hl : l.length = l'.length) (h : ∀ i, i < l.length → fnL l i = fnL l' i) : l = l' := by
  apply List.ext_getElem hl
  intro i h1 h2
  have := h i h1
  unfold fnL at this
  rw [List.getD_eq_getElem?_getD, List.getD_eq_getElem?_getD, List.getElem?_eq_getElem h1, List.getElem?_eq_getElem h2] at this
  exact this
theorem fnL_0 {x : Nat} {q : List Nat} : fnL (x :: q) 0 = x := rfl
theorem fnL_s {x i : Nat} {q : List Nat} : fnL (x :: q) (i + 1) = fnL q i := rfl
theorem permsF_s {n : Nat} {L q : List Nat} : q ∈ permsF (n + 1) L ↔ ∃ x p, x ∈ L ∧ p ∈ permsF n (L.erase x) ∧ q = x :: p := by
  show q ∈ L.flatMap (fun x => (permsF n (L.erase x)).map (fun q => x :: q)) ↔ _
  rw [List.mem_flatMap]
  constructor
  · rintro ⟨x, hx, hq⟩
    obtain ⟨p, hp, rfl⟩ := List.mem_map.mp hq
    exact ⟨x, p, hx, hp, rfl⟩
  · rintro ⟨x, p, hx, hp, rfl⟩
    exact ⟨x, hx, List.mem_map.mpr ⟨p, hp, rfl⟩⟩
theorem perm_PO : ∀ (n : Nat) (L q : List Nat), L.Nodup → L.length = n → q ∈ permsF n L → q.length = n ∧ PO L (fnL q) := by
  intro n
  induction n with
  | zero =>
    intro L q hN hL hq
    have e : L = [] := List.length_eq_zero_iff.mp hL
    subst e
    have : q = [] := by
      unfold permsF at hq
      exact List.mem_singleton.mp hq
    subst this
    exact ⟨rfl, fun i hi => absurd hi (by simp), fun i j hi => absurd hi (by simp), fun a ha => absurd ha (by simp)⟩
  | succ n ih =>
    intro L q hN hL hq
    obtain ⟨x, p, hx, hp, rfl⟩ := permsF_s.mp hq
    have hl : (L.erase x).length = n := by
      rw [List.length_erase_of_mem hx]
      omega
    obtain ⟨h1, h2, h3, h4⟩ := ih (L.erase x) p (hN.erase x) hl hp
    rw [hl] at h2 h3 h4
    refine ⟨by rw [List.length_cons, h1], fun i hi => ?_, fun i j hi hj he => ?_, fun a ha => ?_⟩
    · cases i with
      | zero => exact hx
      | succ i => exact List.mem_of_mem_erase (h2 i (by omega))
    · cases i with
      | zero =>
        cases j with
        | zero => rfl
        | succ j =>
          have := h2 j (by omega)
          rw [fnL_0, fnL_s] at he
          rw [← he] at this
          exact absurd ((hN.mem_erase_iff).mp this).1 (by simp)
      | succ i =>
        cases j with
        | zero =>
          have := h2 i (by omega)
          rw [fnL_0, fnL_s] at he
          rw [he] at this
          exact absurd ((hN.mem_erase_iff).mp this).1 (by simp)
        | succ j =>
          have := h3 i j (by omega) (by omega) he
          omega
    · by_cases c : a = x
      · exact ⟨0, by omega, c.symm⟩
      · obtain ⟨i, i1, i2⟩ := h4 a ((hN.mem_erase_iff).mpr ⟨c, ha⟩)
        exact ⟨i + 1, by omega, i2⟩
theorem PO_perm : ∀ (n : Nat) (L : List Nat) (f : Nat → Nat), L.Nodup → L.length = n → PO L f → lsF n f ∈ permsF n L := by
  intro n
  induction n with
  | zero =>
    intro L f _ _ _
    unfold permsF lsF
    exact List.mem_singleton.mpr rfl
  | succ n ih =>
    intro L f hN hL h
    obtain ⟨h1, h2, h3⟩ := h
    have hx := h1 0 (by omega)
    have hl : (L.erase (f 0)).length = n := by
      rw [List.length_erase_of_mem hx]
      omega
    have e : lsF (n + 1) f = f 0 :: lsF n (fun i => f (i + 1)) := by
      unfold lsF
      rw [List.range_succ_eq_map, List.map_cons, List.map_map]
      rfl
    rw [e]
    refine permsF_s.mpr ⟨f 0, _, hx, ih _ _ (hN.erase _) hl ⟨fun i hi => ?_, fun i j hi hj he => ?_, fun a ha => ?_⟩, rfl⟩
    · rw [hl] at hi
      refine (hN.mem_erase_iff).mpr ⟨fun z => ?_, h1 (i + 1) (by omega)⟩
      have := h2 (i + 1) 0 (by omega) (by omega) z
      omega
    · rw [hl] at hi hj
      have := h2 (i + 1) (j + 1) (by omega) (by omega) he
      omega
    · obtain ⟨a1, a2⟩ := (hN.mem_erase_iff).mp ha
      obtain ⟨i, i1, i2⟩ := h3 a a2
      cases i with
      | zero => exact absurd i2.symm a1
      | succ i => exact ⟨i, by omega, i2⟩
theorem perm_sorted : ∀ (n : Nat) (L : List Nat), L.Pairwise (· < ·) → L.length = n → (permsF n L).Pairwise (fun p q => lxG n (fnL p) (fnL q)) := by
  intro n
  induction n with
  | zero =>
    intro L _ _
    unfold permsF
    exact List.pairwise_singleton _ _
  | succ n ih =>
    intro L hS hL
    unfold permsF
    rw [List.pairwise_flatMap]
    constructor
    · intro x hx
      have hl : (L.erase x).length = n := by
        rw [List.length_erase_of_mem hx]
        omega
      rw [List.pairwise_map]
      refine (ih (L.erase x) (hS.sublist List.erase_sublist) hl).imp ?_
      rintro p q ⟨d, d1, d2, d3⟩
      refine ⟨d + 1, by omega, d2, fun k hk => ?_⟩
      cases k with
      | zero => rfl
      | succ k => exact d3 k (by omega)
    · refine hS.imp ?_
      intro x y hxy p hp q hq
      obtain ⟨p', _, rfl⟩ := List.mem_map.mp hp
      obtain ⟨q', _, rfl⟩ := List.mem_map.mp hq
      exact ⟨0, by omega, hxy, fun k hk => by omega⟩
def facN : Nat → Nat
  | 0 => 1
  | n + 1 => (n + 1) * facN n
theorem flat_len {g : Nat → List (List Nat)} {c : Nat} : ∀ L : List Nat, (∀ x, x ∈ L → (g x).length ≤ c) → (L.flatMap g).length ≤ L.length * c := by
  intro L
  induction L with
  | nil => intro _; simp
  | cons x L ih =>
    intro h
    rw [List.flatMap_cons, List.length_append, List.length_cons, Nat.succ_mul]
    have h1 := h x (List.mem_cons_self ..)
    have h2 := ih (fun y hy => h y (List.mem_cons_of_mem _ hy))
    omega
theorem perm_len : ∀ (n : Nat) (L : List Nat), L.length = n → (permsF n L).length ≤ facN n := by
  intro n
  induction n with
  | zero => intro L _; exact Nat.le_refl _
  | succ n ih =>
    intro L hL
    show (L.flatMap (fun x => (permsF n (L.erase x)).map (fun q => x :: q))).length ≤ (n + 1) * facN n
    have := flat_len (g := fun x => (permsF n (L.erase x)).map (fun q => x :: q)) (c := facN n) L (fun x hx => by
      rw [List.length_map]
      exact ih _ (by rw [List.length_erase_of_mem hx]; omega))
    rw [hL] at this
    exact this
theorem facN_le {n : Nat} (h : n ≤ 6) : facN n ≤ 720 := by
  have : n = 0 ∨ n = 1 ∨ n = 2 ∨ n = 3 ∨ n = 4 ∨ n = 5 ∨ n = 6 := by omega
  rcases this with rfl | rfl | rfl | rfl | rfl | rfl | rfl <;> decide
/-! the next order -/
theorem PO_later {W : List Nat} {f q : Nat → Nat} (hf : PO W f) (hq : PO W q) {d : Nat} (hd : d < W.length) (he : ∀ k, k < d → f k = q k) : ∃ k, d ≤ k ∧ k < W.length ∧ q d = f k := by
  obtain ⟨k, k1, k2⟩ := hf.2.2 (q d) (hq.1 d hd)
  refine ⟨k, ?_, k1, k2.symm⟩
  refine Classical.byContradiction (fun z => ?_)
  have := he k (by omega)
  have := hq.2.1 k d k1 hd (by omega)
  omega
theorem dec_ge {f : Nat → Nat} {a n : Nat} (h : ∀ k, a ≤ k → k + 1 < n → f (k + 1) < f k) : ∀ m i, a ≤ i → i + m < n → f (i + m) ≤ f i ∧ (0 < m → f (i + m) < f i) := by
  intro m
  induction m with
  | zero => intro i _ _; exact ⟨Nat.le_refl _, fun z => by omega⟩
  | succ m ih =>
    intro i hi hm
    have h1 := ih i hi (by omega)
    have h2 := h (i + m) (by omega) (by omega)
    refine ⟨?_, fun _ => ?_⟩
    · show f (i + m + 1) ≤ f i
      omega
    · show f (i + m + 1) < f i
      omega
theorem dec_g {f : Nat → Nat} {a n : Nat} (h : ∀ k, a ≤ k → k + 1 < n → f (k + 1) < f k) {i j : Nat} (hi : a ≤ i) (hij : i < j) (hj : j < n) : f j < f i := by
  have := (dec_ge h (j - i) i hi (by omega)).2 (by omega)
  rw [show i + (j - i) = j by omega] at this
  exact this
/-- the greatest order has no next -/
theorem no_next {W : List Nat} {f : Nat → Nat} (hf : PO W f) (hd : ∀ k, k + 1 < W.length → f (k + 1) < f k) {q : Nat → Nat} (hq : PO W q) : ¬ lxG W.length f q := by
  rintro ⟨d, d1, d2, d3⟩
  obtain ⟨k, k1, k2, k3⟩ := PO_later hf hq d1 d3
  by_cases c : k = d
  · rw [c] at k3
    omega
  · have := dec_g (a := 0) (fun k _ hk => hd k hk) (Nat.zero_le d) (show d < k by omega) k2
    omega
/-- the order behind: i the last place where it grows, j the last that is greater there, then turned round -/
def nxt (n i j : Nat) (f : Nat → Nat) : Nat → Nat := fun k => if k < i then f k else if k = i then f j else if n + i - k = j then f i else f (n + i - k)
theorem nxt_PO {W : List Nat} {f : Nat → Nat} (hf : PO W f) {i j : Nat} (hij : i < j) (hj : j < W.length) : PO W (nxt W.length i j f) := by
  obtain ⟨h1, h2, h3⟩ := hf
  refine ⟨fun k hk => ?_, fun k l hk hl he => ?_, fun a ha => ?_⟩
  · unfold nxt
    split
    · exact h1 _ (by omega)
    · split
      · exact h1 _ (by omega)
      · split <;> exact h1 _ (by omega)
  · unfold nxt at he
    repeat' split at he
    all_goals first
      | omega
      | (have := h2 _ _ (by omega) (by omega) he; omega)
  · obtain ⟨k, k1, k2⟩ := h3 a ha
    by_cases c1 : k < i
    · refine ⟨k, k1, ?_⟩
      unfold nxt
      rw [if_pos c1]
      exact k2
    · by_cases c2 : k = j
      · refine ⟨i, by omega, ?_⟩
        unfold nxt
        rw [if_neg (by omega), if_pos rfl, ← c2]
        exact k2
      · by_cases c3 : k = i
        · refine ⟨W.length + i - j, by omega, ?_⟩
          unfold nxt
          rw [if_neg (by omega), if_neg (by omega), if_pos (by omega), ← c3]
          exact k2
        · refine ⟨W.length + i - k, by omega, ?_⟩
          unfold nxt
          rw [if_neg (by omega), if_neg (by omega), if_neg (by omega), show W.length + i - (W.length + i - k) = k by omega]
          exact k2
theorem nxt_lx {W : List Nat} {f : Nat → Nat} (hf : PO W f) {i j : Nat} (hij : i < j) (hj : j < W.length) (hg : f i < f j) : lxG W.length f (nxt W.length i j f) := by
  refine ⟨i, by omega, ?_, fun k hk => ?_⟩
  · unfold nxt
    rw [if_neg (by omega), if_pos rfl]
    exact hg
  · unfold nxt
    rw [if_pos hk]
theorem nxt_least {W : List Nat} {f : Nat → Nat} (hf : PO W f) {i j : Nat} (hij : i < j) (hj : j < W.length) (hg : f i < f j) (hd : ∀ k, i + 1 ≤ k → k + 1 < W.length → f (k + 1) < f k) (hb : ∀ k, j < k → k < W.length → f k < f i) {q : Nat → Nat} (hq : PO W q) (hl : lxG W.length f q) : (∀ k, k < W.length → nxt W.length i j f k = q k) ∨ lxG W.length (nxt W.length i j f) q := by
  obtain ⟨d, d1, d2, d3⟩ := hl
  obtain ⟨k, k1, k2, k3⟩ := PO_later hf hq d1 d3
  have lo : ∀ k, k < i → nxt W.length i j f k = f k := fun k hk => by
    unfold nxt
    rw [if_pos hk]
  have at_i : nxt W.length i j f i = f j := by
    unfold nxt
    rw [if_neg (by omega), if_pos rfl]
  by_cases c1 : d < i
  · exact Or.inr ⟨d, d1, by rw [lo d c1]; exact d2, fun k hk => by rw [lo k (by omega)]; exact d3 k hk⟩
  · by_cases c2 : i < d
    · exfalso
      by_cases c : k = d
      · rw [c] at k3
        omega
      · have := dec_g (a := i + 1) hd (show i + 1 ≤ d by omega) (show d < k by omega) k2
        omega
    · have e : d = i := by omega
      subst e
      have ki : k ≠ d := by
        intro z
        rw [z] at k3
        omega
      have kj : k ≤ j := by
        refine Classical.byContradiction (fun z => ?_)
        have := hb k (by omega) k2
        omega
      by_cases c3 : k = j
      · rcases first_diff (nxt W.length d j f) q W.length with h | ⟨e, e1, e2, e3⟩
        · exact Or.inl h
        · right
          have de : d < e := by
            refine Classical.byContradiction (fun z => ?_)
            by_cases c : e = d
            · rw [c, at_i, k3, c3] at e2
              exact e2 rfl
            · rw [lo e (by omega)] at e2
              exact e2 (d3 e (by omega))
          obtain ⟨m, m1, m2, m3⟩ := PO_later (nxt_PO hf hij hj) hq e1 e3
          have em : e ≠ m := by
            intro z
            rw [z] at e2
            rw [z] at m3
            exact e2 m3.symm
          refine ⟨e, e1, ?_, e3⟩
          rw [m3]
          have inc : ∀ a, d < a → a < W.length → nxt W.length d j f a = if W.length + d - a = j then f d else f (W.length + d - a) := by
            intro a h1 h2
            unfold nxt
            rw [if_neg (by omega), if_neg (by omega)]
          rw [inc e de e1, inc m (by omega) m2]
          by_cases p1 : W.length + d - e = j
          · rw [if_pos p1, if_neg (by omega)]
            have := dec_g (a := d + 1) hd (show d + 1 ≤ W.length + d - m by omega) (show W.length + d - m < j by omega) hj
            omega
          · rw [if_neg p1]
            by_cases p2 : W.length + d - m = j
            · rw [if_pos p2]
              exact hb _ (by omega) (by omega)
            · rw [if_neg p2]
              exact dec_g (a := d + 1) hd (by omega) (by omega) (by omega)
      · right
        refine ⟨d, d1, ?_, fun k hk => by rw [lo k (by omega)]; exact d3 k hk⟩
        rw [at_i, k3]
        exact dec_g (a := d + 1) hd (by omega) (by omega) hj
