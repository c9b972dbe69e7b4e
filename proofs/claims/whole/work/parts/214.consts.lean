def kRL : List Nat := [63, 91, 99, 76, 111, 128, 132, 133, 81, 143, 147, 151, 155, 162, 167, 86]
def kML : List Nat := [227, 229, 231, 215, 189, 197, 199, 201, 217, 203, 205, 207, 209, 211, 213, 219]
abbrev gFlat : List Cond := flatC (Jvm.Cond.and given_1 narrow_1)
abbrev tR (i : Nat) : Term := .string "BearsTwo$Reader" (kRL.getD i 0)
abbrev tM (i : Nat) : Term := .string "BearsTwoModel" (kML.getD i 0)
theorem gs_ex : ∀ i, i < strN → Cond.exactly (tR i) "java/lang/String" ∈ gFlat := by decide +kernel
theorem gs_co : ∀ i, i < strN → Cond.eq (.field (tR i) "java/lang/String" "coder" "B") (.int 0) ∈ gFlat := by decide +kernel
theorem gs_ar : ∀ i, i < strN → Cond.arrayOf (.field (tR i) "java/lang/String" "value" "[B") .byte ∈ gFlat := by decide +kernel
theorem gs_le : ∀ i, i < strN → Cond.eq (.length (.field (tR i) "java/lang/String" "value" "[B")) (.int (Int32.ofNat (strLen.getD i 0))) ∈ gFlat := by decide +kernel
theorem gs_el : ∀ i, i < strN → ∀ j, j < strLen.getD i 0 → Cond.eq (.elem (.field (tR i) "java/lang/String" "value" "[B") (.int (Int32.ofNat j))) (.int ((strByt.getD i []).getD j 0)) ∈ gFlat := by decide +kernel
theorem gs_eq : ∀ i, i < strN → Cond.eq (tR i) (tM i) ∈ gFlat := by decide +kernel
theorem gs_cs : Cond.eq (.static "java/lang/String" "COMPACT_STRINGS" "Z") (.int 1) ∈ gFlat := by decide +kernel
theorem gs_sf : Cond.isRef (.static "jdk/internal/util/Preconditions" "SIOOBE_FORMATTER" "Ljava/util/function/BiFunction;") ∈ gFlat := by decide +kernel
theorem gs_sm : ∀ i, i < strN → strLen.getD i 0 < 2 ^ 31 := by decide +kernel
theorem gs_ln : ∀ i, i < strN → ∀ j, j < strN → Int32.ofNat (strLen.getD i 0) = Int32.ofNat (strLen.getD j 0) → strLen.getD i 0 = strLen.getD j 0 := by decide +kernel
theorem gs_df : ∀ i, i < strN → ∀ j, j < strN → strLen.getD i 0 = strLen.getD j 0 → (∀ m, m < strLen.getD i 0 → (strByt.getD i []).getD m 0 = (strByt.getD j []).getD m 0) → i = j := by decide +kernel
theorem gs_R : ∀ q ∈ strT, Cond.stringRef q.1 q.2.1 q.2.2.1 ∈ lw_tbl ∧ q.2.2.2 < strN ∧ ((q.1 = "BearsTwo$Reader" ∧ q.2.1 = kRL.getD q.2.2.2 0) ∨ (q.1 = "BearsTwoModel" ∧ q.2.1 = kML.getD q.2.2.2 0)) := by decide +kernel
def gs_P (s : State) (A : Nat → Prop) (i : Nat) (q : Nat × Nat) : Prop := va_O "java/lang/String" q.1 A s s.heap ∧ va_OF "java/lang/String" "coder" "B" (.int 0) q.1 A s s.heap ∧ va_OF "java/lang/String" "value" "[B" (.ref q.2) q.1 A s s.heap ∧ va_T .byte q.2 (strLen.getD i 0) (fun j => .int ((strByt.getD i []).getD j 0)) A s s.heap
theorem gs_one {args : Array Value} {s : State} {A : Nat → Prop} (hs : ∀ c ∈ gFlat, c.before args s = true) (hA : ∀ a : Nat, a < s.heap.size → ¬ A a) (i : Nat) (hi : i < strN) : ∃ q : Nat × Nat, gs_P s A i q ∧ (tR i).eval args s none [] s = some (.ref q.1) := by
  have z : ∀ i' : Nat, i' < 1 → i' = 0 := fun i' h => by omega
  obtain ⟨adK, adV, hS, he⟩ := vk_Sof (args := args) (s := s) (N := 1) (tm := fun _ => tR i) (len := [strLen.getD i 0]) (byt := [strByt.getD i []]) (A := A)
    (fun i' h => by rw [z i' h]; exact gs_sm i hi) (fun i' h => hs _ (gs_ex i hi)) (fun i' h => hs _ (gs_co i hi)) (fun i' h => hs _ (gs_ar i hi)) (fun i' h => by rw [z i' h]; exact hs _ (gs_le i hi)) (fun i' h j hj => by rw [z i' h] at hj ⊢; exact hs _ (gs_el i hi j hj)) (fun i' j' h h' hn => absurd ((z i' h).trans (z j' h').symm) hn) hA
  exact ⟨(adK 0, adV 0), hS.1 0 (by decide), he 0 (by decide)⟩
theorem gs_inj {s : State} {A : Nat → Prop} {i j : Nat} {p q : Nat × Nat} (hi : i < strN) (hj : j < strN) (h1 : gs_P s A i p) (h2 : gs_P s A j q) (e : p.1 = q.1) : i = j := by
  obtain ⟨-, -, ⟨cf, k, fi, f, cell, a1, a2, a3, a4, a5, a6⟩, ⟨tc, b1, b2, b3, b4, b5, b6, b7⟩⟩ := h1
  obtain ⟨-, -, ⟨cf', k', fi', f', cell', a1', a2', a3', a4', a5', a6'⟩, ⟨tc', b1', b2', b3', b4', b5', b6', b7'⟩⟩ := h2
  rw [a1] at a1'
  cases a1'
  rw [← e, a3] at a3'
  cases a3'
  rw [a5] at a5'
  have e2 : p.2 = q.2 := by
    exact Value.ref.inj (Option.some.inj a5')
  rw [← e2, b1] at b1'
  cases b1'
  have el := gs_ln i hi j hj (b5.symm.trans b5')
  refine gs_df i hi j hj el (fun m hm => ?_)
  have x1 := b6 m hm
  have x2 := b6' m (by omega)
  rw [x1] at x2
  exact Value.int.inj (Option.some.inj x2)
set_option maxRecDepth 100000 in
/-- what the Statement gives of the String constants and of two statics, at the law's entry -/
theorem law_St {args : Array Value} {s : State} (hts : ∀ w ∈ lw_tbl, w.before args s = true) (hs : ∀ c ∈ gFlat, c.before args s = true) (D : va_G) (cA : Nat → ClassId) : ∃ adK adV : Nat → Nat, sm_StT (s.heap.size, D, cA, adK, adV) s s.heap := by
  have hA : ∀ a : Nat, a < s.heap.size → ¬ s.heap.size ≤ a := fun a h => by omega
  have h0 : ∀ i : Nat, ∃ q : Nat × Nat, i < strN → gs_P s (fun a => s.heap.size ≤ a) i q ∧ (tR i).eval args s none [] s = some (.ref q.1) := by
    intro i
    by_cases hi : i < strN
    · obtain ⟨q, hq⟩ := gs_one (A := fun a => s.heap.size ≤ a) hs hA i hi
      exact ⟨q, fun _ => hq⟩
    · exact ⟨(0, 0), fun h => absurd h hi⟩
  obtain ⟨ad, had⟩ := Classical.axiomOfChoice h0
  refine ⟨fun i => (ad i).1, fun i => (ad i).2, ?_, ⟨fun i hi => (had i hi).1, fun i j hi hj e => gs_inj hi hj (had i hi).1 (had j hj).1 e⟩, va_Zof (hts _ (lt3 (List.mem_of_getElem? (i := 74) rfl))) (hts _ (lt1 (List.mem_of_getElem? (i := 16) rfl))) (va_eqi (hs _ gs_cs)) hA, va_Nw.of rfl (hts _ (lt2 (List.mem_of_getElem? (i := 17) rfl))), va_Zqof (hts _ (lt3 (List.mem_of_getElem? (i := 90) rfl))) (hts _ (lt1 (List.mem_of_getElem? (i := 18) rfl))) (hs _ gs_sf) hA⟩
  intro q hq
  obtain ⟨h1, h2, h3⟩ := gs_R q hq
  refine vk_R.of (hts _ h1) (A := args) ?_
  have hr := (had _ h2).2
  rcases h3 with ⟨e1, e2⟩ | ⟨e1, e2⟩
  · rw [e1, e2]
    exact hr
  · rw [e1, e2]
    exact va_eqR (hs _ (gs_eq _ h2)) hr
