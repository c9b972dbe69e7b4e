/-- the cells that the two constructors make, in their order: kind (0 .. 12 a class of 'classes', 20 int[], 21 byte[], 22 boolean[], 23 long[], 24 Scene[], 25 Row[], 26 River[]), length, references -/
def kdL : List Nat := [11, 21, 6, 7, 20, 20, 20, 20, 20, 20, 20, 20, 20, 21, 7, 20, 20, 20, 20, 20, 20, 20, 20, 20, 9, 20, 20, 20, 9, 20, 20, 20, 3, 20, 20, 20, 10, 20, 20, 20, 20, 0, 5, 24, 20, 20, 9, 20, 20, 20, 9, 20, 20, 20, 9, 20, 20, 20, 9, 20, 20, 20, 9, 20, 20, 20, 9, 20, 20, 20, 9, 20, 20, 20, 1, 20, 2, 4, 20, 20, 20, 20, 20, 4, 20, 20, 20, 20, 20, 20, 20, 20, 25, 26, 24, 22, 8, 23, 8, 23, 8, 23, 8, 23, 7, 20, 20, 20, 20, 20, 20, 20, 20, 20, 9, 20, 20, 20, 7, 20, 20, 20, 20, 20, 20, 20, 20, 20, 9, 20, 20, 20, 7, 20, 20, 20, 20, 20, 20, 20, 20, 20, 9, 20, 20, 20, 12, 20, 20, 22, 21, 20, 20, 20, 20, 20, 20, 20, 20, 20, 20, 20, 20, 20, 20, 20, 20, 23, 20, 20, 23, 23]
def lnL : List Nat := [0, 1600, 0, 0, 24, 24, 24, 24, 24, 8, 8, 8, 8, 0, 0, 24, 24, 24, 24, 24, 8, 8, 8, 8, 0, 24, 24, 8, 0, 24, 24, 8, 0, 10, 10, 240, 0, 24, 24, 24, 10, 0, 0, 7, 6, 6, 0, 24, 24, 8, 0, 24, 24, 8, 0, 24, 24, 8, 0, 24, 24, 8, 0, 24, 24, 8, 0, 24, 24, 8, 0, 24, 24, 8, 0, 4, 0, 0, 25, 25, 25, 625, 25, 0, 25, 25, 25, 625, 25, 25, 25, 50, 4, 3, 3, 3, 0, 60, 0, 60, 0, 60, 0, 60, 0, 24, 24, 24, 24, 24, 8, 8, 8, 8, 0, 24, 24, 8, 0, 24, 24, 24, 24, 24, 8, 8, 8, 8, 0, 24, 24, 8, 0, 24, 24, 24, 24, 24, 8, 8, 8, 8, 0, 24, 24, 8, 0, 241, 723, 3, 1600, 5, 241, 25, 25, 25, 25, 964, 8, 8, 8, 27, 27, 27, 2916, 54, 54, 25, 4, 4, 240, 60]
def lkL : List (List Nat) := [[1, 0, 0, 0, 2, 14, 24, 28, 32, 36, 41, 42, 74, 76, 92, 93, 94, 95], [], [3, 0, 0, 13, 0, 0, 0, 0, 0, 0, 0], [0, 0, 0, 0, 0, 0, 0, 0, 4, 5, 6, 7, 8, 9, 10, 11, 12], [], [], [], [], [], [], [], [], [], [], [0, 0, 0, 0, 0, 0, 0, 0, 15, 16, 17, 18, 19, 20, 21, 22, 23], [], [], [], [], [], [], [], [], [], [14, 0, 25, 26, 27], [], [], [], [14, 0, 29, 30, 31], [], [], [], [33, 34, 35], [], [], [], [37, 0, 32, 38, 39, 40], [], [], [], [], [36], [0, 0, 14, 41, 43, 44, 45, 0, 0], [46, 50, 54, 58, 62, 66, 70], [], [], [14, 0, 47, 48, 49], [], [], [], [14, 0, 51, 52, 53], [], [], [], [14, 0, 55, 56, 57], [], [], [], [14, 0, 59, 60, 61], [], [], [], [14, 0, 63, 64, 65], [], [], [], [14, 0, 67, 68, 69], [], [], [], [14, 0, 71, 72, 73], [], [], [], [32, 75, 0], [], [32, 77, 83, 89, 90, 91, 0, 0], [0, 0, 0, 0, 0, 78, 79, 80, 81, 82], [], [], [], [], [], [0, 0, 0, 0, 0, 84, 85, 86, 87, 88], [], [], [], [], [], [], [], [], [96, 98, 100, 102], [104, 118, 132], [114, 128, 142], [], [0, 0, 0, 97], [], [0, 0, 0, 99], [], [0, 0, 0, 101], [], [0, 0, 0, 103], [], [0, 0, 0, 0, 0, 0, 0, 0, 105, 106, 107, 108, 109, 110, 111, 112, 113], [], [], [], [], [], [], [], [], [], [104, 0, 115, 116, 117], [], [], [], [0, 0, 0, 0, 0, 0, 0, 0, 119, 120, 121, 122, 123, 124, 125, 126, 127], [], [], [], [], [], [], [], [], [], [118, 0, 129, 130, 131], [], [], [], [0, 0, 0, 0, 0, 0, 0, 0, 133, 134, 135, 136, 137, 138, 139, 140, 141], [], [], [], [], [], [], [], [], [], [132, 0, 143, 144, 145], [], [], [], [0, 147, 148, 149, 150, 0, 151, 0, 0, 0, 0, 0, 0, 0, 152, 153, 154, 155, 156, 0, 157, 0, 0, 0, 0, 0, 158, 0, 159, 160, 0, 0, 161, 162, 163, 0, 164, 165, 166, 0, 0, 167, 0, 168, 169, 170, 171], [], [], [], [], [], [], [], [], [], [], [], [], [], [], [], [], [], [], [], [], [], [], [], [], []]
def fcL : List (List Nat) := [[2], [2, 2, 0], [2, 2, 2, 2, 2, 2, 0, 0], [2, 2, 2], [0, 0, 0, 0, 0, 2, 2, 2, 2, 2], [0, 0, 2, 2, 2, 2, 2, 0, 0], [2, 0, 0, 3, 0, 0, 0, 0, 0, 0, 4], [0, 0, 0, 0, 0, 0, 0, 0, 2, 2, 2, 2, 2, 2, 2, 2, 2], [4, 0, 0, 2], [2, 0, 2, 2, 2], [2, 0, 2, 2, 2, 2], [2, 0, 0, 0, 2, 2, 2, 2, 2, 2, 2, 2, 2, 2, 2, 2, 2, 2], [0, 2, 2, 2, 2, 0, 2, 0, 0, 0, 0, 0, 0, 0, 2, 2, 2, 2, 2, 0, 2, 0, 0, 0, 0, 0, 2, 0, 2, 2, 0, 0, 2, 2, 2, 0, 2, 2, 2, 0, 0, 2, 1, 2, 2, 2, 2]]
def tkL : List (List Nat) := [[10], [3, 20, 99], [3, 4, 4, 20, 20, 20, 99, 99], [20, 20, 20], [99, 99, 99, 99, 99, 20, 20, 20, 20, 20], [99, 99, 7, 0, 24, 20, 20, 99, 99], [7, 99, 99, 21, 99, 99, 99, 99, 99, 99, 99], [99, 99, 99, 99, 99, 99, 99, 99, 20, 20, 20, 20, 20, 20, 20, 20, 20], [99, 99, 99, 23], [7, 99, 20, 20, 20], [20, 99, 3, 20, 20, 20], [21, 99, 99, 99, 6, 7, 9, 9, 3, 10, 0, 5, 1, 2, 25, 26, 24, 22], [99, 20, 20, 22, 21, 99, 20, 99, 99, 99, 99, 99, 99, 99, 20, 20, 20, 20, 20, 99, 20, 99, 99, 99, 99, 99, 20, 99, 20, 20, 99, 99, 20, 20, 20, 99, 20, 20, 20, 99, 99, 23, 99, 20, 20, 23, 23]]
def NC : Nat := 172
def strT : List (String × Nat × String × Nat) := [("BearsTwo$Reader", 63, "river", 0), ("BearsTwo$Reader", 91, "wide", 1), ("BearsTwo$Reader", 99, "long", 2), ("BearsTwo$Reader", 76, "stone", 3), ("BearsTwo$Reader", 111, "at", 4), ("BearsTwo$Reader", 128, "bears", 5), ("BearsTwo$Reader", 132, "sinks", 6), ("BearsTwo$Reader", 133, "doubt", 7), ("BearsTwo$Reader", 81, "person", 8), ("BearsTwo$Reader", 143, "stride", 9), ("BearsTwo$Reader", 147, "weight", 10), ("BearsTwo$Reader", 151, "worth", 11), ("BearsTwo$Reader", 155, "must", 12), ("BearsTwo$Reader", 162, "back", 13), ("BearsTwo$Reader", 167, "hand", 14), ("BearsTwo$Reader", 86, "plank", 15), ("BearsTwoModel", 227, "river", 0), ("BearsTwoModel", 229, "wide", 1), ("BearsTwoModel", 231, "long", 2), ("BearsTwoModel", 215, "stone", 3), ("BearsTwoModel", 217, "person", 8), ("BearsTwoModel", 219, "plank", 15), ("BearsTwoModel", 189, "at", 4), ("BearsTwoModel", 197, "bears", 5), ("BearsTwoModel", 199, "sinks", 6), ("BearsTwoModel", 201, "doubt", 7), ("BearsTwoModel", 203, "stride", 9), ("BearsTwoModel", 205, "weight", 10), ("BearsTwoModel", 207, "worth", 11), ("BearsTwoModel", 209, "must", 12), ("BearsTwoModel", 211, "back", 13), ("BearsTwoModel", 213, "hand", 14)]
def strN : Nat := 16
def strLen : List Nat := [5, 4, 4, 5, 2, 5, 5, 5, 6, 6, 6, 5, 4, 4, 4, 5]
def strByt : List (List Int32) := [[114, 105, 118, 101, 114], [119, 105, 100, 101], [108, 111, 110, 103], [115, 116, 111, 110, 101], [97, 116], [98, 101, 97, 114, 115], [115, 105, 110, 107, 115], [100, 111, 117, 98, 116], [112, 101, 114, 115, 111, 110], [115, 116, 114, 105, 100, 101], [119, 101, 105, 103, 104, 116], [119, 111, 114, 116, 104], [109, 117, 115, 116], [98, 97, 99, 107], [104, 97, 110, 100], [112, 108, 97, 110, 107]]
/-! ===== THE PURE LAYER: memory of ints and longs over a fixed layout; programs as functions on it ===== -/
def kd (a : Nat) : Nat := kdL.getD a 99
def ln (a : Nat) : Nat := lnL.getD a 0
def lk (a k : Nat) : Nat := (lkL.getD a []).getD k 0
def fc (ci k : Nat) : Nat := (fcL.getD ci []).getD k 9
def tk (ci k : Nat) : Nat := (tkL.getD ci []).getD k 99
abbrev sm_Mem : Type := (Nat → Nat → Int32) × (Nat → Nat → Int64) × Nat
abbrev sm_M (α : Type) : Type := sm_Mem → Option (α × sm_Mem)
def u2 {β : Type} (f : Nat → Nat → β) (a k : Nat) (x : β) : Nat → Nat → β := fun b j => if b = a then (if j = k then x else f b j) else f b j
def u1 {β : Type} (f : Nat → Nat → β) (a : Nat) (g : Nat → β) : Nat → Nat → β := fun b => if b = a then g else f b
def m_ret {α : Type} (a : α) : sm_M α := fun μ => some (a, μ)
def m_fail {α : Type} : sm_M α := fun _ => none
def m_bnd {α β : Type} (f : sm_M β) (g : β → sm_M α) : sm_M α := fun μ => match f μ with
  | none => none
  | some (b, μ') => g b μ'
def m_br {α : Type} (c : Prop) [Decidable c] (f g : sm_M α) : sm_M α := fun μ => if c then f μ else g μ
def m_gd {α : Type} (c : Prop) [Decidable c] (f : sm_M α) : sm_M α := fun μ => if c then f μ else none
def m_nm {α β : Type} (x : β) (g : β → sm_M α) : sm_M α := g x
def m_gi {α : Type} (a k : Nat) (g : Int32 → sm_M α) : sm_M α := fun μ => g (μ.1 a k) μ
def m_gl {α : Type} (a k : Nat) (g : Int64 → sm_M α) : sm_M α := fun μ => g (μ.2.1 a k) μ
def m_gt {α : Type} (g : Nat → sm_M α) : sm_M α := fun μ => if kd μ.2.2 = 21 then g μ.2.2 μ else none
def m_si {α : Type} (a k : Nat) (x : Int32) (f : sm_M α) : sm_M α := fun μ => f (u2 μ.1 a k x, μ.2)
def m_sl {α : Type} (a k : Nat) (x : Int64) (f : sm_M α) : sm_M α := fun μ => f (μ.1, u2 μ.2.1 a k x, μ.2.2)
def m_st {α : Type} (t : Nat) (f : sm_M α) : sm_M α := fun μ => f (μ.1, μ.2.1, t)
def m_ai {α : Type} (r : Nat) (i : Int32) (g : Int32 → sm_M α) : sm_M α := fun μ => if ¬ (i < 0 ∨ ln r ≤ i.toNatClampNeg) then g (μ.1 r i.toNatClampNeg) μ else none
def m_al {α : Type} (r : Nat) (i : Int32) (g : Int64 → sm_M α) : sm_M α := fun μ => if ¬ (i < 0 ∨ ln r ≤ i.toNatClampNeg) then g (μ.2.1 r i.toNatClampNeg) μ else none
def m_ap {α : Type} (r : Nat) (i : Int32) (g : Nat → sm_M α) : sm_M α := fun μ => if ¬ (i < 0 ∨ ln r ≤ i.toNatClampNeg) then g (lk r i.toNatClampNeg) μ else none
def m_sai {α : Type} (r : Nat) (i : Int32) (x : Int32) (f : sm_M α) : sm_M α := fun μ => if ¬ (i < 0 ∨ ln r ≤ i.toNatClampNeg) then f (u2 μ.1 r i.toNatClampNeg x, μ.2) else none
def m_sal {α : Type} (r : Nat) (i : Int32) (x : Int64) (f : sm_M α) : sm_M α := fun μ => if ¬ (i < 0 ∨ ln r ≤ i.toNatClampNeg) then f (μ.1, u2 μ.2.1 r i.toNatClampNeg x, μ.2.2) else none
/-- System.arraycopy of ints, of longs -/
def m_cpi {α : Type} (r : Nat) (sp : Int32) (t : Nat) (dp n : Int32) (f : sm_M α) : sm_M α := fun μ => if ¬ sp < 0 ∧ ¬ dp < 0 ∧ ¬ n < 0 ∧ sp.toNatClampNeg + n.toNatClampNeg ≤ ln r ∧ dp.toNatClampNeg + n.toNatClampNeg ≤ ln t then f (u1 μ.1 t (va_cpy (μ.1 r) (μ.1 t) sp.toNatClampNeg dp.toNatClampNeg n.toNatClampNeg), μ.2) else none
def m_cpl {α : Type} (r : Nat) (sp : Int32) (t : Nat) (dp n : Int32) (f : sm_M α) : sm_M α := fun μ => if ¬ sp < 0 ∧ ¬ dp < 0 ∧ ¬ n < 0 ∧ sp.toNatClampNeg + n.toNatClampNeg ≤ ln r ∧ dp.toNatClampNeg + n.toNatClampNeg ≤ ln t then f (μ.1, u1 μ.2.1 t (va_cpy (μ.2.1 r) (μ.2.1 t) sp.toNatClampNeg dp.toNatClampNeg n.toNatClampNeg), μ.2.2) else none
/-- a boolean as the machine has it -/
def bI (b : Bool) : Int32 := if b then 1 else 0
/-! ===== THE WORLD: the heap holds the memory ===== -/
/-- first cell, classes, array classes, Strings -/
abbrev sm_O : Type := Nat × va_G × (Nat → ClassId) × (Nat → Nat) × (Nat → Nat)
abbrev sm_A (ω : sm_O) : Nat → Prop := fun q => ω.1 ≤ q
def sm_fv (ω : sm_O) (μ : sm_Mem) (a k : Nat) : Value := if fc (kd a) k = 1 then .long (μ.2.1 a k) else if fc (kd a) k = 2 then .ref (ω.1 + lk a k) else if fc (kd a) k = 3 then .ref (ω.1 + μ.2.2) else .int (μ.1 a k)
def sm_cell (ω : sm_O) (μ : sm_Mem) (a : Nat) : va_E :=
  if kd a < 20 then .inr (kd a, (List.range (fcL.getD (kd a) []).length).map (sm_fv ω μ a))
  else if kd a < 23 then .inl (ω.2.2.1 (kd a), ln a, .inl (μ.1 a))
  else if kd a = 23 then .inl (ω.2.2.1 (kd a), ln a, .inr (.inl (μ.2.1 a)))
  else .inl (ω.2.2.1 (kd a), ln a, .inr (.inr (.inr (.inr (fun k => some (ω.1 + lk a k))))))
def sm_ws (ω : sm_O) (μ : sm_Mem) : va_W := (List.range NC).map (fun a => (ω.1 + a, sm_cell ω μ a))
abbrev sm_tys (ω : sm_O) : List (ClassId × FieldType) := [(ω.2.2.1 20, .int), (ω.2.2.1 21, .byte), (ω.2.2.1 22, .boolean), (ω.2.2.1 23, .long), (ω.2.2.1 24, .object RX9), (ω.2.2.1 25, .object RX8), (ω.2.2.1 26, .object RX7)]
def sm_StT (ω : sm_O) (U : State) (H : Heap) : Prop := (∀ q ∈ strT, vk_R q.1 q.2.1 q.2.2.1 (ω.2.2.2.1 q.2.2.2) U) ∧ vk_S strN strLen strByt ω.2.2.2.1 ω.2.2.2.2 (sm_A ω) U H ∧ va_Z "java/lang/String" "COMPACT_STRINGS" "Z" (.int 1) (sm_A ω) U H ∧ va_Nw (.fieldLinkNest "BearsTwo$Crossing" 83 "BearsTwo$Ways" "links" "LBearsTwo$Links;" "BearsTwo") U ∧ va_Zq "jdk/internal/util/Preconditions" "SIOOBE_FORMATTER" "Ljava/util/function/BiFunction;" (sm_A ω) U H
def sm_HR (ω : sm_O) (μ : sm_Mem) (H : Heap) : Prop := va_P ω.2.1 classes (sm_ws ω μ) H
def sm_WR (ω : sm_O) (μ : sm_Mem) (U : State) : Prop := sm_HR ω μ U.heap ∧ va_K ω.2.1 classes (sm_tys ω) U ∧ sm_StT ω U U.heap ∧ ω.1 ≤ U.heap.size
theorem sm_kd {a ci : Nat} (h : kd a = ci) (hc : ci ≠ 99) : a < NC := by
  rcases Nat.lt_or_ge a NC with q | q
  · exact q
  · refine absurd ?_ hc
    rw [← h]
    unfold kd
    rw [List.getD_eq_getElem?_getD, List.getElem?_eq_none (Nat.le_trans (show kdL.length ≤ NC by decide +kernel) q)]
    rfl
theorem sm_ws_get {ω : sm_O} {μ : sm_Mem} {a : Nat} (h : a < NC) : (sm_ws ω μ)[a]? = some (ω.1 + a, sm_cell ω μ a) := by
  unfold sm_ws
  rw [List.getElem?_map, List.getElem?_range h]
  rfl
theorem sm_ws_len {ω : sm_O} {μ : sm_Mem} : (sm_ws ω μ).length = NC := by simp [sm_ws]
theorem sm_ws_D {ω : sm_O} {μ : sm_Mem} : va_D (sm_A ω) (sm_ws ω μ) := by
  have g : ∀ (i : Nat) (p : Nat × va_E), (sm_ws ω μ)[i]? = some p → p.1 = ω.1 + i := by
    intro i p h
    have hi : i < NC := by
      have := (List.getElem?_eq_some_iff.mp h).1
      rwa [sm_ws_len] at this
    rw [sm_ws_get hi] at h
    cases h
    rfl
  refine ⟨fun i j p q h1 h2 e => ?_, fun k q h => ?_⟩
  · have e1 := g i p h1
    have e2 := g j q h2
    omega
  · show ω.1 ≤ q.1
    rw [g k q h]
    omega
theorem sm_ws_set {ω : sm_O} {μ μ' : sm_Mem} {a : Nat} {e : va_E} (he : e = sm_cell ω μ' a) (h : ∀ b, b ≠ a → sm_cell ω μ' b = sm_cell ω μ b) : (sm_ws ω μ).set a (ω.1 + a, e) = sm_ws ω μ' := by
  subst he
  apply List.ext_getElem?
  intro i
  by_cases hi : i < NC
  · by_cases hia : i = a
    · subst hia
      rw [List.getElem?_set_self (by rw [sm_ws_len]; exact hi), sm_ws_get hi]
    · rw [List.getElem?_set_ne (fun q => hia q.symm), sm_ws_get hi, sm_ws_get hi, h i hia]
  · rw [List.getElem?_eq_none (by rw [List.length_set, sm_ws_len]; omega), List.getElem?_eq_none (by rw [sm_ws_len]; omega)]
theorem u2_ne {β : Type} {f : Nat → Nat → β} {a k b : Nat} {x : β} (h : b ≠ a) : u2 f a k x b = f b := by
  funext j
  simp [u2, h]
theorem u1_ne {β : Type} {f : Nat → Nat → β} {a b : Nat} {g : Nat → β} (h : b ≠ a) : u1 f a g b = f b := by simp [u1, h]
theorem sm_cell_i {ω : sm_O} {μ : sm_Mem} {f : Nat → Nat → Int32} {b : Nat} (h : f b = μ.1 b) : sm_cell ω (f, μ.2) b = sm_cell ω μ b := by
  unfold sm_cell
  have e : sm_fv ω (f, μ.2) b = sm_fv ω μ b := by
    funext k
    unfold sm_fv
    simp only [h]
  rw [e]
  simp only [h]
theorem sm_cell_l {ω : sm_O} {μ : sm_Mem} {f : Nat → Nat → Int64} {b : Nat} (h : f b = μ.2.1 b) : sm_cell ω (μ.1, f, μ.2.2) b = sm_cell ω μ b := by
  unfold sm_cell
  have e : sm_fv ω (μ.1, f, μ.2.2) b = sm_fv ω μ b := by
    funext k
    unfold sm_fv
    simp only [h]
  rw [e]
  simp only [h]
theorem sm_cell_o {ω : sm_O} {μ : sm_Mem} {a : Nat} (h : kd a < 20) : sm_cell ω μ a = .inr (kd a, (List.range (fcL.getD (kd a) []).length).map (sm_fv ω μ a)) := by
  unfold sm_cell
  rw [if_pos h]
theorem sm_cell_a {ω : sm_O} {μ : sm_Mem} {a t : Nat} (h : kd a = t) (h1 : ¬ t < 20) (h2 : t < 23) : sm_cell ω μ a = .inl (ω.2.2.1 t, ln a, .inl (μ.1 a)) := by
  unfold sm_cell
  rw [h, if_neg h1, if_pos h2]
theorem sm_cell_L {ω : sm_O} {μ : sm_Mem} {a : Nat} (h : kd a = 23) : sm_cell ω μ a = .inl (ω.2.2.1 23, ln a, .inr (.inl (μ.2.1 a))) := by
  unfold sm_cell
  rw [h, if_neg (by decide), if_neg (by decide), if_pos rfl]
theorem sm_cell_q {ω : sm_O} {μ : sm_Mem} {a t : Nat} (h : kd a = t) (h1 : ¬ t < 20) (h2 : ¬ t < 23) (h3 : ¬ t = 23) : sm_cell ω μ a = .inl (ω.2.2.1 t, ln a, .inr (.inr (.inr (.inr (fun k => some (ω.1 + lk a k)))))) := by
  unfold sm_cell
  rw [h, if_neg h1, if_neg h2, if_neg h3]
/-- the references are of the kinds that the fields' types say -/
theorem lk_all : (List.range NC).all (fun a => (List.range 50).all (fun k => decide (fc (kd a) k = 2) == false || decide (kd (lk a k) = tk (kd a) k))) = true := by decide +kernel
theorem lk_ok {a k : Nat} (ha : kd a < 20) (hk : fc (kd a) k = 2) : kd (lk a k) = tk (kd a) k := by
  have h1 : a < NC := sm_kd (ci := kd a) rfl (by omega)
  have h2 : k < 50 := by
    rcases Nat.lt_or_ge k 50 with q | q
    · exact q
    · exfalso
      have hl : (fcL.getD (kd a) []).length ≤ 50 := by
        have : ∀ c, c < 20 → (fcL.getD c []).length ≤ 50 := by decide +kernel
        exact this _ ha
      unfold fc at hk
      rw [List.getD_eq_getElem?_getD, List.getElem?_eq_none (by omega)] at hk
      exact absurd hk (by decide)
  have h3 := List.all_eq_true.mp (List.all_eq_true.mp lk_all a (List.mem_range.mpr h1)) k (List.mem_range.mpr h2)
  simp [hk] at h3
  exact h3
/-- the elements of the arrays of references -/
theorem lq_all : (List.range NC).all (fun a => (List.range (ln a)).all (fun k => (decide (kd a = 24) == false || decide (kd (lk a k) = 9)) && ((decide (kd a = 25) == false || decide (kd (lk a k) = 8)) && (decide (kd a = 26) == false || decide (kd (lk a k) = 7))))) = true := by decide +kernel
def tq (t : Nat) : Nat := if t = 24 then 9 else if t = 25 then 8 else if t = 26 then 7 else 99
theorem lq_ok {a k t : Nat} (ha : kd a = t) (ht : t = 24 ∨ t = 25 ∨ t = 26) (hk : k < ln a) : kd (lk a k) = tq t := by
  have h1 : a < NC := sm_kd ha (by omega)
  have h3 := List.all_eq_true.mp (List.all_eq_true.mp lq_all a (List.mem_range.mpr h1)) k (List.mem_range.mpr hk)
  rcases ht with rfl | rfl | rfl <;> simp [ha] at h3 <;> simp [tq, h3]
