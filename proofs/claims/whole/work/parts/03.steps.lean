/-! ===== THE JUDGEMENT: from a point of a method's code, with a memory on which f gives (a, μ'), the machine comes to the point that 'ex a' names, with the memory μ' ===== -/
abbrev sm_X : Type := Program × Launch × Env × Room × State × MethodId × Array Value × List Frame × Method × Code × (State → Prop) × Nat × Nat × sm_O
abbrev xp (κ : sm_X) : Program := κ.1
abbrev xl (κ : sm_X) : Launch := κ.2.1
abbrev xe (κ : sm_X) : Env := κ.2.2.1
abbrev xr (κ : sm_X) : Room := κ.2.2.2.1
abbrev xs (κ : sm_X) : State := κ.2.2.2.2.1
abbrev xm (κ : sm_X) : MethodId := κ.2.2.2.2.2.1
abbrev xa (κ : sm_X) : Array Value := κ.2.2.2.2.2.2.1
abbrev xb (κ : sm_X) : List Frame := κ.2.2.2.2.2.2.2.1
abbrev xt (κ : sm_X) : Method := κ.2.2.2.2.2.2.2.2.1
abbrev xc (κ : sm_X) : Code := κ.2.2.2.2.2.2.2.2.2.1
abbrev xq (κ : sm_X) : State → Prop := κ.2.2.2.2.2.2.2.2.2.2.1
abbrev xn (κ : sm_X) : Nat := κ.2.2.2.2.2.2.2.2.2.2.2.1
abbrev xz (κ : sm_X) : Nat := κ.2.2.2.2.2.2.2.2.2.2.2.2.1
abbrev xo (κ : sm_X) : sm_O := κ.2.2.2.2.2.2.2.2.2.2.2.2.2
/-- the real address of a cell -/
abbrev xad (κ : sm_X) (a : Nat) : Value := .ref ((xo κ).1 + a)
/-- the String constant of that place -/
abbrev xst (κ : sm_X) (i : Nat) : Value := .ref ((xo κ).2.2.2.1 i)
def sm_W (κ : sm_X) (H : Heap) (locs : List Loc) (g : JFrame) : Prop := W (xp κ) (xl κ) (xe κ) (xr κ) (xs κ) (xm κ) (xa κ) (xb κ) (xt κ) (xc κ) H locs (xn κ) (xz κ) (xq κ) g
def sm_LR (ls : Array Slot) (nL : Nat) (L : List (Option Value)) : Prop := ls.size = nL ∧ lv_wf ls ∧ ∀ (i : Nat) (v : Value), L[i]? = some (some v) → ls[i]? = some (.val v)
abbrev sm_G : Type := (Nat × List (Option Value) × List Value) ⊕ Option Value
def sm_WC (κ : sm_X) (g : sm_G) (H : Heap) (locs : List Loc) : Prop := match g with
  | .inl (pc, L, st) => ∀ ls : Array Slot, sm_LR ls (xc κ).maxLocals L → sm_W κ H locs (F0 (xm κ) pc ls st)
  | .inr none => ∀ (pc : Nat) (ls : Array Slot), decode (xc κ).code pc = .ok (.return_, 1) → sm_W κ H locs (F0 (xm κ) pc ls [])
  | .inr (some (.int v)) => ∀ (pc : Nat) (ls : Array Slot), decode (xc κ).code pc = .ok (.ireturn, 1) → sm_W κ H locs (F0 (xm κ) pc ls [.int v])
  | .inr (some (.long v)) => ∀ (pc : Nat) (ls : Array Slot), decode (xc κ).code pc = .ok (.lreturn, 1) → sm_W κ H locs (F0 (xm κ) pc ls [.long v])
  | .inr (some _) => True
def sm_S (κ : sm_X) {α : Type} (ex : α → sm_G) (g : sm_G) (f : sm_M α) : Prop := ∀ (μ : sm_Mem) (H : Heap) (locs : List Loc) (a : α) (μ' : sm_Mem), sm_HR (xo κ) μ H → va_S (sm_A (xo κ)) (xs κ).heap H locs → f μ = some (a, μ') →
  (∀ (H' : Heap) (locs' : List Loc), sm_HR (xo κ) μ' H' → va_S (sm_A (xo κ)) (xs κ).heap H' locs' → sm_WC κ (ex a) H' locs') → sm_WC κ g H locs
/-- what holds all over a method's body -/
def sm_C (κ : sm_X) (own : String) (cc : ByteArray) (nL d : Nat) : Prop := (xp κ).tables.exec = Jvm.exec ∧ (xc κ).code = cc ∧ (xc κ).maxLocals = nL ∧ (xs κ).vm.findClass own = some (xm κ).cls ∧ (∀ w ∈ lw_w, w.before (xa κ) (xs κ) = true) ∧ va_K (xo κ).2.1 classes (sm_tys (xo κ)) (xs κ) ∧ sm_StT (xo κ) (xs κ) (xs κ).heap ∧ (xo κ).1 ≤ (xs κ).heap.size ∧ d ≤ (xr κ).frames ∧ 64 * d ≤ (xr κ).locals ∧ xn κ ≤ (xr κ).cells ∧ xz κ ≤ (xr κ).slots
def sm_al (L : List (Option Value)) : List (Nat × Value) := (List.range L.length).filterMap (fun i => match L[i]? with
  | some (some v) => some (i, v)
  | _ => none)
theorem sm_al_mem {L : List (Option Value)} {i : Nat} {v : Value} : (i, v) ∈ sm_al L ↔ L[i]? = some (some v) := by
  unfold sm_al
  rw [List.mem_filterMap]
  constructor
  · rintro ⟨j, -, h⟩
    split at h
    · rename_i w hw
      cases h
      exact hw
    · cases h
  · intro h
    refine ⟨i, List.mem_range.mpr (List.getElem?_eq_some_iff.mp h).1, ?_⟩
    rw [h]
theorem sm_LR.has {ls : Array Slot} {nL : Nat} {L : List (Option Value)} (h : sm_LR ls nL L) : lv_has ls nL (sm_al L) := ⟨h.1, h.2.1, fun q hq => h.2.2 q.1 q.2 (sm_al_mem.mp hq)⟩
def sm_kill (L : List (Option Value)) (i : Nat) : List (Option Value) := match i with
  | 0 => L
  | k + 1 => match L[k]? with
    | some (some (.long _)) => L.set k none
    | some (some (.double _)) => L.set k none
    | _ => L
def sm_st1 (L : List (Option Value)) (i : Nat) (v : Value) : List (Option Value) := (sm_kill L i).set i (some v)
def sm_st2 (L : List (Option Value)) (i : Nat) (v : Value) : List (Option Value) := ((sm_kill L i).set (i + 1) none).set i (some v)
theorem sm_kill_get {L : List (Option Value)} {i j : Nat} {w : Value} (h : (sm_kill L i)[j]? = some (some w)) : L[j]? = some (some w) ∧ ¬ (j + 1 = i ∧ w.category = 2) := by
  unfold sm_kill at h
  split at h
  · exact ⟨h, fun q => by omega⟩
  · rename_i k
    have set_case : ∀ x : Value, L[k]? = some (some x) → (L.set k none)[j]? = some (some w) → L[j]? = some (some w) ∧ ¬ (j + 1 = k + 1 ∧ w.category = 2) := by
      intro x hx hs
      by_cases hj : j = k
      · subst hj
        rw [List.getElem?_set_self (List.getElem?_eq_some_iff.mp hx).1] at hs
        cases hs
      · rw [List.getElem?_set_ne (fun q => hj q.symm)] at hs
        exact ⟨hs, fun q => hj (by omega)⟩
    split at h
    · rename_i x hx
      exact set_case _ hx h
    · rename_i x hx
      exact set_case _ hx h
    · rename_i h1 h2
      refine ⟨h, fun q => ?_⟩
      have hj : j = k := by omega
      subst hj
      cases w with
      | long x => exact h1 x h
      | double x => exact h2 x h
      | _ => simp [Value.category] at q
theorem sm_LR.st1 {ls' : Array Slot} {nL i : Nat} {L : List (Option Value)} {v : Value} (h : lv_has ls' nL ((i, v) :: (sm_al L).filter (fun q => !(q.1 == i) && !(q.1 + 1 == i && q.2.category == 2)))) : sm_LR ls' nL (sm_st1 L i v) := by
  refine ⟨h.1, h.2.1, fun j w hj => ?_⟩
  unfold sm_st1 at hj
  by_cases hji : j = i
  · subst hji
    have hlt : j < (sm_kill L j).length := by
      have := (List.getElem?_eq_some_iff.mp hj).1
      simpa using this
    rw [List.getElem?_set_self hlt] at hj
    cases hj
    exact h.2.2 (j, v) List.mem_cons_self
  · rw [List.getElem?_set_ne (fun q => hji q.symm)] at hj
    obtain ⟨h1, h2⟩ := sm_kill_get hj
    refine h.2.2 (j, w) (List.mem_cons_of_mem _ (List.mem_filter.mpr ⟨sm_al_mem.mpr h1, ?_⟩))
    simp only [Bool.and_eq_true, Bool.not_eq_true', beq_eq_false_iff_ne, ne_eq, Bool.and_eq_false_iff]
    refine ⟨hji, ?_⟩
    by_cases a : j + 1 = i
    · exact Or.inr (fun b => h2 ⟨a, b⟩)
    · exact Or.inl a
theorem sm_LR.st2 {ls' : Array Slot} {nL i : Nat} {L : List (Option Value)} {v : Value} (h : lv_has ls' nL ((i, v) :: (sm_al L).filter (fun q => !(q.1 == i) && (!(q.1 == i + 1) && !(q.1 + 1 == i && q.2.category == 2))))) : sm_LR ls' nL (sm_st2 L i v) := by
  refine ⟨h.1, h.2.1, fun j w hj => ?_⟩
  unfold sm_st2 at hj
  by_cases hji : j = i
  · subst hji
    have hlt : j < ((sm_kill L j).set (j + 1) none).length := by
      have := (List.getElem?_eq_some_iff.mp hj).1
      simpa using this
    rw [List.getElem?_set_self hlt] at hj
    cases hj
    exact h.2.2 (j, v) List.mem_cons_self
  · rw [List.getElem?_set_ne (fun q => hji q.symm)] at hj
    by_cases hj1 : j = i + 1
    · subst hj1
      have hlt : i + 1 < (sm_kill L i).length := by
        have := (List.getElem?_eq_some_iff.mp hj).1
        simpa using this
      rw [List.getElem?_set_self hlt] at hj
      cases hj
    · rw [List.getElem?_set_ne (fun q => hj1 q.symm)] at hj
      obtain ⟨h1, h2⟩ := sm_kill_get hj
      refine h.2.2 (j, w) (List.mem_cons_of_mem _ (List.mem_filter.mpr ⟨sm_al_mem.mpr h1, ?_⟩))
      simp only [Bool.and_eq_true, Bool.not_eq_true', beq_eq_false_iff_ne, ne_eq, Bool.and_eq_false_iff]
      refine ⟨hji, hj1, ?_⟩
      by_cases a : j + 1 = i
      · exact Or.inr (fun b => h2 ⟨a, b⟩)
      · exact Or.inl a
/-- fewer locals known -/
def sm_LS : List (Option Value) → List (Option Value) → Prop
  | [], _ => True
  | none :: t, l => sm_LS t l.tail
  | some v :: t, l => l.head? = some (some v) ∧ sm_LS t l.tail
theorem sm_LS.get {L' : List (Option Value)} : ∀ {L : List (Option Value)}, sm_LS L' L → ∀ (i : Nat) (v : Value), L'[i]? = some (some v) → L[i]? = some (some v) := by
  induction L' with
  | nil => intro L _ i v h; simp at h
  | cons x t ih =>
    intro L h i v hi
    cases i with
    | zero =>
      simp only [List.getElem?_cons_zero, Option.some.injEq] at hi
      subst hi
      have := h.1
      rwa [List.head?_eq_getElem?] at this
    | succ i =>
      rw [List.getElem?_cons_succ] at hi
      have ht : sm_LS t L.tail := by
        cases x with
        | none => exact h
        | some w => exact h.2
      have := ih ht i v hi
      cases L with
      | nil => simp at this
      | cons y l => simpa using this
section SR
variable {κ : sm_X} {own : String} {cc : ByteArray} {nL d : Nat} {α β : Type} {ex : α → sm_G} {f g : sm_M α} {pc q : Nat} {L L' : List (Option Value)} {st st' : List Value}
theorem sr_step (h : ∀ (H : Heap) (locs : List Loc) (ls : Array Slot), sm_LR ls (xc κ).maxLocals L → sm_WC κ (.inl (q, L', st')) H locs → sm_W κ H locs (F0 (xm κ) pc ls st)) (k : sm_S κ ex (.inl (q, L', st')) f) : sm_S κ ex (.inl (pc, L, st)) f :=
  fun μ H locs a μ' h1 h2 h3 h4 ls hls => h H locs ls hls (k μ H locs a μ' h1 h2 h3 h4)
theorem sr_fail {c : sm_G} : sm_S κ ex c m_fail := fun _ _ _ _ _ _ _ h3 => by cases h3
theorem sr_weak (hs : sm_LS L' L) (k : sm_S κ ex (.inl (pc, L', st)) f) : sm_S κ ex (.inl (pc, L, st)) f :=
  sr_step (fun _ _ ls hl w => w ls ⟨hl.1, hl.2.1, fun i v hi => hl.2.2 i v (hs.get i v hi)⟩) k
theorem sr_exit {c : sm_G} (a : α) (he : ex a = c) : sm_S κ ex c (m_ret a) := by
  intro μ H locs a' μ' h1 h2 h3 h4
  cases h3
  rw [← he]
  exact h4 H locs h1 h2
theorem sr_exitw (a : α) (he : ex a = .inl (pc, L', st)) (hs : sm_LS L' L) : sm_S κ ex (.inl (pc, L, st)) (m_ret a) := sr_weak hs (sr_exit a he)
theorem sr_ireturn (C : sm_C κ own cc nL d) {v : Int32} (a : α) (he : ex a = .inr (some (.int v))) (hd : decode cc pc = .ok (.ireturn, 1)) : sm_S κ ex (.inl (pc, L, [.int v])) (m_ret a) := by
  intro μ H locs a' μ' h1 h2 h3 h4 ls hls
  cases h3
  have h := h4 H locs h1 h2
  rw [he] at h
  exact h pc ls (by rw [C.2.1]; exact hd)
theorem sr_lreturn (C : sm_C κ own cc nL d) {v : Int64} (a : α) (he : ex a = .inr (some (.long v))) (hd : decode cc pc = .ok (.lreturn, 1)) : sm_S κ ex (.inl (pc, L, [.long v])) (m_ret a) := by
  intro μ H locs a' μ' h1 h2 h3 h4 ls hls
  cases h3
  have h := h4 H locs h1 h2
  rw [he] at h
  exact h pc ls (by rw [C.2.1]; exact hd)
theorem sr_vreturn (C : sm_C κ own cc nL d) (a : α) (he : ex a = .inr none) (hd : decode cc pc = .ok (.return_, 1)) : sm_S κ ex (.inl (pc, L, [])) (m_ret a) := by
  intro μ H locs a' μ' h1 h2 h3 h4 ls hls
  cases h3
  have h := h4 H locs h1 h2
  rw [he] at h
  exact h pc ls (by rw [C.2.1]; exact hd)
theorem sr_bnd {ex1 : β → sm_G} {c : sm_G} {f1 : sm_M β} {k : β → sm_M α} (h1 : sm_S κ ex1 c f1) (h2 : ∀ b, sm_S κ ex (ex1 b) (k b)) : sm_S κ ex c (m_bnd f1 k) := by
  intro μ H locs a μ' a1 a2 a3 a4
  unfold m_bnd at a3
  cases hb : f1 μ with
  | none => rw [hb] at a3; cases a3
  | some r =>
    obtain ⟨b, μ1⟩ := r
    rw [hb] at a3
    exact h1 μ H locs b μ1 a1 a2 hb (fun H' locs' b1 b2 => h2 b μ1 H' locs' a μ' b1 b2 a3 a4)
theorem sr_case {c : Prop} [Decidable c] {s0 : sm_G} (ht : c → sm_S κ ex s0 f) (hf : ¬ c → sm_S κ ex s0 g) : sm_S κ ex s0 (m_br c f g) := by
  intro μ H locs a μ' a1 a2 a3 a4
  unfold m_br at a3
  by_cases hc : c
  · rw [if_pos hc] at a3
    exact ht hc μ H locs a μ' a1 a2 a3 a4
  · rw [if_neg hc] at a3
    exact hf hc μ H locs a μ' a1 a2 a3 a4
theorem sr_gd {c : Prop} [Decidable c] {s0 : sm_G} (ht : c → sm_S κ ex s0 f) : sm_S κ ex s0 (m_gd c f) := by
  intro μ H locs a μ' a1 a2 a3 a4
  unfold m_gd at a3
  by_cases hc : c
  · rw [if_pos hc] at a3
    exact ht hc μ H locs a μ' a1 a2 a3 a4
  · rw [if_neg hc] at a3
    cases a3
theorem sr_nm {x : β} {k : β → sm_M α} {s0 : β → sm_G} (h : ∀ y, sm_S κ ex (s0 y) (k y)) : sm_S κ ex (s0 x) (m_nm x k) := h x

theorem sr_iconst (C : sm_C κ own cc nL d) {n : Int} {v : Int32} (hd : decode cc pc = .ok (.iconst n, 1)) (hv : Int32.ofInt n = v) (hq : pc + 1 = q) (k : sm_S κ ex (.inl (q, L, (.int v) :: st)) f) : sm_S κ ex (.inl (pc, L, st)) f := by
  subst hq
  exact sr_step (fun H locs ls hl w => lv_iconst C.1 C.2.1 hd hv (w ls hl)) k
theorem sr_bipush (C : sm_C κ own cc nL d) {n : Int} {v : Int32} (hd : decode cc pc = .ok (.bipush n, 2)) (hv : (Int8.ofInt n).toInt32 = v) (hq : pc + 2 = q) (k : sm_S κ ex (.inl (q, L, (.int v) :: st)) f) : sm_S κ ex (.inl (pc, L, st)) f := by
  subst hq
  exact sr_step (fun H locs ls hl w => lv_bipush C.1 C.2.1 hd hv (w ls hl)) k
theorem sr_sipush (C : sm_C κ own cc nL d) {n : Int} {v : Int32} (hd : decode cc pc = .ok (.sipush n, 3)) (hv : (Int16.ofInt n).toInt32 = v) (hq : pc + 3 = q) (k : sm_S κ ex (.inl (q, L, (.int v) :: st)) f) : sm_S κ ex (.inl (pc, L, st)) f := by
  subst hq
  exact sr_step (fun H locs ls hl w => lv_sipush C.1 C.2.1 hd hv (w ls hl)) k
theorem sr_lconst (C : sm_C κ own cc nL d) {n : Fin 2} {v : Int64} (hd : decode cc pc = .ok (.lconst n, 1)) (hv : Int64.ofNat (n : Nat) = v) (hq : pc + 1 = q) (k : sm_S κ ex (.inl (q, L, (.long v) :: st)) f) : sm_S κ ex (.inl (pc, L, st)) f := by
  subst hq
  exact sr_step (fun H locs ls hl w => lv_lconst C.1 C.2.1 hd hv (w ls hl)) k
theorem sr_iload_n (C : sm_C κ own cc nL d) {k0 : Fin 4} {i : Nat} {x : Int32} (hd : decode cc pc = .ok (.iload_n k0, 1)) (hi : (k0 : Nat) = i) (hx : L[i]? = some (some (.int x))) (hq : pc + 1 = q) (k : sm_S κ ex (.inl (q, L, .int x :: st)) f) : sm_S κ ex (.inl (pc, L, st)) f := by
  subst hq
  exact sr_step (fun H locs ls hl w => lv_iload_n C.1 C.2.1 hd hi (hl.2.2 _ _ hx) (w ls hl)) k
theorem sr_iload (C : sm_C κ own cc nL d) {i : Nat} {x : Int32} (hd : decode cc pc = .ok (.iload i, 2)) (hx : L[i]? = some (some (.int x))) (hq : pc + 2 = q) (k : sm_S κ ex (.inl (q, L, .int x :: st)) f) : sm_S κ ex (.inl (pc, L, st)) f := by
  subst hq
  exact sr_step (fun H locs ls hl w => lv_iload C.1 C.2.1 hd (hl.2.2 _ _ hx) (w ls hl)) k
theorem sr_istore_n (C : sm_C κ own cc nL d) {k0 : Fin 4} {i : Nat} {x : Int32} (hd : decode cc pc = .ok (.istore_n k0, 1)) (hi : (k0 : Nat) = i) (hn : i < nL) (hL : sm_st1 L i (.int x) = L') (hq : pc + 1 = q) (k : sm_S κ ex (.inl (q, L', st)) f) : sm_S κ ex (.inl (pc, L, .int x :: st)) f := by
  subst hq; subst hL
  exact sr_step (fun H locs ls hl w => lv_istore_n C.1 C.2.1 hd hi hl.has (by rw [C.2.2.1]; exact hn) rfl (fun ls' h' => w ls' (sm_LR.st1 h'))) k
theorem sr_istore (C : sm_C κ own cc nL d) {i : Nat} {x : Int32} (hd : decode cc pc = .ok (.istore i, 2)) (hn : i < nL) (hL : sm_st1 L i (.int x) = L') (hq : pc + 2 = q) (k : sm_S κ ex (.inl (q, L', st)) f) : sm_S κ ex (.inl (pc, L, .int x :: st)) f := by
  subst hq; subst hL
  exact sr_step (fun H locs ls hl w => lv_istore C.1 C.2.1 hd hl.has (by rw [C.2.2.1]; exact hn) rfl (fun ls' h' => w ls' (sm_LR.st1 h'))) k
theorem sr_lload_n (C : sm_C κ own cc nL d) {k0 : Fin 4} {i : Nat} {x : Int64} (hd : decode cc pc = .ok (.lload_n k0, 1)) (hi : (k0 : Nat) = i) (hx : L[i]? = some (some (.long x))) (hq : pc + 1 = q) (k : sm_S κ ex (.inl (q, L, .long x :: st)) f) : sm_S κ ex (.inl (pc, L, st)) f := by
  subst hq
  exact sr_step (fun H locs ls hl w => lv_lload_n C.1 C.2.1 hd hi (hl.2.2 _ _ hx) (w ls hl)) k
theorem sr_lload (C : sm_C κ own cc nL d) {i : Nat} {x : Int64} (hd : decode cc pc = .ok (.lload i, 2)) (hx : L[i]? = some (some (.long x))) (hq : pc + 2 = q) (k : sm_S κ ex (.inl (q, L, .long x :: st)) f) : sm_S κ ex (.inl (pc, L, st)) f := by
  subst hq
  exact sr_step (fun H locs ls hl w => lv_lload C.1 C.2.1 hd (hl.2.2 _ _ hx) (w ls hl)) k
theorem sr_lstore_n (C : sm_C κ own cc nL d) {k0 : Fin 4} {i : Nat} {x : Int64} (hd : decode cc pc = .ok (.lstore_n k0, 1)) (hi : (k0 : Nat) = i) (hn : i + 1 < nL) (hL : sm_st2 L i (.long x) = L') (hq : pc + 1 = q) (k : sm_S κ ex (.inl (q, L', st)) f) : sm_S κ ex (.inl (pc, L, .long x :: st)) f := by
  subst hq; subst hL
  exact sr_step (fun H locs ls hl w => lv_lstore_n C.1 C.2.1 hd hi hl.has (by rw [C.2.2.1]; exact hn) rfl (fun ls' h' => w ls' (sm_LR.st2 h'))) k
theorem sr_lstore (C : sm_C κ own cc nL d) {i : Nat} {x : Int64} (hd : decode cc pc = .ok (.lstore i, 2)) (hn : i + 1 < nL) (hL : sm_st2 L i (.long x) = L') (hq : pc + 2 = q) (k : sm_S κ ex (.inl (q, L', st)) f) : sm_S κ ex (.inl (pc, L, .long x :: st)) f := by
  subst hq; subst hL
  exact sr_step (fun H locs ls hl w => lv_lstore C.1 C.2.1 hd hl.has (by rw [C.2.2.1]; exact hn) rfl (fun ls' h' => w ls' (sm_LR.st2 h'))) k
theorem sr_aload_n (C : sm_C κ own cc nL d) {k0 : Fin 4} {i : Nat} {x : Nat} (hd : decode cc pc = .ok (.aload_n k0, 1)) (hi : (k0 : Nat) = i) (hx : L[i]? = some (some (.ref x))) (hq : pc + 1 = q) (k : sm_S κ ex (.inl (q, L, .ref x :: st)) f) : sm_S κ ex (.inl (pc, L, st)) f := by
  subst hq
  exact sr_step (fun H locs ls hl w => lv_aload_n C.1 C.2.1 hd hi (hl.2.2 _ _ hx) (w ls hl)) k
theorem sr_aload (C : sm_C κ own cc nL d) {i : Nat} {x : Nat} (hd : decode cc pc = .ok (.aload i, 2)) (hx : L[i]? = some (some (.ref x))) (hq : pc + 2 = q) (k : sm_S κ ex (.inl (q, L, .ref x :: st)) f) : sm_S κ ex (.inl (pc, L, st)) f := by
  subst hq
  exact sr_step (fun H locs ls hl w => lv_aload C.1 C.2.1 hd (hl.2.2 _ _ hx) (w ls hl)) k
theorem sr_astore_n (C : sm_C κ own cc nL d) {k0 : Fin 4} {i : Nat} {x : Nat} (hd : decode cc pc = .ok (.astore_n k0, 1)) (hi : (k0 : Nat) = i) (hn : i < nL) (hL : sm_st1 L i (.ref x) = L') (hq : pc + 1 = q) (k : sm_S κ ex (.inl (q, L', st)) f) : sm_S κ ex (.inl (pc, L, .ref x :: st)) f := by
  subst hq; subst hL
  exact sr_step (fun H locs ls hl w => lv_astore_n C.1 C.2.1 hd hi hl.has (by rw [C.2.2.1]; exact hn) rfl (fun ls' h' => w ls' (sm_LR.st1 h'))) k
theorem sr_astore (C : sm_C κ own cc nL d) {i : Nat} {x : Nat} (hd : decode cc pc = .ok (.astore i, 2)) (hn : i < nL) (hL : sm_st1 L i (.ref x) = L') (hq : pc + 2 = q) (k : sm_S κ ex (.inl (q, L', st)) f) : sm_S κ ex (.inl (pc, L, .ref x :: st)) f := by
  subst hq; subst hL
  exact sr_step (fun H locs ls hl w => lv_astore C.1 C.2.1 hd hl.has (by rw [C.2.2.1]; exact hn) rfl (fun ls' h' => w ls' (sm_LR.st1 h'))) k
theorem sr_iinc (C : sm_C κ own cc nL d) {i : Nat} {n : Int} {x v : Int32} (hd : decode cc pc = .ok (.iinc i n, 3)) (hx : L[i]? = some (some (.int x))) (hv : x + Int32.ofInt n = v) (hn : i < nL) (hL : sm_st1 L i (.int v) = L') (hq : pc + 3 = q) (k : sm_S κ ex (.inl (q, L', st)) f) : sm_S κ ex (.inl (pc, L, st)) f := by
  subst hq; subst hL
  obtain ⟨k0, hk0⟩ := List.getElem?_of_mem (sm_al_mem.mpr hx)
  exact sr_step (fun H locs ls hl w => lv_iinc C.1 C.2.1 hd hl.has hk0 hv (by rw [C.2.2.1]; exact hn) rfl (fun ls' h' => w ls' (sm_LR.st1 h'))) k
theorem sr_iadd (C : sm_C κ own cc nL d) {x y : Int32} (hd : decode cc pc = .ok (.iadd, 1)) (hq : pc + 1 = q) (k : sm_S κ ex (.inl (q, L, .int (x + y) :: st)) f) : sm_S κ ex (.inl (pc, L, .int y :: .int x :: st)) f := by
  subst hq
  exact sr_step (fun H locs ls hl w => lv_iadd C.1 C.2.1 hd (w ls hl)) k
theorem sr_isub (C : sm_C κ own cc nL d) {x y : Int32} (hd : decode cc pc = .ok (.isub, 1)) (hq : pc + 1 = q) (k : sm_S κ ex (.inl (q, L, .int (x - y) :: st)) f) : sm_S κ ex (.inl (pc, L, .int y :: .int x :: st)) f := by
  subst hq
  exact sr_step (fun H locs ls hl w => lv_isub C.1 C.2.1 hd (w ls hl)) k
theorem sr_imul (C : sm_C κ own cc nL d) {x y : Int32} (hd : decode cc pc = .ok (.imul, 1)) (hq : pc + 1 = q) (k : sm_S κ ex (.inl (q, L, .int (x * y) :: st)) f) : sm_S κ ex (.inl (pc, L, .int y :: .int x :: st)) f := by
  subst hq
  exact sr_step (fun H locs ls hl w => lv_imul C.1 C.2.1 hd (w ls hl)) k
theorem sr_iand (C : sm_C κ own cc nL d) {x y : Int32} (hd : decode cc pc = .ok (.iand, 1)) (hq : pc + 1 = q) (k : sm_S κ ex (.inl (q, L, .int (x &&& y) :: st)) f) : sm_S κ ex (.inl (pc, L, .int y :: .int x :: st)) f := by
  subst hq
  exact sr_step (fun H locs ls hl w => lv_iand C.1 C.2.1 hd (w ls hl)) k
theorem sr_ior (C : sm_C κ own cc nL d) {x y : Int32} (hd : decode cc pc = .ok (.ior, 1)) (hq : pc + 1 = q) (k : sm_S κ ex (.inl (q, L, .int (x ||| y) :: st)) f) : sm_S κ ex (.inl (pc, L, .int y :: .int x :: st)) f := by
  subst hq
  exact sr_step (fun H locs ls hl w => lv_ior C.1 C.2.1 hd (w ls hl)) k
theorem sr_ixor (C : sm_C κ own cc nL d) {x y : Int32} (hd : decode cc pc = .ok (.ixor, 1)) (hq : pc + 1 = q) (k : sm_S κ ex (.inl (q, L, .int (x ^^^ y) :: st)) f) : sm_S κ ex (.inl (pc, L, .int y :: .int x :: st)) f := by
  subst hq
  exact sr_step (fun H locs ls hl w => lv_ixor C.1 C.2.1 hd (w ls hl)) k
theorem sr_ishl (C : sm_C κ own cc nL d) {x y : Int32} (hd : decode cc pc = .ok (.ishl, 1)) (hq : pc + 1 = q) (k : sm_S κ ex (.inl (q, L, .int (x <<< (y &&& 31)) :: st)) f) : sm_S κ ex (.inl (pc, L, .int y :: .int x :: st)) f := by
  subst hq
  exact sr_step (fun H locs ls hl w => lv_ishl C.1 C.2.1 hd (w ls hl)) k
theorem sr_ishr (C : sm_C κ own cc nL d) {x y : Int32} (hd : decode cc pc = .ok (.ishr, 1)) (hq : pc + 1 = q) (k : sm_S κ ex (.inl (q, L, .int (x >>> (y &&& 31)) :: st)) f) : sm_S κ ex (.inl (pc, L, .int y :: .int x :: st)) f := by
  subst hq
  exact sr_step (fun H locs ls hl w => lv_ishr C.1 C.2.1 hd (w ls hl)) k
theorem sr_iushr (C : sm_C κ own cc nL d) {x y : Int32} (hd : decode cc pc = .ok (.iushr, 1)) (hq : pc + 1 = q) (k : sm_S κ ex (.inl (q, L, .int ((x.toUInt32 >>> (y.toUInt32 &&& Int32.toUInt32 31)).toInt32) :: st)) f) : sm_S κ ex (.inl (pc, L, .int y :: .int x :: st)) f := by
  subst hq
  exact sr_step (fun H locs ls hl w => lv_iushr C.1 C.2.1 hd rfl (w ls hl)) k
theorem sr_ineg (C : sm_C κ own cc nL d) {x : Int32} (hd : decode cc pc = .ok (.ineg, 1)) (hq : pc + 1 = q) (k : sm_S κ ex (.inl (q, L, .int (-x) :: st)) f) : sm_S κ ex (.inl (pc, L, .int x :: st)) f := by
  subst hq
  exact sr_step (fun H locs ls hl w => lv_ineg C.1 C.2.1 hd (w ls hl)) k
theorem sr_idiv (C : sm_C κ own cc nL d) {x y : Int32} (hd : decode cc pc = .ok (.idiv, 1)) (hq : pc + 1 = q) (k : sm_S κ ex (.inl (q, L, .int (x / y) :: st)) f) : sm_S κ ex (.inl (pc, L, .int y :: .int x :: st)) (m_gd (¬ y = 0) f) := by
  subst hq
  exact sr_gd fun hne => sr_step (fun H locs ls hl w => lv_idiv C.1 C.2.1 hd hne (w ls hl)) k
theorem sr_irem (C : sm_C κ own cc nL d) {x y : Int32} (hd : decode cc pc = .ok (.irem, 1)) (hq : pc + 1 = q) (k : sm_S κ ex (.inl (q, L, .int (x - x / y * y) :: st)) f) : sm_S κ ex (.inl (pc, L, .int y :: .int x :: st)) (m_gd (¬ y = 0) f) := by
  subst hq
  exact sr_gd fun hne => sr_step (fun H locs ls hl w => lv_irem C.1 C.2.1 hd hne (w ls hl)) k
theorem sr_ldiv (C : sm_C κ own cc nL d) {x y : Int64} (hd : decode cc pc = .ok (.ldiv, 1)) (hq : pc + 1 = q) (k : sm_S κ ex (.inl (q, L, .long (x / y) :: st)) f) : sm_S κ ex (.inl (pc, L, .long y :: .long x :: st)) (m_gd (¬ y = 0) f) := by
  subst hq
  exact sr_gd fun hne => sr_step (fun H locs ls hl w => lv_ldiv C.1 C.2.1 hd hne (w ls hl)) k
theorem sr_lrem (C : sm_C κ own cc nL d) {x y : Int64} (hd : decode cc pc = .ok (.lrem, 1)) (hq : pc + 1 = q) (k : sm_S κ ex (.inl (q, L, .long (x - x / y * y) :: st)) f) : sm_S κ ex (.inl (pc, L, .long y :: .long x :: st)) (m_gd (¬ y = 0) f) := by
  subst hq
  exact sr_gd fun hne => sr_step (fun H locs ls hl w => lv_lrem C.1 C.2.1 hd hne (w ls hl)) k
theorem sr_ladd (C : sm_C κ own cc nL d) {x y : Int64} (hd : decode cc pc = .ok (.ladd, 1)) (hq : pc + 1 = q) (k : sm_S κ ex (.inl (q, L, .long (x + y) :: st)) f) : sm_S κ ex (.inl (pc, L, .long y :: .long x :: st)) f := by
  subst hq
  exact sr_step (fun H locs ls hl w => lv_ladd C.1 C.2.1 hd (w ls hl)) k
theorem sr_lsub (C : sm_C κ own cc nL d) {x y : Int64} (hd : decode cc pc = .ok (.lsub, 1)) (hq : pc + 1 = q) (k : sm_S κ ex (.inl (q, L, .long (x - y) :: st)) f) : sm_S κ ex (.inl (pc, L, .long y :: .long x :: st)) f := by
  subst hq
  exact sr_step (fun H locs ls hl w => lv_lsub C.1 C.2.1 hd (w ls hl)) k
theorem sr_lmul (C : sm_C κ own cc nL d) {x y : Int64} (hd : decode cc pc = .ok (.lmul, 1)) (hq : pc + 1 = q) (k : sm_S κ ex (.inl (q, L, .long (x * y) :: st)) f) : sm_S κ ex (.inl (pc, L, .long y :: .long x :: st)) f := by
  subst hq
  exact sr_step (fun H locs ls hl w => lv_lmul C.1 C.2.1 hd (w ls hl)) k
theorem sr_land (C : sm_C κ own cc nL d) {x y : Int64} (hd : decode cc pc = .ok (.land, 1)) (hq : pc + 1 = q) (k : sm_S κ ex (.inl (q, L, .long (x &&& y) :: st)) f) : sm_S κ ex (.inl (pc, L, .long y :: .long x :: st)) f := by
  subst hq
  exact sr_step (fun H locs ls hl w => lv_land C.1 C.2.1 hd (w ls hl)) k
theorem sr_lor (C : sm_C κ own cc nL d) {x y : Int64} (hd : decode cc pc = .ok (.lor, 1)) (hq : pc + 1 = q) (k : sm_S κ ex (.inl (q, L, .long (x ||| y) :: st)) f) : sm_S κ ex (.inl (pc, L, .long y :: .long x :: st)) f := by
  subst hq
  exact sr_step (fun H locs ls hl w => lv_lor C.1 C.2.1 hd (w ls hl)) k
theorem sr_lshl (C : sm_C κ own cc nL d) {x : Int64} {y : Int32} (hd : decode cc pc = .ok (.lshl, 1)) (hq : pc + 1 = q) (k : sm_S κ ex (.inl (q, L, .long (x <<< (y.toInt64 &&& 63)) :: st)) f) : sm_S κ ex (.inl (pc, L, .int y :: .long x :: st)) f := by
  subst hq
  exact sr_step (fun H locs ls hl w => lv_lshl C.1 C.2.1 hd rfl (w ls hl)) k
theorem sr_lshr (C : sm_C κ own cc nL d) {x : Int64} {y : Int32} (hd : decode cc pc = .ok (.lshr, 1)) (hq : pc + 1 = q) (k : sm_S κ ex (.inl (q, L, .long (x >>> (y.toInt64 &&& 63)) :: st)) f) : sm_S κ ex (.inl (pc, L, .int y :: .long x :: st)) f := by
  subst hq
  exact sr_step (fun H locs ls hl w => lv_lshr C.1 C.2.1 hd rfl (w ls hl)) k
theorem sr_lcmp (C : sm_C κ own cc nL d) {x y : Int64} (hd : decode cc pc = .ok (.lcmp, 1)) (hq : pc + 1 = q) (k : sm_S κ ex (.inl (q, L, .int (lg_cmp x y) :: st)) f) : sm_S κ ex (.inl (pc, L, .long y :: .long x :: st)) f := by
  subst hq
  exact sr_step (fun H locs ls hl w => W.lcmp C.1 C.2.1 hd (w ls hl)) k
theorem sr_i2l (C : sm_C κ own cc nL d) {x : Int32} (hd : decode cc pc = .ok (.i2l, 1)) (hq : pc + 1 = q) (k : sm_S κ ex (.inl (q, L, .long x.toInt64 :: st)) f) : sm_S κ ex (.inl (pc, L, .int x :: st)) f := by
  subst hq
  exact sr_step (fun H locs ls hl w => lv_i2l C.1 C.2.1 hd rfl (w ls hl)) k
theorem sr_l2i (C : sm_C κ own cc nL d) {x : Int64} (hd : decode cc pc = .ok (.l2i, 1)) (hq : pc + 1 = q) (k : sm_S κ ex (.inl (q, L, .int x.toInt32 :: st)) f) : sm_S κ ex (.inl (pc, L, .long x :: st)) f := by
  subst hq
  exact sr_step (fun H locs ls hl w => lv_l2i C.1 C.2.1 hd rfl (w ls hl)) k
theorem sr_i2b (C : sm_C κ own cc nL d) {x : Int32} (hd : decode cc pc = .ok (.i2b, 1)) (hq : pc + 1 = q) (k : sm_S κ ex (.inl (q, L, .int x.toInt8.toInt32 :: st)) f) : sm_S κ ex (.inl (pc, L, .int x :: st)) f := by
  subst hq
  exact sr_step (fun H locs ls hl w => lv_i2b C.1 C.2.1 hd rfl (w ls hl)) k
theorem sr_dup (C : sm_C κ own cc nL d) {v : Value} (hd : decode cc pc = .ok (.dup, 1)) (hv : v.category = 1) (hq : pc + 1 = q) (k : sm_S κ ex (.inl (q, L, v :: v :: st)) f) : sm_S κ ex (.inl (pc, L, v :: st)) f := by
  subst hq
  exact sr_step (fun H locs ls hl w => lv_dup C.1 C.2.1 hd hv (w ls hl)) k
theorem sr_pop (C : sm_C κ own cc nL d) {v : Value} (hd : decode cc pc = .ok (.pop, 1)) (hv : v.category = 1) (hq : pc + 1 = q) (k : sm_S κ ex (.inl (q, L, st)) f) : sm_S κ ex (.inl (pc, L, v :: st)) f := by
  subst hq
  exact sr_step (fun H locs ls hl w => lv_pop C.1 C.2.1 hd hv (w ls hl)) k
theorem sr_dup2 (C : sm_C κ own cc nL d) {v w0 : Value} (hd : decode cc pc = .ok (.dup2, 1)) (hv : v.category = 1) (hw : w0.category = 1) (hq : pc + 1 = q) (k : sm_S κ ex (.inl (q, L, v :: w0 :: v :: w0 :: st)) f) : sm_S κ ex (.inl (pc, L, v :: w0 :: st)) f := by
  subst hq
  exact sr_step (fun H locs ls hl w => lv_dup2_11 C.1 C.2.1 hd hv hw (w ls hl)) k
theorem sr_goto (C : sm_C κ own cc nL d) {off : Int} (hd : decode cc pc = .ok (.goto off, 3)) (ht : (pc : Int) + off = (q : Int)) (k : sm_S κ ex (.inl (q, L, st)) f) : sm_S κ ex (.inl (pc, L, st)) f :=
  sr_step (fun H locs ls hl w => lv_goto C.1 C.2.1 hd ht (w ls hl)) k
theorem sr_ldc (C : sm_C κ own cc nL d) {idx : Nat} {v : Int32} (hc : Cond.constant own idx v ∈ lw_w) (hd : decode cc pc = .ok (.ldc idx, 2)) (hq : pc + 2 = q) (k : sm_S κ ex (.inl (q, L, .int v :: st)) f) : sm_S κ ex (.inl (pc, L, st)) f := by
  subst hq
  exact sr_step (fun H locs ls hl w => lv_ldc C.1 C.2.1 C.2.2.2.1 (C.2.2.2.2.1 _ hc) hd (w ls hl)) k
theorem sr_ldcw (C : sm_C κ own cc nL d) {idx : Nat} {v : Int32} (hc : Cond.constant own idx v ∈ lw_w) (hd : decode cc pc = .ok (.ldc_w idx, 3)) (hq : pc + 3 = q) (k : sm_S κ ex (.inl (q, L, .int v :: st)) f) : sm_S κ ex (.inl (pc, L, st)) f := by
  subst hq
  exact sr_step (fun H locs ls hl w => lv_ldcw C.1 C.2.1 C.2.2.2.1 (C.2.2.2.2.1 _ hc) hd (w ls hl)) k
theorem sr_ldc2 (C : sm_C κ own cc nL d) {idx : Nat} {v : Int64} (hc : Cond.constantLong own idx v ∈ lw_w) (hd : decode cc pc = .ok (.ldc2_w idx, 3)) (hq : pc + 3 = q) (k : sm_S κ ex (.inl (q, L, .long v :: st)) f) : sm_S κ ex (.inl (pc, L, st)) f := by
  subst hq
  exact sr_step (fun H locs ls hl w => lv_ldc2 C.1 C.2.1 C.2.2.2.1 (C.2.2.2.2.1 _ hc) hd (w ls hl)) k
theorem sr_ldcS (C : sm_C κ own cc nL d) {idx i : Nat} {tx : String} (hc : (own, idx, tx, i) ∈ strT) (hd : decode cc pc = .ok (.ldc idx, 2)) (hq : pc + 2 = q) (k : sm_S κ ex (.inl (q, L, xst κ i :: st)) f) : sm_S κ ex (.inl (pc, L, st)) f := by
  subst hq
  exact sr_step (fun H locs ls hl w => va_ldcS C.1 C.2.1 C.2.2.2.1 (C.2.2.2.2.2.2.1.1 _ hc) hd (w ls hl)) k
theorem sr_if_eq (C : sm_C κ own cc nL d) {x : Int32} {off : Int} (t : Nat) (hd : decode cc pc = .ok (.ifCond .eq off, 3)) (ht : (pc : Int) + off = (t : Int)) (hq : pc + 3 = q) (kt : sm_S κ ex (.inl (t, L, st)) f) (kf : sm_S κ ex (.inl (q, L, st)) g) : sm_S κ ex (.inl (pc, L, .int x :: st)) (m_br (x = 0) f g) := by
  subst hq
  intro μ H locs a μ' h1 h2 h3 h4 ls hls
  unfold m_br at h3
  exact lv_if_eq C.1 C.2.1 hd ht (fun hc => kt μ H locs a μ' h1 h2 (by rw [if_pos hc] at h3; exact h3) h4 ls hls) (fun hc => kf μ H locs a μ' h1 h2 (by rw [if_neg hc] at h3; exact h3) h4 ls hls)
theorem sr_icmp_eq (C : sm_C κ own cc nL d) {x y : Int32} {off : Int} (t : Nat) (hd : decode cc pc = .ok (.if_icmp .eq off, 3)) (ht : (pc : Int) + off = (t : Int)) (hq : pc + 3 = q) (kt : sm_S κ ex (.inl (t, L, st)) f) (kf : sm_S κ ex (.inl (q, L, st)) g) : sm_S κ ex (.inl (pc, L, .int y :: .int x :: st)) (m_br (x = y) f g) := by
  subst hq
  intro μ H locs a μ' h1 h2 h3 h4 ls hls
  unfold m_br at h3
  exact lv_icmp_eq C.1 C.2.1 hd ht (fun hc => kt μ H locs a μ' h1 h2 (by rw [if_pos hc] at h3; exact h3) h4 ls hls) (fun hc => kf μ H locs a μ' h1 h2 (by rw [if_neg hc] at h3; exact h3) h4 ls hls)
theorem sr_if_ne (C : sm_C κ own cc nL d) {x : Int32} {off : Int} (t : Nat) (hd : decode cc pc = .ok (.ifCond .ne off, 3)) (ht : (pc : Int) + off = (t : Int)) (hq : pc + 3 = q) (kt : sm_S κ ex (.inl (t, L, st)) f) (kf : sm_S κ ex (.inl (q, L, st)) g) : sm_S κ ex (.inl (pc, L, .int x :: st)) (m_br (x = 0) g f) := by
  subst hq
  intro μ H locs a μ' h1 h2 h3 h4 ls hls
  unfold m_br at h3
  exact lv_if_ne C.1 C.2.1 hd ht (fun hc => kt μ H locs a μ' h1 h2 (by rw [if_neg hc] at h3; exact h3) h4 ls hls) (fun hc => kf μ H locs a μ' h1 h2 (by rw [if_pos hc] at h3; exact h3) h4 ls hls)
theorem sr_icmp_ne (C : sm_C κ own cc nL d) {x y : Int32} {off : Int} (t : Nat) (hd : decode cc pc = .ok (.if_icmp .ne off, 3)) (ht : (pc : Int) + off = (t : Int)) (hq : pc + 3 = q) (kt : sm_S κ ex (.inl (t, L, st)) f) (kf : sm_S κ ex (.inl (q, L, st)) g) : sm_S κ ex (.inl (pc, L, .int y :: .int x :: st)) (m_br (x = y) g f) := by
  subst hq
  intro μ H locs a μ' h1 h2 h3 h4 ls hls
  unfold m_br at h3
  exact lv_icmp_ne C.1 C.2.1 hd ht (fun hc => kt μ H locs a μ' h1 h2 (by rw [if_neg hc] at h3; exact h3) h4 ls hls) (fun hc => kf μ H locs a μ' h1 h2 (by rw [if_pos hc] at h3; exact h3) h4 ls hls)
theorem sr_if_lt (C : sm_C κ own cc nL d) {x : Int32} {off : Int} (t : Nat) (hd : decode cc pc = .ok (.ifCond .lt off, 3)) (ht : (pc : Int) + off = (t : Int)) (hq : pc + 3 = q) (kt : sm_S κ ex (.inl (t, L, st)) f) (kf : sm_S κ ex (.inl (q, L, st)) g) : sm_S κ ex (.inl (pc, L, .int x :: st)) (m_br (x < 0) f g) := by
  subst hq
  intro μ H locs a μ' h1 h2 h3 h4 ls hls
  unfold m_br at h3
  exact lv_if_lt C.1 C.2.1 hd ht (fun hc => kt μ H locs a μ' h1 h2 (by rw [if_pos hc] at h3; exact h3) h4 ls hls) (fun hc => kf μ H locs a μ' h1 h2 (by rw [if_neg hc] at h3; exact h3) h4 ls hls)
theorem sr_icmp_lt (C : sm_C κ own cc nL d) {x y : Int32} {off : Int} (t : Nat) (hd : decode cc pc = .ok (.if_icmp .lt off, 3)) (ht : (pc : Int) + off = (t : Int)) (hq : pc + 3 = q) (kt : sm_S κ ex (.inl (t, L, st)) f) (kf : sm_S κ ex (.inl (q, L, st)) g) : sm_S κ ex (.inl (pc, L, .int y :: .int x :: st)) (m_br (x < y) f g) := by
  subst hq
  intro μ H locs a μ' h1 h2 h3 h4 ls hls
  unfold m_br at h3
  exact lv_icmp_lt C.1 C.2.1 hd ht (fun hc => kt μ H locs a μ' h1 h2 (by rw [if_pos hc] at h3; exact h3) h4 ls hls) (fun hc => kf μ H locs a μ' h1 h2 (by rw [if_neg hc] at h3; exact h3) h4 ls hls)
theorem sr_if_ge (C : sm_C κ own cc nL d) {x : Int32} {off : Int} (t : Nat) (hd : decode cc pc = .ok (.ifCond .ge off, 3)) (ht : (pc : Int) + off = (t : Int)) (hq : pc + 3 = q) (kt : sm_S κ ex (.inl (t, L, st)) f) (kf : sm_S κ ex (.inl (q, L, st)) g) : sm_S κ ex (.inl (pc, L, .int x :: st)) (m_br (0 ≤ x) f g) := by
  subst hq
  intro μ H locs a μ' h1 h2 h3 h4 ls hls
  unfold m_br at h3
  exact lv_if_ge C.1 C.2.1 hd ht (fun hc => kt μ H locs a μ' h1 h2 (by rw [if_pos hc] at h3; exact h3) h4 ls hls) (fun hc => kf μ H locs a μ' h1 h2 (by rw [if_neg hc] at h3; exact h3) h4 ls hls)
theorem sr_icmp_ge (C : sm_C κ own cc nL d) {x y : Int32} {off : Int} (t : Nat) (hd : decode cc pc = .ok (.if_icmp .ge off, 3)) (ht : (pc : Int) + off = (t : Int)) (hq : pc + 3 = q) (kt : sm_S κ ex (.inl (t, L, st)) f) (kf : sm_S κ ex (.inl (q, L, st)) g) : sm_S κ ex (.inl (pc, L, .int y :: .int x :: st)) (m_br (y ≤ x) f g) := by
  subst hq
  intro μ H locs a μ' h1 h2 h3 h4 ls hls
  unfold m_br at h3
  exact lv_icmp_ge C.1 C.2.1 hd ht (fun hc => kt μ H locs a μ' h1 h2 (by rw [if_pos hc] at h3; exact h3) h4 ls hls) (fun hc => kf μ H locs a μ' h1 h2 (by rw [if_neg hc] at h3; exact h3) h4 ls hls)
theorem sr_if_gt (C : sm_C κ own cc nL d) {x : Int32} {off : Int} (t : Nat) (hd : decode cc pc = .ok (.ifCond .gt off, 3)) (ht : (pc : Int) + off = (t : Int)) (hq : pc + 3 = q) (kt : sm_S κ ex (.inl (t, L, st)) f) (kf : sm_S κ ex (.inl (q, L, st)) g) : sm_S κ ex (.inl (pc, L, .int x :: st)) (m_br (0 < x) f g) := by
  subst hq
  intro μ H locs a μ' h1 h2 h3 h4 ls hls
  unfold m_br at h3
  exact lv_if_gt C.1 C.2.1 hd ht (fun hc => kt μ H locs a μ' h1 h2 (by rw [if_pos hc] at h3; exact h3) h4 ls hls) (fun hc => kf μ H locs a μ' h1 h2 (by rw [if_neg hc] at h3; exact h3) h4 ls hls)
theorem sr_icmp_gt (C : sm_C κ own cc nL d) {x y : Int32} {off : Int} (t : Nat) (hd : decode cc pc = .ok (.if_icmp .gt off, 3)) (ht : (pc : Int) + off = (t : Int)) (hq : pc + 3 = q) (kt : sm_S κ ex (.inl (t, L, st)) f) (kf : sm_S κ ex (.inl (q, L, st)) g) : sm_S κ ex (.inl (pc, L, .int y :: .int x :: st)) (m_br (y < x) f g) := by
  subst hq
  intro μ H locs a μ' h1 h2 h3 h4 ls hls
  unfold m_br at h3
  exact lv_icmp_gt C.1 C.2.1 hd ht (fun hc => kt μ H locs a μ' h1 h2 (by rw [if_pos hc] at h3; exact h3) h4 ls hls) (fun hc => kf μ H locs a μ' h1 h2 (by rw [if_neg hc] at h3; exact h3) h4 ls hls)
theorem sr_if_le (C : sm_C κ own cc nL d) {x : Int32} {off : Int} (t : Nat) (hd : decode cc pc = .ok (.ifCond .le off, 3)) (ht : (pc : Int) + off = (t : Int)) (hq : pc + 3 = q) (kt : sm_S κ ex (.inl (t, L, st)) f) (kf : sm_S κ ex (.inl (q, L, st)) g) : sm_S κ ex (.inl (pc, L, .int x :: st)) (m_br (x ≤ 0) f g) := by
  subst hq
  intro μ H locs a μ' h1 h2 h3 h4 ls hls
  unfold m_br at h3
  exact lv_if_le C.1 C.2.1 hd ht (fun hc => kt μ H locs a μ' h1 h2 (by rw [if_pos hc] at h3; exact h3) h4 ls hls) (fun hc => kf μ H locs a μ' h1 h2 (by rw [if_neg hc] at h3; exact h3) h4 ls hls)
theorem sr_icmp_le (C : sm_C κ own cc nL d) {x y : Int32} {off : Int} (t : Nat) (hd : decode cc pc = .ok (.if_icmp .le off, 3)) (ht : (pc : Int) + off = (t : Int)) (hq : pc + 3 = q) (kt : sm_S κ ex (.inl (t, L, st)) f) (kf : sm_S κ ex (.inl (q, L, st)) g) : sm_S κ ex (.inl (pc, L, .int y :: .int x :: st)) (m_br (x ≤ y) f g) := by
  subst hq
  intro μ H locs a μ' h1 h2 h3 h4 ls hls
  unfold m_br at h3
  exact lv_icmp_le C.1 C.2.1 hd ht (fun hc => kt μ H locs a μ' h1 h2 (by rw [if_pos hc] at h3; exact h3) h4 ls hls) (fun hc => kf μ H locs a μ' h1 h2 (by rw [if_neg hc] at h3; exact h3) h4 ls hls)
theorem sr_tabIn (C : sm_C κ own cc nL d) {dflt lo hi off : Int} {offs : Array Int} {len : Nat} {x v : Int32} (hx : x = v) (hd : decode cc pc = .ok (.tableswitch dflt lo hi offs, len)) (h1 : ¬ v.toInt < lo) (h2 : ¬ hi < v.toInt) (ho : offs[(v.toInt - lo).toNat]? = some off) (ht : (pc : Int) + off = (q : Int)) (k : sm_S κ ex (.inl (q, L, st)) f) : sm_S κ ex (.inl (pc, L, .int x :: st)) f := by
  subst hx
  exact sr_step (fun H locs ls hl w => lv_tableIn C.1 C.2.1 hd h1 h2 ho ht (w ls hl)) k
theorem sr_tabOut (C : sm_C κ own cc nL d) {dflt lo hi : Int} {offs : Array Int} {len : Nat} {x : Int32} (hx : x.toInt < lo ∨ hi < x.toInt) (hd : decode cc pc = .ok (.tableswitch dflt lo hi offs, len)) (ht : (pc : Int) + dflt = (q : Int)) (k : sm_S κ ex (.inl (q, L, st)) f) : sm_S κ ex (.inl (pc, L, .int x :: st)) f :=
  sr_step (fun H locs ls hl w => lv_tableOut C.1 C.2.1 hd hx ht (w ls hl)) k
end SR
