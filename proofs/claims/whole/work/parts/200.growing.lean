/-! ===== THE CONSTRUCTORS: worlds that grow, cell by cell ===== -/
def cw (b : Nat) (N : List va_E) : va_W := (List.range N.length).map (fun i => (b + i, N.getD i (.inr (0, []))))
theorem cw_len {b : Nat} {N : List va_E} : (cw b N).length = N.length := by simp [cw]
theorem cw_get {b i : Nat} {N : List va_E} {e : va_E} (h : N[i]? = some e) : (cw b N)[i]? = some (b + i, e) := by
  unfold cw
  rw [List.getElem?_map, List.getElem?_range (List.getElem?_eq_some_iff.mp h).1]
  simp [List.getD_eq_getElem?_getD, h]
theorem cw_of {b i : Nat} {N : List va_E} {p : Nat × va_E} (h : (cw b N)[i]? = some p) : p.1 = b + i := by
  have hi : i < N.length := by
    have := (List.getElem?_eq_some_iff.mp h).1
    rwa [cw_len] at this
  rw [cw_get (List.getElem?_eq_getElem hi)] at h
  cases h
  rfl
theorem cw_set {b i : Nat} {N : List va_E} {e : va_E} : (cw b N).set i (b + i, e) = cw b (N.set i e) := by
  apply List.ext_getElem?
  intro j
  by_cases hj : j < N.length
  · by_cases hji : j = i
    · subst hji
      rw [List.getElem?_set_self (by rw [cw_len]; exact hj), cw_get (e := e) (List.getElem?_set_self hj)]
    · rw [List.getElem?_set_ne (fun q => hji q.symm), cw_get (List.getElem?_eq_getElem hj), cw_get (e := N[j]) (by rw [List.getElem?_set_ne (fun q => hji q.symm)]; exact List.getElem?_eq_getElem hj)]
  · rw [List.getElem?_eq_none (by rw [List.length_set, cw_len]; omega), List.getElem?_eq_none (by rw [cw_len, List.length_set]; omega)]
theorem cw_app {b : Nat} {N : List va_E} {e : va_E} : cw b (N ++ [e]) = cw b N ++ [(b + N.length, e)] := by
  apply List.ext_getElem?
  intro j
  by_cases hj : j < N.length
  · rw [cw_get (e := N[j]) (by rw [List.getElem?_append_left hj]; exact List.getElem?_eq_getElem hj), List.getElem?_append_left (by rw [cw_len]; exact hj), cw_get (List.getElem?_eq_getElem hj)]
  · by_cases hj2 : j = N.length
    · subst hj2
      rw [cw_get (e := e) (by simp), List.getElem?_append_right (by rw [cw_len]; omega), cw_len]
      simp
    · rw [List.getElem?_eq_none (by rw [cw_len]; simp; omega), List.getElem?_eq_none (by simp [cw_len]; omega)]
theorem cw_D {ω : sm_O} {N : List va_E} : va_D (sm_A ω) (cw ω.1 N) := by
  refine ⟨fun i j p q h1 h2 e => ?_, fun k q h => ?_⟩
  · have e1 := cw_of h1
    have e2 := cw_of h2
    omega
  · show ω.1 ≤ q.1
    rw [cw_of h]
    omega
def cH (ω : sm_O) (N : List va_E) (H : Heap) : Prop := va_P ω.2.1 classes (cw ω.1 N) H
def nestT : List (String × Nat × MethodName) := [("BearsTwo", 19, yX6_init), ("BearsTwo", 26, yX7_init), ("BearsTwo", 45, yX3_init), ("BearsTwo", 109, yX8_init), ("BearsTwo$Flow", 13, yX4_init), ("BearsTwo$Reader", 11, yX7_init)]
/-- what holds all over a constructor's body (and the law's, as long as it makes objects) -/
def tC (κ : sm_X) (own : String) (cc : ByteArray) (nL d m0 : Nat) : Prop := (xs κ).heap.size = (xo κ).1 + m0 ∧ (xp κ).tables.exec = Jvm.exec ∧ (xc κ).code = cc ∧ (xc κ).maxLocals = nL ∧ (xs κ).vm.findClass own = some (xm κ).cls ∧ (∀ w ∈ lw_w, w.before (xa κ) (xs κ) = true) ∧ va_K (xo κ).2.1 classes (sm_tys (xo κ)) (xs κ) ∧ (xo κ).1 ≤ (xs κ).heap.size ∧ d ≤ (xr κ).frames ∧ 64 * d ≤ (xr κ).locals ∧ (∀ z ∈ nestT, va_Nw (.methodLinkNest z.1 z.2.1 z.2.2 "BearsTwo") (xs κ)) ∧ va_AO RX9 (xs κ) ∧ va_AO RX8 (xs κ) ∧ va_AO RX7 (xs κ)
def tW (κ : sm_X) (cs ss : Nat) (H : Heap) (locs : List Loc) (g : JFrame) : Prop := W (xp κ) (xl κ) (xe κ) (xr κ) (xs κ) (xm κ) (xa κ) (xb κ) (xt κ) (xc κ) H locs cs ss (xq κ) g
def tT (κ : sm_X) (cs ss pc : Nat) (L : List (Option Value)) (st : List Value) (N : List va_E) : Prop := ∀ (H : Heap) (locs : List Loc), cH (xo κ) N H → va_S (sm_A (xo κ)) (xs κ).heap H locs → ∀ ls : Array Slot, sm_LR ls (xc κ).maxLocals L → tW κ cs ss H locs (F0 (xm κ) pc ls st)
section TA
variable {κ : sm_X} {own : String} {cc : ByteArray} {nL d m0 : Nat}
theorem tC.sz (C : tC κ own cc nL d m0) : (xs κ).heap.size = (xo κ).1 + m0 := C.1
theorem tC.ex (C : tC κ own cc nL d m0) : (xp κ).tables.exec = Jvm.exec := C.2.1
theorem tC.by (C : tC κ own cc nL d m0) : (xc κ).code = cc := C.2.2.1
theorem tC.ml (C : tC κ own cc nL d m0) : (xc κ).maxLocals = nL := C.2.2.2.1
theorem tC.ow (C : tC κ own cc nL d m0) : (xs κ).vm.findClass own = some (xm κ).cls := C.2.2.2.2.1
theorem tC.ts (C : tC κ own cc nL d m0) : ∀ w ∈ lw_w, w.before (xa κ) (xs κ) = true := C.2.2.2.2.2.1
theorem tC.kk (C : tC κ own cc nL d m0) : va_K (xo κ).2.1 classes (sm_tys (xo κ)) (xs κ) := C.2.2.2.2.2.2.1
theorem tC.bs (C : tC κ own cc nL d m0) : (xo κ).1 ≤ (xs κ).heap.size := C.2.2.2.2.2.2.2.1
theorem tC.fr (C : tC κ own cc nL d m0) : d ≤ (xr κ).frames := C.2.2.2.2.2.2.2.2.1
theorem tC.lo (C : tC κ own cc nL d m0) : 64 * d ≤ (xr κ).locals := C.2.2.2.2.2.2.2.2.2.1
theorem tC.ne (C : tC κ own cc nL d m0) : ∀ z ∈ nestT, va_Nw (.methodLinkNest z.1 z.2.1 z.2.2 "BearsTwo") (xs κ) := C.2.2.2.2.2.2.2.2.2.2.1
theorem tC.ao (C : tC κ own cc nL d m0) : va_AO RX9 (xs κ) ∧ va_AO RX8 (xs κ) ∧ va_AO RX7 (xs κ) := C.2.2.2.2.2.2.2.2.2.2.2
end TA
section TC
variable {κ : sm_X} {own : String} {cc : ByteArray} {nL d m0 : Nat} {cs ss pc q : Nat} {L L' : List (Option Value)} {st st' : List Value} {N : List va_E}
theorem tc_go (h : ∀ (H : Heap) (locs : List Loc) (ls : Array Slot), sm_LR ls (xc κ).maxLocals L → (∀ ls' : Array Slot, sm_LR ls' (xc κ).maxLocals L' → tW κ cs ss H locs (F0 (xm κ) q ls' st')) → tW κ cs ss H locs (F0 (xm κ) pc ls st)) (k : tT κ cs ss q L' st' N) : tT κ cs ss pc L st N :=
  fun H locs h1 h2 ls hl => h H locs ls hl (fun ls' hl' => k H locs h1 h2 ls' hl')
theorem tc_aload (C : tC κ own cc nL d m0) {i x : Nat} (hd : decode cc pc = .ok (.aload i, 2)) (hx : L[i]? = some (some (.ref x))) (hq : pc + 2 = q) (k : tT κ cs ss q L (.ref x :: st) N) : tT κ cs ss pc L st N := by
  subst hq
  exact tc_go (fun H locs ls hl w => lv_aload C.ex C.by hd (hl.2.2 _ _ hx) (w ls hl)) k
theorem tc_aload_n (C : tC κ own cc nL d m0) {k0 : Fin 4} {i x : Nat} (hd : decode cc pc = .ok (.aload_n k0, 1)) (hi : (k0 : Nat) = i) (hx : L[i]? = some (some (.ref x))) (hq : pc + 1 = q) (k : tT κ cs ss q L (.ref x :: st) N) : tT κ cs ss pc L st N := by
  subst hq
  exact tc_go (fun H locs ls hl w => lv_aload_n C.ex C.by hd hi (hl.2.2 _ _ hx) (w ls hl)) k
theorem tc_iload_n (C : tC κ own cc nL d m0) {k0 : Fin 4} {i : Nat} {x : Int32} (hd : decode cc pc = .ok (.iload_n k0, 1)) (hi : (k0 : Nat) = i) (hx : L[i]? = some (some (.int x))) (hq : pc + 1 = q) (k : tT κ cs ss q L (.int x :: st) N) : tT κ cs ss pc L st N := by
  subst hq
  exact tc_go (fun H locs ls hl w => lv_iload_n C.ex C.by hd hi (hl.2.2 _ _ hx) (w ls hl)) k
theorem tc_istore_n (C : tC κ own cc nL d m0) {k0 : Fin 4} {i : Nat} {x : Int32} (hd : decode cc pc = .ok (.istore_n k0, 1)) (hi : (k0 : Nat) = i) (hn : i < nL) (hL : sm_st1 L i (.int x) = L') (hq : pc + 1 = q) (k : tT κ cs ss q L' st N) : tT κ cs ss pc L (.int x :: st) N := by
  subst hq; subst hL
  exact tc_go (fun H locs ls hl w => lv_istore_n C.ex C.by hd hi hl.has (by rw [C.ml]; exact hn) rfl (fun ls' h' => w ls' (sm_LR.st1 h'))) k
theorem tc_astore_n (C : tC κ own cc nL d m0) {k0 : Fin 4} {i x : Nat} (hd : decode cc pc = .ok (.astore_n k0, 1)) (hi : (k0 : Nat) = i) (hn : i < nL) (hL : sm_st1 L i (.ref x) = L') (hq : pc + 1 = q) (k : tT κ cs ss q L' st N) : tT κ cs ss pc L (.ref x :: st) N := by
  subst hq; subst hL
  exact tc_go (fun H locs ls hl w => lv_astore_n C.ex C.by hd hi hl.has (by rw [C.ml]; exact hn) rfl (fun ls' h' => w ls' (sm_LR.st1 h'))) k
theorem tc_iinc (C : tC κ own cc nL d m0) {i : Nat} {n : Int} {x v : Int32} (hd : decode cc pc = .ok (.iinc i n, 3)) (hx : L[i]? = some (some (.int x))) (hv : x + Int32.ofInt n = v) (hn : i < nL) (hL : sm_st1 L i (.int v) = L') (hq : pc + 3 = q) (k : tT κ cs ss q L' st N) : tT κ cs ss pc L st N := by
  subst hq; subst hL
  obtain ⟨k0, hk0⟩ := List.getElem?_of_mem (sm_al_mem.mpr hx)
  exact tc_go (fun H locs ls hl w => lv_iinc C.ex C.by hd hl.has hk0 hv (by rw [C.ml]; exact hn) rfl (fun ls' h' => w ls' (sm_LR.st1 h'))) k
theorem tc_iconst (C : tC κ own cc nL d m0) {n : Int} {v : Int32} (hd : decode cc pc = .ok (.iconst n, 1)) (hv : Int32.ofInt n = v) (hq : pc + 1 = q) (k : tT κ cs ss q L (.int v :: st) N) : tT κ cs ss pc L st N := by
  subst hq
  exact tc_go (fun H locs ls hl w => lv_iconst C.ex C.by hd hv (w ls hl)) k
theorem tc_bipush (C : tC κ own cc nL d m0) {n : Int} {v : Int32} (hd : decode cc pc = .ok (.bipush n, 2)) (hv : (Int8.ofInt n).toInt32 = v) (hq : pc + 2 = q) (k : tT κ cs ss q L (.int v :: st) N) : tT κ cs ss pc L st N := by
  subst hq
  exact tc_go (fun H locs ls hl w => lv_bipush C.ex C.by hd hv (w ls hl)) k
theorem tc_sipush (C : tC κ own cc nL d m0) {n : Int} {v : Int32} (hd : decode cc pc = .ok (.sipush n, 3)) (hv : (Int16.ofInt n).toInt32 = v) (hq : pc + 3 = q) (k : tT κ cs ss q L (.int v :: st) N) : tT κ cs ss pc L st N := by
  subst hq
  exact tc_go (fun H locs ls hl w => lv_sipush C.ex C.by hd hv (w ls hl)) k
theorem tc_dup (C : tC κ own cc nL d m0) {v : Value} (hd : decode cc pc = .ok (.dup, 1)) (hv : v.category = 1) (hq : pc + 1 = q) (k : tT κ cs ss q L (v :: v :: st) N) : tT κ cs ss pc L (v :: st) N := by
  subst hq
  exact tc_go (fun H locs ls hl w => lv_dup C.ex C.by hd hv (w ls hl)) k
theorem tc_goto (C : tC κ own cc nL d m0) {off : Int} (hd : decode cc pc = .ok (.goto off, 3)) (ht : (pc : Int) + off = (q : Int)) (k : tT κ cs ss q L st N) : tT κ cs ss pc L st N :=
  tc_go (fun H locs ls hl w => lv_goto C.ex C.by hd ht (w ls hl)) k
theorem tc_geT (C : tC κ own cc nL d m0) {x y : Int32} {off : Int} (hd : decode cc pc = .ok (.if_icmp .ge off, 3)) (ht : (pc : Int) + off = (q : Int)) (hx : y ≤ x) (k : tT κ cs ss q L st N) : tT κ cs ss pc L (.int y :: .int x :: st) N :=
  tc_go (fun H locs ls hl w => lv_icmp_ge C.ex C.by hd ht (fun _ => w ls hl) (fun hc => absurd hx hc)) k
theorem tc_geF (C : tC κ own cc nL d m0) {x y : Int32} {off : Int} (t : Nat) (hd : decode cc pc = .ok (.if_icmp .ge off, 3)) (ht : (pc : Int) + off = (t : Int)) (hx : ¬ y ≤ x) (hq : pc + 3 = q) (k : tT κ cs ss q L st N) : tT κ cs ss pc L (.int y :: .int x :: st) N := by
  subst hq
  exact tc_go (fun H locs ls hl w => lv_icmp_ge C.ex C.by hd ht (fun hc => absurd hc hx) (fun _ => w ls hl)) k
theorem tc_gtT (C : tC κ own cc nL d m0) {x y : Int32} {off : Int} (hd : decode cc pc = .ok (.if_icmp .gt off, 3)) (ht : (pc : Int) + off = (q : Int)) (hx : y < x) (k : tT κ cs ss q L st N) : tT κ cs ss pc L (.int y :: .int x :: st) N :=
  tc_go (fun H locs ls hl w => lv_icmp_gt C.ex C.by hd ht (fun _ => w ls hl) (fun hc => absurd hx hc)) k
theorem tc_gtF (C : tC κ own cc nL d m0) {x y : Int32} {off : Int} (t : Nat) (hd : decode cc pc = .ok (.if_icmp .gt off, 3)) (ht : (pc : Int) + off = (t : Int)) (hx : ¬ y < x) (hq : pc + 3 = q) (k : tT κ cs ss q L st N) : tT κ cs ss pc L (.int y :: .int x :: st) N := by
  subst hq
  exact tc_go (fun H locs ls hl w => lv_icmp_gt C.ex C.by hd ht (fun hc => absurd hc hx) (fun _ => w ls hl)) k
theorem tc_obj (C : tC κ own cc nL d m0) {idx a : Nat} (hl : Cond.methodLink own idx objectInit ∈ lw_w) (hi : Cond.instanceMethod objectInit ∈ lw_w) (hc : Cond.code objectInit ⟨#[0xb1]⟩ 1 none ∈ lw_w) (h1 : 1 ≤ d) (hst : (st.map fun v => v.category).sum ≤ 8) (hd : decode cc pc = .ok (.invokespecial idx, 3)) (hq : pc + 3 = q) (k : tT κ cs ss q L st N) : tT κ cs ss pc L (.ref a :: st) N := by
  subst hq
  have hts := C.ts
  have r1 := C.fr
  have r2 := C.lo
  refine tc_go (q := pc + 3) (L' := L) (st' := st) (fun H locs ls hls w => W.objInit (g := F0 (xm κ) pc ls (.ref a :: st)) C.ex C.by C.ow (hts _ hl) (hts _ hi) (hts _ hc) rfl hls.1 rfl hd (by omega) ?_ (w ls hls)) k
  have := lv_room (m := xm κ) (pc := pc) (ls := ls) (rest := .ref a :: st) hst
  omega
theorem cg {M tl : List va_E} {j : Nat} {e : va_E} (h : tl[j]? = some e) : (M ++ tl)[M.length + j]? = some e := by
  rw [List.getElem?_append_right (by omega), show M.length + j - M.length = j by omega]
  exact h
theorem cs_ {M tl : List va_E} {j : Nat} {e : va_E} : (M ++ tl).set (M.length + j) e = M ++ tl.set j e := by
  rw [List.set_append_right _ _ (by omega), show M.length + j - M.length = j by omega]
variable {M tl tl' : List va_E}
theorem tc_size {H : Heap} {locs : List Loc} (hsz : (xs κ).heap.size = (xo κ).1 + m0) (hN : N.length = m0 + cs) (h1 : cH (xo κ) N H) (h2 : va_S (sm_A (xo κ)) (xs κ).heap H locs) {T : State} (hT : T.heap = H) (X : Stand (xp κ) (xl κ) (xe κ) (xr κ) (xs κ) (xm κ) (xa κ) (xb κ) (xt κ) (xc κ) T locs cs ss) : H.size = (xo κ).1 + N.length := by
  have hu : H.size ≤ (xs κ).heap.size + cs := by rw [← hT]; exact X.heapSize
  have hl := h2.1
  rcases Nat.eq_zero_or_pos N.length with h0 | h0
  · omega
  · have hi : N.length - 1 < N.length := by omega
    have := (h1 (N.length - 1) _ (cw_get (List.getElem?_eq_getElem hi))).lt
    omega
theorem tc_sz {H : Heap} {locs : List Loc} {g : JFrame} (hsz : (xs κ).heap.size = (xo κ).1 + m0) (hN : N.length = m0 + cs) (h1 : cH (xo κ) N H) (h2 : va_S (sm_A (xo κ)) (xs κ).heap H locs) (k : H.size = (xo κ).1 + N.length → tW κ cs ss H locs g) : tW κ cs ss H locs g :=
  fun T hT X => k (tc_size hsz hN h1 h2 hT X) T hT X
theorem tc_push {H H1 : Heap} {locs : List Loc} {ls : Array Slot} {e : va_E} {st1 : List Value} {cs1 ss1 : Nat} (hz : H.size = (xo κ).1 + N.length) (h1 : cH (xo κ) N H) (h2 : va_S (sm_A (xo κ)) (xs κ).heap H locs) (z1 : H1.size = H.size + 1) (o1 : ∀ q, q < H.size → H1[q]? = H[q]?) (he : va_at (xo κ).2.1 classes (H.size, e) H1) (hls : sm_LR ls (xc κ).maxLocals L) (k : tT κ cs1 ss1 q L st1 (N ++ [e])) : tW κ cs1 ss1 H1 locs (F0 (xm κ) q ls st1) := by
  have hk : ∀ (k : Nat) (x : Nat × va_E), (cw (xo κ).1 N)[k]? = some x → H1[x.1]? = H[x.1]? := fun k x hx => o1 x.1 ((h1 k x hx).lt)
  refine k H1 locs ?_ ⟨Nat.le_trans h2.1 (by omega), fun x a1 a2 => (o1 x (Nat.lt_of_lt_of_le a1 h2.1)).trans (h2.2.1 x a1 a2), h2.2.2⟩ ls hls
  unfold cH
  rw [cw_app]
  refine (h1.kept hk).app (fun k x hx => ?_)
  have hz1 : k < 1 := (List.getElem?_eq_some_iff.mp hx).1
  rw [show k = 0 by omega] at hx
  cases hx
  rw [← hz]
  exact he
theorem tc_new (C : tC κ own cc nL d m0) {idx ci j : Nat} {Cn : String} {T : u_T} {n : Nat} {fs : List Value} (ty : Nat → FieldType) (hty : ∀ k, k < n → parseFieldDescriptor (T k).2.2.1 = some (ty k)) (hc : classes[ci]? = some (Cn, T, n)) (hcl : Cond.classLink own idx Cn ∈ lw_w) (hin : Cond.instantiable Cn n ∈ lw_w) (hini : Cond.initialized Cn ∈ lw_w) (hfs : ∀ j, j < n → defaultValue (ty j) = vp_V fs j) (hM : M.length + j = m0 + cs) (hcs : cs + 1 ≤ (xr κ).cells) (hss : ss + n ≤ (xr κ).slots) (hd : decode cc pc = .ok (.new idx, 3)) (hq : pc + 3 = q) (hj : tl.length = j) (htl : tl ++ [.inr (ci, fs)] = tl')
    (k : tT κ (cs + 1) (ss + n) q L (xad κ (M.length + j) :: st) (M ++ tl')) : tT κ cs ss pc L st (M ++ tl) := by
  subst hq; subst hj; subst htl
  intro H locs h1 h2 ls hls
  have hts := C.ts
  have hK := C.kk
  have hKn := hK.1 ci _ hc
  refine tc_sz C.sz (by rw [List.length_append]; exact hM) h1 h2 (fun hz0 => ?_)
  have hz : H.size = (xo κ).1 + (M.length + tl.length) := by rw [hz0, List.length_append]
  refine W.newcK C.ex C.by C.ow (hts _ hcl) (hts _ hin) (hts _ hini) rfl hd hcs hss hKn.2.1 rfl fun H1 kC hkC e1 z1 o1 => ?_
  have e2 : va_at (xo κ).2.1 classes (H.size, .inr (ci, fs)) H1 := ⟨_, hc, (u_born ty hts (sm_cls hc).1 hKn hkC e1 hty).to hfs⟩
  rw [← List.append_assoc] at k
  have key := tc_push hz0 h1 h2 z1 o1 e2 hls k
  rw [hz]
  exact key
theorem tc_newa (C : tC κ own cc nL d m0) {atype : ArrayType} {ty : FieldType} {t t0 j n : Nat} {v : Int32} {a0 : vp_A} (hw : Cond.arrayClass (newarray.typeOf atype) ∈ lw_w) (hty : newarray.typeOf atype = ty) (ht : (sm_tys (xo κ))[t0]? = some ((xo κ).2.2.1 t, ty)) (hpr : va_RA (xs κ) ((xo κ).2.2.1 t) ty → (xs κ).vm.findClass ("[" ++ ty.toString) = some ((xo κ).2.2.1 t)) (ha : ∀ cA : ClassId, vp_cell cA a0 = arrV cA n (fun _ => defaultValue ty)) (hn : ¬ v < 0) (hN : v.toNatClampNeg = n) (hb : n * componentBytes ty ≤ 536870912) (hM : M.length + j = m0 + cs) (hcs : cs + 1 ≤ (xr κ).cells) (hss : ss + n ≤ (xr κ).slots) (hd : decode cc pc = .ok (.newarray atype, 2)) (hq : pc + 2 = q) (hj : tl.length = j) (htl : tl ++ [.inl ((xo κ).2.2.1 t, a0)] = tl')
    (k : tT κ (cs + 1) (ss + n) q L (xad κ (M.length + j) :: st) (M ++ tl')) : tT κ cs ss pc L (.int v :: st) (M ++ tl) := by
  subst hq; subst hj; subst htl; subst hty
  intro H locs h1 h2 ls hls
  have hts := C.ts
  have hK := C.kk
  refine tc_sz C.sz (by rw [List.length_append]; exact hM) h1 h2 (fun hz0 => ?_)
  have hz : H.size = (xo κ).1 + (M.length + tl.length) := by rw [hz0, List.length_append]
  refine va_newaK C.ex C.by (hts _ hw) rfl hd rfl hn hN hb hcs hss rfl fun H1 cA e1 z1 o1 hAr hNm => ?_
  have hcA : cA = (xo κ).2.2.1 t := Option.some.inj (hNm.symm.trans (hpr (hK.2 t0 _ ht).2))
  have e2 : va_at (xo κ).2.1 classes (H.size, .inl ((xo κ).2.2.1 t, a0)) H1 := by
    show H1[H.size]? = some (vp_cell _ _)
    rw [ha, ← hcA]
    exact e1
  rw [← List.append_assoc] at k
  have key := tc_push hz0 h1 h2 z1 o1 e2 hls k
  rw [hz]
  exact key
theorem tc_anew (C : tC κ own cc nL d m0) {idx t t0 j n : Nat} {v : Int32} {Cn : String} (hcl : Cond.classLink own idx Cn ∈ lw_w) (hov : va_AO Cn (xs κ)) (ht : (sm_tys (xo κ))[t0]? = some ((xo κ).2.2.1 t, .object Cn)) (hn : ¬ v < 0) (hN : v.toNatClampNeg = n) (hb : n * 4 ≤ 536870912) (hM : M.length + j = m0 + cs) (hcs : cs + 1 ≤ (xr κ).cells) (hss : ss + n ≤ (xr κ).slots) (hd : decode cc pc = .ok (.anewarray idx, 3)) (hq : pc + 3 = q) (hj : tl.length = j) (htl : tl ++ [.inl ((xo κ).2.2.1 t, n, .inr (.inr (.inr (.inr (fun _ => none)))))] = tl')
    (k : tT κ (cs + 1) (ss + n) q L (xad κ (M.length + j) :: st) (M ++ tl')) : tT κ cs ss pc L (.int v :: st) (M ++ tl) := by
  subst hq; subst hj; subst htl; subst hN
  intro H locs h1 h2 ls hls
  have hts := C.ts
  have hK := C.kk
  refine tc_sz C.sz (by rw [List.length_append]; exact hM) h1 h2 (fun hz0 => ?_)
  have hz : H.size = (xo κ).1 + (M.length + tl.length) := by rw [hz0, List.length_append]
  refine W.anew C.ex C.by C.ow (hts _ hcl) (va_AO.use hov) rfl hd rfl hn hb hcs hss fun cA kA comp f1 f2 f3 f4 => ?_
  obtain ⟨-, kA', comp', g1, g2, g3, g4⟩ := hK.2 t0 _ ht
  have hcA : cA = (xo κ).2.2.1 t := Option.some.inj (f1.symm.trans g4)
  generalize hH1 : H.push ({ cls := cA, slots := Array.replicate v.toNatClampNeg .null, vm := .none } : Cell) = H1
  have z1 : H1.size = H.size + 1 := by rw [← hH1, Array.size_push]
  have e1 : H1[H.size]? = some (arrV cA v.toNatClampNeg (fun _ => .null)) := by rw [← hH1, Array.getElem?_push_size, ← arrV_new]
  have o1 : ∀ q : Nat, q < H.size → H1[q]? = H[q]? := fun q hq => by rw [← hH1, Array.getElem?_push, if_neg (Nat.ne_of_lt hq)]
  have e2 : va_at (xo κ).2.1 classes (H.size, .inl ((xo κ).2.2.1 t, v.toNatClampNeg, .inr (.inr (.inr (.inr (fun _ => none)))))) H1 := by
    show H1[H.size]? = some (vp_cell _ _)
    rw [vp_cell_q, ← hcA]
    exact e1
  rw [← List.append_assoc] at k
  have key := tc_push hz0 h1 h2 z1 o1 e2 hls k
  rw [hz]
  exact key
theorem tc_put (C : tC κ own cc nL d m0) (hini0 : (xt κ).name = "<init>") {idx ci k j : Nat} {ty : FieldType} {v : Value} {fs : List Value} {Cn : String} {T : u_T} {n : Nat} (hc : classes[ci]? = some (Cn, T, n)) (hk : k < n) (hl : Cond.fieldLink own idx (T k).1 (T k).2.1 (T k).2.2.1 ∈ lw_w) (hdecl : (T k).1 = own) (hp : parseFieldDescriptor (T k).2.2.1 = some ty) (hn : narrow ty v = v) (hfit : fits ty v = true) (hj : tl[j]? = some (.inr (ci, fs))) (hfl : k < fs.length) (htl : tl.set j (.inr (ci, fs.set k v)) = tl') (hd : decode cc pc = .ok (.putfield idx, 3)) (hq : pc + 3 = q) (kk : tT κ cs ss q L st (M ++ tl')) : tT κ cs ss pc L (v :: xad κ (M.length + j) :: st) (M ++ tl) := by
  subst hq; subst htl
  intro H locs h1 h2 ls hls
  have hts := C.ts
  obtain ⟨hin, ty0, hty, hnm⟩ := sm_cls hc
  cases hf : (T k).2.2.2 with
  | false =>
    refine va_put (D := (xo κ).2.1) (cl := classes) (tys := sm_tys (xo κ)) (ws := cw (xo κ).1 (M ++ tl)) C.ex C.by hts hin ty0 hty hnm C.ow C.kk h1 cw_D h2 (M.length + j) (cw_get (cg hj)) hc k hk (hts _ hl) (fun _ h => h) hf hp hn hfit hfl hd (fun H1 locs1 b1 b2 b3 => ?_)
    rw [cw_set, cs_] at b1
    exact kk H1 locs1 b1 b3 ls hls
  | true =>
    refine va_putF (D := (xo κ).2.1) (cl := classes) (tys := sm_tys (xo κ)) (ws := cw (xo κ).1 (M ++ tl)) C.ex C.by hts hin ty0 hty hnm C.ow C.kk h1 cw_D h2 (M.length + j) (cw_get (cg hj)) hc k hk (hts _ hl) (fun _ h => h) hf hini0 hdecl hp hn hfit hfl hd (fun H1 locs1 b1 b2 b3 => ?_)
    rw [cw_set, cs_] at b1
    exact kk H1 locs1 b1 b3 ls hls
end TC
section TD
variable {κ : sm_X} {own : String} {cc : ByteArray} {nL d m0 : Nat} {cs ss pc q : Nat} {L L' : List (Option Value)} {st st' : List Value} {M tl tl' : List va_E}
theorem tc_get (C : tC κ own cc nL d m0) {idx ci k j : Nat} {v : Value} {fs : List Value} {Cn : String} {T : u_T} {n : Nat} (hc : classes[ci]? = some (Cn, T, n)) (hk : k < n) (hl : Cond.fieldLink own idx (T k).1 (T k).2.1 (T k).2.2.1 ∈ lw_w) (hj : tl[j]? = some (.inr (ci, fs))) (hv : fs[k]? = some v) (hd : decode cc pc = .ok (.getfield idx, 3)) (hq : pc + 3 = q) (kk : tT κ cs ss q L (v :: st) (M ++ tl)) : tT κ cs ss pc L (xad κ (M.length + j) :: st) (M ++ tl) := by
  subst hq
  intro H locs h1 h2 ls hls
  exact va_get (D := (xo κ).2.1) (cl := classes) (tys := sm_tys (xo κ)) (ws := cw (xo κ).1 (M ++ tl)) C.ex C.by C.ts (sm_cls hc).1 C.ow C.kk h1 (M.length + j) (cw_get (cg hj)) hc k hk (C.ts _ hl) (fun _ h => h) hv hd (kk H locs h1 h2 ls hls)
theorem tc_aast (C : tC κ own cc nL d m0) {t t0 j j1 ci n : Nat} {r : vw_C} {vs : List Value} {f f' : Nat → Option Nat} {i : Int32} (hj : tl[j]? = some (.inl ((xo κ).2.2.1 t, n, .inr (.inr (.inr (.inr f)))))) (ht : (sm_tys (xo κ))[t0]? = some ((xo κ).2.2.1 t, .object r.1)) (hj1 : tl[j1]? = some (.inr (ci, vs))) (hc : classes[ci]? = some r) (hi : vp_in i n) (hf : va_up f i.toNatClampNeg (some ((xo κ).1 + (M.length + j1))) = f') (htl : tl.set j (.inl ((xo κ).2.2.1 t, n, .inr (.inr (.inr (.inr f'))))) = tl') (hd : decode cc pc = .ok (.aastore, 1)) (hq : pc + 1 = q) (kk : tT κ cs ss q L st (M ++ tl')) : tT κ cs ss pc L (xad κ (M.length + j1) :: .int i :: xad κ (M.length + j) :: st) (M ++ tl) := by
  subst hq; subst htl; subst hf
  intro H locs h1 h2 ls hls
  refine va_astq (D := (xo κ).2.1) (cl := classes) (tys := sm_tys (xo κ)) (ws := cw (xo κ).1 (M ++ tl)) C.ex C.by C.kk h1 cw_D h2 (M.length + j) t0 (M.length + j1) ci (cw_get (cg hj)) ht (cw_get (cg hj1)) hc hi hd (fun H1 locs1 b1 b2 b3 => ?_)
  rw [cw_set, cs_] at b1
  exact kk H1 locs1 b1 b3 ls hls
theorem tc_aald (C : tC κ own cc nL d m0) {t t0 j n x : Nat} {Cn : String} {f : Nat → Option Nat} {i : Int32} (hj : tl[j]? = some (.inl ((xo κ).2.2.1 t, n, .inr (.inr (.inr (.inr f)))))) (ht : (sm_tys (xo κ))[t0]? = some ((xo κ).2.2.1 t, .object Cn)) (hi : vp_in i n) (hf : f i.toNatClampNeg = some x) (hd : decode cc pc = .ok (.aaload, 1)) (hq : pc + 1 = q) (kk : tT κ cs ss q L (.ref x :: st) (M ++ tl)) : tT κ cs ss pc L (.int i :: xad κ (M.length + j) :: st) (M ++ tl) := by
  subst hq
  intro H locs h1 h2 ls hls
  refine va_aldq (D := (xo κ).2.1) (cl := classes) (tys := sm_tys (xo κ)) (ws := cw (xo κ).1 (M ++ tl)) C.ex C.by C.kk h1 (M.length + j) t0 (cw_get (cg hj)) ht hi hd ?_
  rw [hf]
  exact kk H locs h1 h2 ls hls
theorem tc_iast (C : tC κ own cc nL d m0) {j n : Nat} {f f' : Nat → Int32} {i x : Int32} (hj : tl[j]? = some (.inl ((xo κ).2.2.1 20, n, .inl f))) (hi : vp_in i n) (hf : upd f i.toNatClampNeg x = f') (htl : tl.set j (.inl ((xo κ).2.2.1 20, n, .inl f')) = tl') (hd : decode cc pc = .ok (.iastore, 1)) (hq : pc + 1 = q) (kk : tT κ cs ss q L st (M ++ tl')) : tT κ cs ss pc L (.int x :: .int i :: xad κ (M.length + j) :: st) (M ++ tl) := by
  subst hq; subst htl; subst hf
  intro H locs h1 h2 ls hls
  refine va_iast (D := (xo κ).2.1) (cl := classes) (tys := sm_tys (xo κ)) (ws := cw (xo κ).1 (M ++ tl)) C.ex C.by C.kk h1 cw_D h2 (M.length + j) 0 (cw_get (cg hj)) rfl hi hd (fun H1 locs1 b1 b2 b3 => ?_)
  rw [cw_set, cs_] at b1
  exact kk H1 locs1 b1 b3 ls hls
/-! a constructor's contract: the object is the world's last cell; behind it the world is longer -/
abbrev c_rm (d mc ms : Nat) : Room := { frames := d, cells := mc, slots := ms, locals := 64 * d }
def tWR (ω : sm_O) (N : List va_E) (U : State) : Prop := cH ω N U.heap ∧ va_K ω.2.1 classes (sm_tys ω) U ∧ U.heap.size = ω.1 + N.length ∧ (∀ z ∈ nestT, va_Nw (.methodLinkNest z.1 z.2.1 z.2.2 "BearsTwo") U) ∧ va_AO RX9 U ∧ va_AO RX8 U ∧ va_AO RX7 U
def cPc (ω : sm_O) (N : List va_E) (av : List Value) : Array Value → State → Prop := fun v U => v = av.toArray ∧ tWR ω N U
def cQc (ω : sm_O) (N : List va_E) : Array Value → State → Outcome → State → Prop := fun _ st o t => o = .returned none ∧ cH ω N t.heap ∧ va_F (sm_A ω) st t
def cMt (d mc ms : Nat) (y : MethodName) (cc : ByteArray) (nL : Nat) (ω : sm_O) (M : List va_E) (e0 : va_E) (As : List Value) (tl : List va_E) : Prop :=
  ∀ l : Launch, Met l y (Cond.code y cc nL none :: lw_w) (c_rm d mc ms) (cPc ω (M ++ [e0]) (.ref (ω.1 + (M.length + 0)) :: As)) (cQc ω (M ++ tl)) mc ms (sm_A ω)
theorem c_blind {ω : sm_O} {N : List va_E} {av : List Value} : FrameBlind (cPc ω N av) := by
  intro a U g mk h
  obtain ⟨h0, hP, hK, hz, hN, a1, a2, a3⟩ := h
  exact ⟨h0, hP, va_K.moved (u := U) (U := U.calling g mk a) (Vm.Alike.refl U.vm) hK, hz, fun z hz => va_Nw.same rfl rfl (hN z hz), va_AO.moved (u := U) (U := U.calling g mk a) (Vm.Alike.refl U.vm) a1, va_AO.moved (u := U) (U := U.calling g mk a) (Vm.Alike.refl U.vm) a2, va_AO.moved (u := U) (U := U.calling g mk a) (Vm.Alike.refl U.vm) a3⟩
theorem c_conG {d mc ms : Nat} {y : MethodName} {cc : ByteArray} {nL : Nat} {ω : sm_O} {N N' : List va_E} {av : List Value} (hy : plainName y.cls = true) (hv : (lg_sl av).length ≤ nL)
    (body : ∀ κ : sm_X, xo κ = ω → xr κ = c_rm d mc ms → (xt κ).name = y.name → tC κ y.cls cc nL d N.length → (∀ (cs ss pc : Nat) (L : List (Option Value)), cs = mc → ss = ms → decode cc pc = .ok (.return_, 1) → tT κ cs ss pc L [] N') → tT κ 0 0 0 (sm_ent av nL) [] N) (l : Launch) : Met l y (Cond.code y cc nL none :: lw_w) (c_rm d mc ms) (cPc ω N av) (cQc ω N') mc ms (sm_A ω) := by
  refine Met.ofW (cc := cc) (maxL := nL) (ret := none) hy rfl ?_
  intro p e s m args below meth c s₁ B hml hv0
  obtain ⟨rfl, hP, hK, hz, hN, a1, a2, a3⟩ := hv0
  have hts : ∀ w ∈ lw_w, w.before av.toArray s = true := fun w hw => atoms_spec (ws := Cond.code y cc nL none :: lw_w) B.pre w (List.mem_cons_of_mem _ hw)
  have hown : s.vm.findClass y.cls = some m.cls := findClass_of_methodNamed B.named
  have hname : meth.name = y.name := (name_of_methodNamed B.named B.method).1
  rw [lg_entry_eq]
  let κ : sm_X := (p, l, e, c_rm d mc ms, s, m, av.toArray, below, meth, c, MQ below (cQc ω N') av.toArray s mc ms (sm_A ω), 0, 0, ω)
  have C : tC κ y.cls cc nL d N.length := ⟨hz, B.exec, B.bytes, hml, hown, hts, hK, by show ω.1 ≤ s.heap.size; omega, Nat.le_refl _, Nat.le_refl _, hN, a1, a2, a3⟩
  have hS0 : va_S (sm_A ω) s.heap s.heap [] := va_S.rf
  refine body κ rfl rfl hname C ?_ s.heap [] hP hS0 _ (by rw [show (xc κ).maxLocals = nL from hml]; exact sm_entry hv)
  intro cs ss pc L hc hs hd H locs h1 h2 ls hls
  subst hc; subst hs
  exact W.vret B.exec B.bytes B.returns (fun t ht _ => ⟨rfl, by rw [ht]; exact h1, ⟨by rw [ht]; exact h2.1, fun q q1 q2 => by rw [ht]; exact h2.2.1 q q1 q2⟩⟩) h2.2.2 hd B.notSynchronized
theorem c_con {d mc ms : Nat} {y : MethodName} {cc : ByteArray} {nL : Nat} {ω : sm_O} {M : List va_E} {e0 : va_E} {As : List Value} {tl : List va_E} (hy : plainName y.cls = true) (hnm : y.name = "<init>") (hv : (lg_sl (.ref (ω.1 + (M.length + 0)) :: As)).length ≤ nL)
    (body : ∀ κ : sm_X, xo κ = ω → (xr κ).cells = mc → (xr κ).slots = ms → (xt κ).name = "<init>" → tC κ y.cls cc nL d (M.length + 1) → (∀ (cs ss pc : Nat) (L : List (Option Value)), cs = mc → ss = ms → decode cc pc = .ok (.return_, 1) → tT κ cs ss pc L [] (M ++ tl)) → tT κ 0 0 0 (sm_ent (.ref (ω.1 + (M.length + 0)) :: As) nL) [] (M ++ [e0])) : cMt d mc ms y cc nL ω M e0 As tl := by
  intro l
  refine c_conG hy hv (fun κ k1 k2 k3 k4 k5 => body κ k1 (by rw [k2]) (by rw [k2]) (k3.trans hnm) (by rw [List.length_append] at k4; exact k4) k5) l
end TD
section TE
variable {κ : sm_X} {own : String} {cc : ByteArray} {nL d m0 : Nat} {cs ss pc q : Nat} {L L' : List (Option Value)} {st stk : List Value} {M tl tl0 tlc tl' : List va_E}
variable {y : MethodName} {cc1 : ByteArray} {nL1 d1 mc ms n idx j : Nat} {e0 : va_E} {As : List Value}
theorem c_pre (C : tC κ own cc nL d m0) {H : Heap} {N : List va_E} (hz : H.size = (xo κ).1 + N.length) (h1 : cH (xo κ) N H) {av : List Value} (U : State) (hU : U.heap = H) (hW : (xs κ).WarmedH U.vm) : cPc (xo κ) N av av.toArray U :=
  ⟨rfl, by rw [hU]; exact h1, va_K.moved hW.alike C.kk, by rw [hU]; exact hz, fun z hz => (C.ne z hz).warmM hW, va_AO.moved hW.alike C.ao.1, va_AO.moved hW.alike C.ao.2.1, va_AO.moved hW.alike C.ao.2.2⟩
theorem c_good (hY : Cond.code y cc1 nL1 none ∈ lw_w) : GoodIn lw_w (Cond.code y cc1 nL1 none :: lw_w) := by
  intro w hw
  rcases List.mem_cons.mp hw with rfl | hw
  · exact lw_good (fun w h => h) _ hY
  · exact lw_good (fun w h => h) w hw
/-- a constructor's words: code, class, instance, no method handle, so many parameters -/
def c_Y (y : MethodName) (cc : ByteArray) (nL n : Nat) : Prop := Cond.code y cc nL none ∈ lw_w ∧ Cond.initialized y.cls ∈ lw_w ∧ Cond.instanceMethod y ∈ lw_w ∧ y.name = "<init>" ∧ y.cls ≠ "java/lang/invoke/MethodHandle" ∧ y.cls ≠ "java/lang/invoke/VarHandle" ∧ (parseMethodDescriptor y.desc).map (fun d => d.parameters.length) = some n
theorem tc_init (C : tC κ own cc nL d m0) (hY : c_Y y cc1 nL1 n) (hl : Cond.methodLink own idx y ∈ lw_w) (hM : cMt d1 mc ms y cc1 nL1 (xo κ) (M ++ tl0) e0 As tlc) (htl : tl = tl0 ++ [e0]) (hj : tl0.length = j) (htl' : tl0 ++ tlc = tl') (hn : As.length = n) (hM0 : M.length + j + 1 = m0 + cs) (hdd : d1 + 1 ≤ d) (hnl : nL1 ≤ 45) (hs8 : (st.map fun v => v.category).sum ≤ 8) (hstk : stk = As.reverse ++ xad κ (M.length + j) :: st) (hcs : cs + mc ≤ (xr κ).cells) (hss : ss + ms ≤ (xr κ).slots) (hd : decode cc pc = .ok (.invokespecial idx, 3)) (hq : pc + 3 = q)
    (kk : tT κ (cs + mc) (ss + ms) q L st (M ++ tl')) : tT κ cs ss pc L stk (M ++ tl) := by
  subst hq; subst hstk; subst hj; subst htl'; subst htl
  intro H locs h1 h2 ls hls T0 hT0 X0
  have hz0 := tc_size C.sz (by rw [List.length_append, List.length_append]; exact hM0) h1 h2 hT0 X0
  have hb : M.length + tl0.length = (M ++ tl0).length + 0 := by rw [List.length_append]; rfl
  have hts := C.ts
  have r1 := C.fr
  have r2 := C.lo
  rw [← List.append_assoc] at h1 hz0
  rw [hb]
  have cb : CallB (xr κ) (xs κ) (xa κ) own idx y cc1 nL1 none (Cond.code y cc1 nL1 none :: lw_w) (c_rm d1 mc ms) mc ms n := callB_of n hts (c_good hY.1) rfl rfl rfl (hts _ hY.2.1) (hts _ hl) ⟨hY.2.2.2.2.1, hY.2.2.2.2.2.1, hY.2.2.2.2.2.2⟩ ⟨by show d1 + 1 ≤ _; omega, by show 8 + (nL1 + 11) + 64 * d1 ≤ _; omega⟩
  obtain ⟨v, st₀, t, T', L1, h0, X', hL, e1, ⟨hv, hP', hF⟩, go⟩ := W.runI (p := xp κ) (l := xl κ) (e := xe κ) (R := xr κ) (s := xs κ) (m := xm κ) (args := xa κ) (below := xb κ) (meth := xt κ) (c := xc κ) (H := H) (locs := locs) (cells := cs) (slots := ss) (g := F0 (xm κ) pc ls (As.reverse ++ xad κ ((M ++ tl0).length + 0) :: st)) (bytes := cc1) (maxL := nL1) (n := n) (As := As) (rest := st) (b := (xo κ).1 + ((M ++ tl0).length + 0)) ⟨C.ex, C.by, C.ml, C.ow, hts⟩ (hM (xl κ)) ⟨cb, hY.2.2.2.1, hts _ hY.2.2.1⟩ ⟨c_blind, fun U hU hW => c_pre C hz0 h1 U hU hW⟩ rfl hn (hls.1.trans C.ml) rfl (lv_room hs8) hd ⟨hcs, hss⟩ T0 hT0 X0
  cases hv
  rw [List.append_assoc] at hP'
  have hS' : va_S (sm_A (xo κ)) (xs κ).heap T'.heap (locs ++ L1) := by
    rw [e1]
    refine ⟨Nat.le_trans h2.1 (by rw [← h0]; exact hF.1), fun q a1 a2 => ?_, fun q hq => ?_⟩
    · rw [hF.2 q (by rw [h0]; exact Nat.lt_of_lt_of_le a1 h2.1) a2, h0]
      exact h2.2.1 q a1 a2
    · rcases List.mem_append.mp hq with h | h
      · exact h2.2.2 q h
      · exact hL q h
  obtain ⟨t2, a1, b1⟩ := kk T'.heap (locs ++ L1) (by rw [e1]; exact hP') hS' ls hls T' rfl X'
  exact ⟨t2, go t2 a1, b1⟩
theorem tc_initN (C : tC κ own cc nL d m0) (hY : c_Y y cc1 nL1 n) (hl : (own, idx, y) ∈ nestT) (hM : cMt d1 mc ms y cc1 nL1 (xo κ) (M ++ tl0) e0 As tlc) (htl : tl = tl0 ++ [e0]) (hj : tl0.length = j) (htl' : tl0 ++ tlc = tl') (hn : As.length = n) (hM0 : M.length + j + 1 = m0 + cs) (hdd : d1 + 1 ≤ d) (hnl : nL1 ≤ 45) (hs8 : (st.map fun v => v.category).sum ≤ 8) (hstk : stk = As.reverse ++ xad κ (M.length + j) :: st) (hcs : cs + mc ≤ (xr κ).cells) (hss : ss + ms ≤ (xr κ).slots) (hd : decode cc pc = .ok (.invokespecial idx, 3)) (hq : pc + 3 = q)
    (kk : tT κ (cs + mc) (ss + ms) q L st (M ++ tl')) : tT κ cs ss pc L stk (M ++ tl) := by
  subst hq; subst hstk; subst hj; subst htl'; subst htl
  intro H locs h1 h2 ls hls T0 hT0 X0
  have hz0 := tc_size C.sz (by rw [List.length_append, List.length_append]; exact hM0) h1 h2 hT0 X0
  have hb : M.length + tl0.length = (M ++ tl0).length + 0 := by rw [List.length_append]; rfl
  have hts := C.ts
  have r1 := C.fr
  have r2 := C.lo
  rw [← List.append_assoc] at h1 hz0
  rw [hb]
  have cb : va_CN (xr κ) (xs κ) (xa κ) own idx y "BearsTwo" cc1 nL1 none (Cond.code y cc1 nL1 none :: lw_w) (c_rm d1 mc ms) mc ms n := va_cnB n hts (c_good hY.1) rfl rfl rfl (C.ne _ hl) (hts _ hY.2.1) ⟨hY.2.2.2.2.1, hY.2.2.2.2.2.1, hY.2.2.2.2.2.2⟩ ⟨by show d1 + 1 ≤ _; omega, by show 8 + (nL1 + 11) + 64 * d1 ≤ _; omega⟩
  obtain ⟨v, st₀, t, T', L1, h0, X', hL, e1, -, ⟨hv, hP', hF⟩, go⟩ := va_runIN (p := xp κ) (l := xl κ) (e := xe κ) (R := xr κ) (s := xs κ) (m := xm κ) (args := xa κ) (below := xb κ) (meth := xt κ) (c := xc κ) (H := H) (locs := locs) (cells := cs) (slots := ss) (g := F0 (xm κ) pc ls (As.reverse ++ xad κ ((M ++ tl0).length + 0) :: st)) (bytes := cc1) (maxL := nL1) (n := n) (As := As) (rest := st) (b := (xo κ).1 + ((M ++ tl0).length + 0)) ⟨C.ex, C.by, C.ml, C.ow, hts⟩ (hM (xl κ)) ⟨cb, hY.2.2.2.1, hts _ hY.2.2.1⟩ ⟨c_blind, fun U hU hW => c_pre C hz0 h1 U hU hW⟩ rfl hn (hls.1.trans C.ml) rfl (lv_room hs8) hd ⟨hcs, hss⟩ T0 hT0 X0
  cases hv
  rw [List.append_assoc] at hP'
  have hS' : va_S (sm_A (xo κ)) (xs κ).heap T'.heap (locs ++ L1) := by
    rw [e1]
    refine ⟨Nat.le_trans h2.1 (by rw [← h0]; exact hF.1), fun q a1 a2 => ?_, fun q hq => ?_⟩
    · rw [hF.2 q (by rw [h0]; exact Nat.lt_of_lt_of_le a1 h2.1) a2, h0]
      exact h2.2.1 q a1 a2
    · rcases List.mem_append.mp hq with h | h
      · exact h2.2.2 q h
      · exact hL q h
  obtain ⟨t2, a1, b1⟩ := kk T'.heap (locs ++ L1) (by rw [e1]; exact hP') hS' ls hls T' rfl X'
  exact ⟨t2, go t2 a1, b1⟩
end TE
section TF
variable {κ : sm_X} {own : String} {cc : ByteArray} {nL d m0 : Nat} {cs ss pc q : Nat} {L L' : List (Option Value)} {st stk : List Value} {M tl tl' : List va_E}
theorem tc_alen (C : tC κ own cc nL d m0) {j n : Nat} {f : Nat → Int32} (hj : tl[j]? = some (.inl ((xo κ).2.2.1 20, n, .inl f))) (hd : decode cc pc = .ok (.arraylength, 1)) (hq : pc + 1 = q) (kk : tT κ cs ss q L (.int (nI n) :: st) (M ++ tl)) : tT κ cs ss pc L (xad κ (M.length + j) :: st) (M ++ tl) := by
  subst hq
  intro H locs h1 h2 ls hls
  exact va_alen (D := (xo κ).2.1) (cl := classes) (tys := sm_tys (xo κ)) (ws := cw (xo κ).1 (M ++ tl)) (x := (n, .inl f)) (v := nI n) C.ex C.by C.kk h1 (M.length + j) 0 (cw_get (cg hj)) rfl rfl hd (kk H locs h1 h2 ls hls)
/-- a static method of the growing world that makes nothing (Arrays.fill) -/
theorem tc_stat (C : tC κ own cc nL d m0) {y : MethodName} {cc1 : ByteArray} {nL1 d1 n idx : Nat} {As : List Value} (hY : sm_YS y cc1 nL1 none n) (hl : Cond.methodLink own idx y ∈ lw_w) {j0 : Nat} (hM : ∀ l : Launch, Met l y (Cond.code y cc1 nL1 none :: lw_w) (c_rm d1 0 0) (cPc (xo κ) (M ++ tl) As) (cQc (xo κ) (M ++ tl')) 0 0 (sm_A (xo κ))) (hj : tl.length = j0) (hM0 : M.length + j0 = m0 + cs) (hn : As.length = n) (hdd : d1 + 1 ≤ d) (hnl : nL1 ≤ 45) (hs8 : (st.map fun v => v.category).sum ≤ 8) (hstk : stk = As.reverse ++ st) (hcs : cs ≤ (xr κ).cells) (hss : ss ≤ (xr κ).slots) (hd : decode cc pc = .ok (.invokestatic idx, 3)) (hq : pc + 3 = q)
    (kk : tT κ cs ss q L st (M ++ tl')) : tT κ cs ss pc L stk (M ++ tl) := by
  subst hq; subst hstk; subst hj
  intro H locs h1 h2 ls hls T0 hT0 X0
  have hz0 := tc_size C.sz (by rw [List.length_append]; exact hM0) h1 h2 hT0 X0
  have hts := C.ts
  have r1 := C.fr
  have r2 := C.lo
  have cb : CallB (xr κ) (xs κ) (xa κ) own idx y cc1 nL1 none (Cond.code y cc1 nL1 none :: lw_w) (c_rm d1 0 0) 0 0 n := callB_of n hts (c_good hY.1.1) rfl rfl rfl (hts _ hY.1.2.1) (hts _ hl) ⟨hY.1.2.2.1, hY.1.2.2.2.1, hY.1.2.2.2.2⟩ ⟨by show d1 + 1 ≤ _; omega, by show 8 + (nL1 + 11) + 64 * d1 ≤ _; omega⟩
  obtain ⟨v, st₀, t, T', L1, h0, X', hL, e1, ⟨hv, hP', hF⟩, go⟩ := W.runS (p := xp κ) (l := xl κ) (e := xe κ) (R := xr κ) (s := xs κ) (m := xm κ) (args := xa κ) (below := xb κ) (meth := xt κ) (c := xc κ) (H := H) (locs := locs) (cells := cs) (slots := ss) (g := F0 (xm κ) pc ls (As.reverse ++ st)) (bytes := cc1) (maxL := nL1) (n := n) (As := As) (rest := st) ⟨C.ex, C.by, C.ml, C.ow, hts⟩ (hM (xl κ)) ⟨cb, hts _ hY.2⟩ ⟨c_blind, fun U hU hW => c_pre C hz0 h1 U hU hW⟩ rfl hn (hls.1.trans C.ml) rfl (lv_room hs8) hd ⟨hcs, hss⟩ T0 hT0 X0
  cases hv
  have hS' : va_S (sm_A (xo κ)) (xs κ).heap T'.heap (locs ++ L1) := by
    rw [e1]
    refine ⟨Nat.le_trans h2.1 (by rw [← h0]; exact hF.1), fun q a1 a2 => ?_, fun q hq => ?_⟩
    · rw [hF.2 q (by rw [h0]; exact Nat.lt_of_lt_of_le a1 h2.1) a2, h0]
      exact h2.2.1 q a1 a2
    · rcases List.mem_append.mp hq with h | h
      · exact h2.2.2 q h
      · exact hL q h
  obtain ⟨t2, a1, b1⟩ := kk T'.heap (locs ++ L1) (by rw [e1]; exact hP') hS' ls hls T' rfl X'
  exact ⟨t2, go t2 a1, b1⟩
end TF
section TG
variable {κ : sm_X} {own : String} {cc : ByteArray} {nL d m0 : Nat} {cs ss pc q : Nat} {L L' : List (Option Value)} {st stk : List Value} {M tl tl' : List va_E}
theorem tc_newI (C : tC κ own cc nL d m0) {j n : Nat} {v : Int32} (hw : Cond.arrayClass .int ∈ lw_w) (hn : ¬ v < 0) (hN : v.toNatClampNeg = n) (hb : n ≤ 60000) (hM : M.length + j = m0 + cs) (hcs : cs + 1 ≤ (xr κ).cells) (hss : ss + n ≤ (xr κ).slots) (hd : decode cc pc = .ok (.newarray .int, 2)) (hq : pc + 2 = q) (hj : tl.length = j) (htl : tl ++ [.inl ((xo κ).2.2.1 20, n, .inl (fun _ => 0))] = tl')
    (k : tT κ (cs + 1) (ss + n) q L (xad κ (M.length + j) :: st) (M ++ tl')) : tT κ cs ss pc L (.int v :: st) (M ++ tl) :=
  tc_newa (atype := .int) (t := 20) (t0 := 0) (ty := .int) (a0 := (n, .inl (fun _ => 0))) C hw rfl rfl (fun h => h) (fun cA => by rw [vp_cell_i]; rfl) hn hN (by simp only [componentBytes]; omega) hM hcs hss hd hq hj htl k
theorem tc_newB (C : tC κ own cc nL d m0) {j n : Nat} {v : Int32} (hw : Cond.arrayClass .byte ∈ lw_w) (hn : ¬ v < 0) (hN : v.toNatClampNeg = n) (hb : n ≤ 60000) (hM : M.length + j = m0 + cs) (hcs : cs + 1 ≤ (xr κ).cells) (hss : ss + n ≤ (xr κ).slots) (hd : decode cc pc = .ok (.newarray .byte, 2)) (hq : pc + 2 = q) (hj : tl.length = j) (htl : tl ++ [.inl ((xo κ).2.2.1 21, n, .inl (fun _ => 0))] = tl')
    (k : tT κ (cs + 1) (ss + n) q L (xad κ (M.length + j) :: st) (M ++ tl')) : tT κ cs ss pc L (.int v :: st) (M ++ tl) :=
  tc_newa (atype := .byte) (t := 21) (t0 := 1) (ty := .byte) (a0 := (n, .inl (fun _ => 0))) C hw rfl rfl (fun h => h) (fun cA => by rw [vp_cell_i]; rfl) hn hN (by simp only [componentBytes]; omega) hM hcs hss hd hq hj htl k
theorem tc_newZ (C : tC κ own cc nL d m0) {j n : Nat} {v : Int32} (hw : Cond.arrayClass .boolean ∈ lw_w) (hn : ¬ v < 0) (hN : v.toNatClampNeg = n) (hb : n ≤ 60000) (hM : M.length + j = m0 + cs) (hcs : cs + 1 ≤ (xr κ).cells) (hss : ss + n ≤ (xr κ).slots) (hd : decode cc pc = .ok (.newarray .boolean, 2)) (hq : pc + 2 = q) (hj : tl.length = j) (htl : tl ++ [.inl ((xo κ).2.2.1 22, n, .inl (fun _ => 0))] = tl')
    (k : tT κ (cs + 1) (ss + n) q L (xad κ (M.length + j) :: st) (M ++ tl')) : tT κ cs ss pc L (.int v :: st) (M ++ tl) :=
  tc_newa (atype := .boolean) (t := 22) (t0 := 2) (ty := .boolean) (a0 := (n, .inl (fun _ => 0))) C hw rfl rfl (fun h => h) (fun cA => by rw [vp_cell_i]; rfl) hn hN (by simp only [componentBytes]; omega) hM hcs hss hd hq hj htl k
theorem tc_newJ (C : tC κ own cc nL d m0) {j n : Nat} {v : Int32} (hw : Cond.arrayClass .long ∈ lw_w) (hn : ¬ v < 0) (hN : v.toNatClampNeg = n) (hb : n ≤ 60000) (hM : M.length + j = m0 + cs) (hcs : cs + 1 ≤ (xr κ).cells) (hss : ss + n ≤ (xr κ).slots) (hd : decode cc pc = .ok (.newarray .long, 2)) (hq : pc + 2 = q) (hj : tl.length = j) (htl : tl ++ [.inl ((xo κ).2.2.1 23, n, .inr (.inl (fun _ => 0)))] = tl')
    (k : tT κ (cs + 1) (ss + n) q L (xad κ (M.length + j) :: st) (M ++ tl')) : tT κ cs ss pc L (.int v :: st) (M ++ tl) :=
  tc_newa (atype := .long) (t := 23) (t0 := 3) (ty := .long) (a0 := (n, .inr (.inl (fun _ => 0)))) C hw rfl rfl (fun h => h) (fun cA => by rw [vp_cell_l]; rfl) hn hN (by simp only [componentBytes]; omega) hM hcs hss hd hq hj htl k
end TG
