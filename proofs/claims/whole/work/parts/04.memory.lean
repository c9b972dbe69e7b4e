/-! ===== fields and arrays ===== -/
theorem sm_cls {ci : Nat} {Cn : String} {T : u_T} {N : Nat} (h : classes[ci]? = some (Cn, T, N)) : (∀ w ∈ u_ws Cn T N, w ∈ lw_w) ∧ ∃ ty0 : Nat → FieldType, (∀ k, k < N → parseFieldDescriptor (T k).2.2.1 = some (ty0 k)) ∧ ∀ a, a < N → ∀ b, b < N → a ≠ b → (T a).2.1 ≠ (T b).2.1 := by
  match ci, h with
  | 0, h => cases h; exact ⟨inX0, tyX0, tyX0_ok, nmX0⟩
  | 1, h => cases h; exact ⟨inX1, tyX1, tyX1_ok, nmX1⟩
  | 2, h => cases h; exact ⟨inX2, tyX2, tyX2_ok, nmX2⟩
  | 3, h => cases h; exact ⟨inX3, tyX3, tyX3_ok, nmX3⟩
  | 4, h => cases h; exact ⟨inX4, tyX4, tyX4_ok, nmX4⟩
  | 5, h => cases h; exact ⟨inX5, tyX5, tyX5_ok, nmX5⟩
  | 6, h => cases h; exact ⟨inX6, tyX6, tyX6_ok, nmX6⟩
  | 7, h => cases h; exact ⟨inX7, tyX7, tyX7_ok, nmX7⟩
  | 8, h => cases h; exact ⟨inX8, tyX8, tyX8_ok, nmX8⟩
  | 9, h => cases h; exact ⟨inX9, tyX9, tyX9_ok, nmX9⟩
  | 10, h => cases h; exact ⟨inX10, tyX10, tyX10_ok, nmX10⟩
  | 11, h => cases h; exact ⟨inX11, tyX11, tyX11_ok, nmX11⟩
  | 12, h => cases h; exact ⟨inX12, tyX12, tyX12_ok, nmX12⟩
  | k + 13, h => simp [classes] at h
def sm_F (own : String) (idx ci k cd : Nat) : Prop := ci < 20 ∧ ∃ (Cn : String) (T : u_T) (N : Nat), classes[ci]? = some (Cn, T, N) ∧ k < N ∧ fc ci k = cd ∧ Cond.fieldLink own idx (T k).1 (T k).2.1 (T k).2.2.1 ∈ lw_w
def sm_FP (own : String) (idx ci k cd : Nat) (ty : FieldType) : Prop := ci < 20 ∧ ∃ (Cn : String) (T : u_T) (N : Nat), classes[ci]? = some (Cn, T, N) ∧ k < N ∧ fc ci k = cd ∧ Cond.fieldLink own idx (T k).1 (T k).2.1 (T k).2.2.1 ∈ lw_w ∧ (T k).2.2.2 = false ∧ parseFieldDescriptor (T k).2.2.1 = some ty
theorem fc_lt {ci k cd : Nat} (h : fc ci k = cd) (h9 : cd ≠ 9) : k < (fcL.getD ci []).length := by
  rcases Nat.lt_or_ge k (fcL.getD ci []).length with q | q
  · exact q
  · refine absurd ?_ h9
    rw [← h]
    unfold fc
    rw [List.getD_eq_getElem?_getD, List.getElem?_eq_none q]
    rfl
theorem sm_fs_get {ω : sm_O} {μ : sm_Mem} {a ci k cd : Nat} (h : fc ci k = cd) (h9 : cd ≠ 9) : ((List.range (fcL.getD ci []).length).map (sm_fv ω μ a))[k]? = some (sm_fv ω μ a k) := by
  rw [List.getElem?_map, List.getElem?_range (fc_lt h h9)]
  rfl
theorem sm_fs_set {ω : sm_O} {μ μ' : sm_Mem} {a n k : Nat} {v : Value} (hv : sm_fv ω μ' a k = v) (h : ∀ j, j ≠ k → sm_fv ω μ' a j = sm_fv ω μ a j) : ((List.range n).map (sm_fv ω μ a)).set k v = (List.range n).map (sm_fv ω μ' a) := by
  subst hv
  apply List.ext_getElem?
  intro i
  by_cases hi : i < n
  · by_cases hik : i = k
    · subst hik
      rw [List.getElem?_set_self (by simpa using hi), List.getElem?_map, List.getElem?_range hi]
      rfl
    · rw [List.getElem?_set_ne (fun q => hik q.symm), List.getElem?_map, List.getElem?_map, List.getElem?_range hi]
      show some _ = some _
      rw [h i hik]
  · rw [List.getElem?_eq_none (by simp; omega), List.getElem?_eq_none (by simp; omega)]
section SM
variable {κ : sm_X} {own : String} {cc : ByteArray} {nL d : Nat} {α β : Type} {ex : α → sm_G} {f g : sm_M α} {pc q : Nat} {L L' : List (Option Value)} {st st' : List Value}
theorem sm_get (C : sm_C κ own cc nL d) {idx ci k cd a : Nat} (hf : sm_F own idx ci k cd) (h9 : cd ≠ 9) (ha : kd a = ci) (hd : decode cc pc = .ok (.getfield idx, 3)) {μ : sm_Mem} {H : Heap} {locs : List Loc} {ls : Array Slot} (hP : sm_HR (xo κ) μ H) (w : sm_W κ H locs (F0 (xm κ) (pc + 3) ls (sm_fv (xo κ) μ a k :: st))) : sm_W κ H locs (F0 (xm κ) pc ls (xad κ a :: st)) := by
  obtain ⟨h20, Cn, T, N, h1, h2, h3, h4⟩ := hf
  have hlt : a < NC := sm_kd ha (by omega)
  have he : (sm_ws (xo κ) μ)[a]? = some ((xo κ).1 + a, .inr (ci, (List.range (fcL.getD ci []).length).map (sm_fv (xo κ) μ a))) := by
    rw [sm_ws_get hlt, sm_cell_o (by omega), ha]
  exact va_get (D := (xo κ).2.1) (cl := classes) (tys := sm_tys (xo κ)) (ws := sm_ws (xo κ) μ) C.1 C.2.1 C.2.2.2.2.1 (sm_cls h1).1 C.2.2.2.1 C.2.2.2.2.2.1 hP a he h1 k h2 (C.2.2.2.2.1 _ h4) (fun _ h => h) (sm_fs_get h3 h9) hd w
theorem sr_geti (C : sm_C κ own cc nL d) {idx ci k cd a : Nat} (hf : sm_F own idx ci k cd) (hcd : cd = 0 ∨ cd = 4) (ha : kd a = ci) (hd : decode cc pc = .ok (.getfield idx, 3)) (hq : pc + 3 = q) {k1 : Int32 → sm_M α} (h : ∀ x, sm_S κ ex (.inl (q, L, .int x :: st)) (k1 x)) : sm_S κ ex (.inl (pc, L, xad κ a :: st)) (m_gi a k k1) := by
  subst hq
  intro μ H locs b μ' a1 a2 a3 a4 ls hls
  refine sm_get C hf (by omega) ha hd a1 ?_
  have e : sm_fv (xo κ) μ a k = .int (μ.1 a k) := by
    obtain ⟨-, Cn, T, N, -, -, h3, -⟩ := hf
    unfold sm_fv
    rw [ha, h3, if_neg (by omega), if_neg (by omega), if_neg (by omega)]
  rw [e]
  exact h (μ.1 a k) μ H locs b μ' a1 a2 a3 a4 ls hls
theorem sr_getl (C : sm_C κ own cc nL d) {idx ci k a : Nat} (hf : sm_F own idx ci k 1) (ha : kd a = ci) (hd : decode cc pc = .ok (.getfield idx, 3)) (hq : pc + 3 = q) {k1 : Int64 → sm_M α} (h : ∀ x, sm_S κ ex (.inl (q, L, .long x :: st)) (k1 x)) : sm_S κ ex (.inl (pc, L, xad κ a :: st)) (m_gl a k k1) := by
  subst hq
  intro μ H locs b μ' a1 a2 a3 a4 ls hls
  refine sm_get C hf (by omega) ha hd a1 ?_
  have e : sm_fv (xo κ) μ a k = .long (μ.2.1 a k) := by
    obtain ⟨-, Cn, T, N, -, -, h3, -⟩ := hf
    unfold sm_fv
    rw [ha, h3, if_pos rfl]
  rw [e]
  exact h (μ.2.1 a k) μ H locs b μ' a1 a2 a3 a4 ls hls
theorem sr_getr (C : sm_C κ own cc nL d) {idx ci k a : Nat} (hf : sm_F own idx ci k 2) (ha : kd a = ci) (hd : decode cc pc = .ok (.getfield idx, 3)) (hq : pc + 3 = q) (h : sm_S κ ex (.inl (q, L, xad κ (lk a k) :: st)) f) : sm_S κ ex (.inl (pc, L, xad κ a :: st)) f := by
  subst hq
  intro μ H locs b μ' a1 a2 a3 a4 ls hls
  refine sm_get C hf (by omega) ha hd a1 ?_
  have e : sm_fv (xo κ) μ a k = xad κ (lk a k) := by
    obtain ⟨-, Cn, T, N, -, -, h3, -⟩ := hf
    unfold sm_fv
    rw [ha, h3, if_neg (by omega), if_pos rfl]
  rw [e]
  exact h μ H locs b μ' a1 a2 a3 a4 ls hls
theorem sr_getrN (C : sm_C κ "BearsTwo$Crossing" cc nL d) {a : Nat} (ha : kd a = 10) (hd : decode cc pc = .ok (.getfield 83, 3)) (hq : pc + 3 = q) (h : sm_S κ ex (.inl (q, L, xad κ (lk a 2) :: st)) f) : sm_S κ ex (.inl (pc, L, xad κ a :: st)) f := by
  subst hq
  intro μ H locs b μ' a1 a2 a3 a4 ls hls
  have hlt : a < NC := sm_kd ha (by omega)
  have h3 : fc 10 2 = 2 := by decide +kernel
  have he : (sm_ws (xo κ) μ)[a]? = some ((xo κ).1 + a, .inr (10, (List.range (fcL.getD 10 []).length).map (sm_fv (xo κ) μ a))) := by
    rw [sm_ws_get hlt, sm_cell_o (by omega), ha]
  have e : sm_fv (xo κ) μ a 2 = xad κ (lk a 2) := by
    unfold sm_fv
    rw [ha, h3, if_neg (by omega), if_pos rfl]
  refine va_getN (D := (xo κ).2.1) (cl := classes) (tys := sm_tys (xo κ)) (ws := sm_ws (xo κ) μ) (C := RX10) (T := TX10) (N := 6) (ref := "BearsTwo$Ways") C.1 C.2.1 C.2.2.2.2.1 inX10 C.2.2.2.1 C.2.2.2.2.2.1 a1 a he rfl 2 (by decide) (va_Nw.use rfl C.2.2.2.2.2.2.1.2.2.2.1) (fun _ h => h) (sm_fs_get h3 (by decide)) hd ?_
  rw [e]
  exact h μ H locs b μ' a1 a2 a3 a4 ls hls
theorem sr_gett (C : sm_C κ own cc nL d) {idx ci k a : Nat} (hf : sm_F own idx ci k 3) (ha : kd a = ci) (hd : decode cc pc = .ok (.getfield idx, 3)) (hq : pc + 3 = q) {k1 : Nat → sm_M α} (h : ∀ t, kd t = 21 → sm_S κ ex (.inl (q, L, xad κ t :: st)) (k1 t)) : sm_S κ ex (.inl (pc, L, xad κ a :: st)) (m_gt k1) := by
  subst hq
  intro μ H locs b μ' a1 a2 a3 a4 ls hls
  refine sm_get C hf (by omega) ha hd a1 ?_
  have e : sm_fv (xo κ) μ a k = xad κ μ.2.2 := by
    obtain ⟨-, Cn, T, N, -, -, h3, -⟩ := hf
    unfold sm_fv
    rw [ha, h3, if_neg (by omega), if_neg (by omega), if_pos rfl]
  rw [e]
  unfold m_gt at a3
  by_cases hk : kd μ.2.2 = 21
  · rw [if_pos hk] at a3
    exact h μ.2.2 hk μ H locs b μ' a1 a2 a3 a4 ls hls
  · rw [if_neg hk] at a3
    cases a3
theorem sm_put (C : sm_C κ own cc nL d) {idx ci k cd a : Nat} {ty : FieldType} {v : Value} (hf : sm_FP own idx ci k cd ty) (h9 : cd ≠ 9) (hn : narrow ty v = v) (hfit : fits ty v = true) (ha : kd a = ci) (hd : decode cc pc = .ok (.putfield idx, 3)) {μ μ' : sm_Mem} {H : Heap} {locs : List Loc} {ls : Array Slot} (hP : sm_HR (xo κ) μ H) (hS : va_S (sm_A (xo κ)) (xs κ).heap H locs) (hv : sm_fv (xo κ) μ' a k = v) (hj : ∀ j, j ≠ k → sm_fv (xo κ) μ' a j = sm_fv (xo κ) μ a j) (ho : ∀ b, b ≠ a → sm_cell (xo κ) μ' b = sm_cell (xo κ) μ b)
    (w : ∀ (H' : Heap) (locs' : List Loc), sm_HR (xo κ) μ' H' → va_S (sm_A (xo κ)) (xs κ).heap H' locs' → sm_W κ H' locs' (F0 (xm κ) (pc + 3) ls st)) : sm_W κ H locs (F0 (xm κ) pc ls (v :: xad κ a :: st)) := by
  obtain ⟨h20, Cn, T, N, h1, h2, h3, h4, h5, h6⟩ := hf
  have hlt : a < NC := sm_kd ha (by omega)
  have he : (sm_ws (xo κ) μ)[a]? = some ((xo κ).1 + a, .inr (ci, (List.range (fcL.getD ci []).length).map (sm_fv (xo κ) μ a))) := by
    rw [sm_ws_get hlt, sm_cell_o (by omega), ha]
  obtain ⟨hin, ty0, hty, hnm⟩ := sm_cls h1
  have hset : (sm_ws (xo κ) μ).set a ((xo κ).1 + a, .inr (ci, ((List.range (fcL.getD ci []).length).map (sm_fv (xo κ) μ a)).set k v)) = sm_ws (xo κ) μ' := by
    refine sm_ws_set ?_ ho
    rw [sm_fs_set hv hj, sm_cell_o (by omega), ha]
  refine va_put (D := (xo κ).2.1) (cl := classes) (tys := sm_tys (xo κ)) (ws := sm_ws (xo κ) μ) C.1 C.2.1 C.2.2.2.2.1 hin ty0 hty hnm C.2.2.2.1 C.2.2.2.2.2.1 hP sm_ws_D hS a he h1 k h2 (C.2.2.2.2.1 _ h4) (fun _ h => h) h5 h6 hn hfit (by simp; exact fc_lt h3 h9) hd (fun H1 locs1 b1 b2 b3 => ?_)
  rw [hset] at b1
  exact w H1 locs1 b1 b3
theorem sm_fv_i {ω : sm_O} {μ : sm_Mem} {a k j : Nat} {x : Int32} (h : j ≠ k) : sm_fv ω (u2 μ.1 a k x, μ.2) a j = sm_fv ω μ a j := by
  unfold sm_fv
  simp [u2, h]
theorem sm_fv_is {ω : sm_O} {μ : sm_Mem} {a k cd : Nat} {x : Int32} (h : fc (kd a) k = cd) (hc : cd = 0 ∨ cd = 4) : sm_fv ω (u2 μ.1 a k x, μ.2) a k = .int x := by
  unfold sm_fv
  rw [h, if_neg (by omega), if_neg (by omega), if_neg (by omega)]
  simp [u2]
theorem sr_putx (C : sm_C κ own cc nL d) {idx ci k cd a : Nat} {ty : FieldType} {x : Int32} (hf : sm_FP own idx ci k cd ty) (hcd : cd = 0 ∨ cd = 4) (hn : narrow ty (.int x) = .int x) (hfit : fits ty (.int x) = true) (ha : kd a = ci) (hd : decode cc pc = .ok (.putfield idx, 3)) (hq : pc + 3 = q) (h : sm_S κ ex (.inl (q, L, st)) f) : sm_S κ ex (.inl (pc, L, .int x :: xad κ a :: st)) (m_si a k x f) := by
  subst hq
  intro μ H locs b μ' a1 a2 a3 a4 ls hls
  have h3 : fc (kd a) k = cd := by obtain ⟨-, Cn, T, N, -, -, h3, -⟩ := hf; rw [ha]; exact h3
  exact sm_put (μ' := (u2 μ.1 a k x, μ.2)) C hf (by omega) hn hfit ha hd a1 a2 (sm_fv_is h3 hcd) (fun j hj => sm_fv_i hj) (fun b hb => sm_cell_i (u2_ne hb)) (fun H' locs' b1 b2 => h (u2 μ.1 a k x, μ.2) H' locs' b μ' b1 b2 a3 a4 ls hls)
theorem sr_puti (C : sm_C κ own cc nL d) {idx ci k a : Nat} {x : Int32} (hf : sm_FP own idx ci k 0 .int) (ha : kd a = ci) (hd : decode cc pc = .ok (.putfield idx, 3)) (hq : pc + 3 = q) (h : sm_S κ ex (.inl (q, L, st)) f) : sm_S κ ex (.inl (pc, L, .int x :: xad κ a :: st)) (m_si a k x f) :=
  sr_putx C hf (Or.inl rfl) rfl rfl ha hd hq h
theorem sr_putl (C : sm_C κ own cc nL d) {idx ci k a : Nat} {x : Int64} (hf : sm_FP own idx ci k 1 .long) (ha : kd a = ci) (hd : decode cc pc = .ok (.putfield idx, 3)) (hq : pc + 3 = q) (h : sm_S κ ex (.inl (q, L, st)) f) : sm_S κ ex (.inl (pc, L, .long x :: xad κ a :: st)) (m_sl a k x f) := by
  subst hq
  intro μ H locs b μ' a1 a2 a3 a4 ls hls
  have h3 : fc (kd a) k = 1 := by obtain ⟨-, Cn, T, N, -, -, h3, -⟩ := hf; rw [ha]; exact h3
  refine sm_put (μ' := (μ.1, u2 μ.2.1 a k x, μ.2.2)) C hf (by omega) rfl rfl ha hd a1 a2 ?_ (fun j hj => ?_) (fun b hb => sm_cell_l (u2_ne hb)) (fun H' locs' b1 b2 => h (μ.1, u2 μ.2.1 a k x, μ.2.2) H' locs' b μ' b1 b2 a3 a4 ls hls)
  · unfold sm_fv
    rw [h3, if_pos rfl]
    simp [u2]
  · unfold sm_fv
    simp [u2, hj]
/-- Reader.text: the one reference that changes; its object is the cell 2 alone -/
theorem sm_kd6 {b : Nat} (h : kd b = 6) : b = 2 := by
  have hb : b < NC := sm_kd h (by decide)
  have := (show ∀ b, b < NC → kd b = 6 → b = 2 by decide +kernel)
  exact this b hb h
theorem sr_putt (C : sm_C κ own cc nL d) {idx a t : Nat} (hf : sm_FP own idx 6 3 3 (.array .byte)) (ha : kd a = 6) (hd : decode cc pc = .ok (.putfield idx, 3)) (hq : pc + 3 = q) (h : sm_S κ ex (.inl (q, L, st)) f) : sm_S κ ex (.inl (pc, L, xad κ t :: xad κ a :: st)) (m_st t f) := by
  subst hq
  intro μ H locs b μ' a1 a2 a3 a4 ls hls
  refine sm_put (μ' := (μ.1, μ.2.1, t)) C hf (by omega) rfl rfl ha hd a1 a2 ?_ (fun j hj => ?_) (fun b hb => ?_) (fun H' locs' b1 b2 => h (μ.1, μ.2.1, t) H' locs' b μ' b1 b2 a3 a4 ls hls)
  · have h3 : fc (kd a) 3 = 3 := by rw [ha]; decide +kernel
    unfold sm_fv
    rw [h3, if_neg (by omega), if_neg (by omega), if_pos rfl]
  · have : fc 6 j ≠ 3 := by
      intro e
      have hj11 := fc_lt e (by decide)
      have hl : (fcL.getD 6 []).length = 11 := by decide +kernel
      rw [hl] at hj11
      have := (show ∀ j, j < 11 → j ≠ 3 → fc 6 j ≠ 3 by decide +kernel) j hj11 hj
      exact this e
    unfold sm_fv
    rw [ha, if_neg this, if_neg this]
  · have hb6 : kd b ≠ 6 := fun e => hb ((sm_kd6 e).trans (sm_kd6 ha).symm)
    unfold sm_cell
    have hfv : kd b < 20 → sm_fv (xo κ) (μ.1, μ.2.1, t) b = sm_fv (xo κ) μ b := by
      intro h20
      funext j
      have : fc (kd b) j ≠ 3 := by
        intro e
        have hj := fc_lt e (by decide)
        have h50 : ∀ c, c < 20 → c ≠ 6 → ∀ j, j < (fcL.getD c []).length → fc c j ≠ 3 := by decide +kernel
        exact h50 _ h20 hb6 j hj e
      unfold sm_fv
      rw [if_neg this, if_neg this]
    by_cases h20 : kd b < 20
    · rw [if_pos h20, if_pos h20, hfv h20]
    · rw [if_neg h20, if_neg h20]
theorem sm_in {i : Int32} {n : Nat} (h : ¬ (i < 0 ∨ n ≤ i.toNatClampNeg)) : vp_in i n := h
theorem sr_iaload (C : sm_C κ own cc nL d) {r : Nat} {i : Int32} (hr : kd r = 20) (hd : decode cc pc = .ok (.iaload, 1)) (hq : pc + 1 = q) {k1 : Int32 → sm_M α} (h : ∀ x, sm_S κ ex (.inl (q, L, .int x :: st)) (k1 x)) : sm_S κ ex (.inl (pc, L, .int i :: xad κ r :: st)) (m_ai r i k1) := by
  subst hq
  intro μ H locs b μ' a1 a2 a3 a4 ls hls
  unfold m_ai at a3
  by_cases hi : ¬ (i < 0 ∨ ln r ≤ i.toNatClampNeg)
  · rw [if_pos hi] at a3
    exact va_iald (D := (xo κ).2.1) (cl := classes) (tys := sm_tys (xo κ)) (ws := sm_ws (xo κ) μ) C.1 C.2.1 C.2.2.2.2.2.1 a1 r 0 (by rw [sm_ws_get (sm_kd hr (by decide)), sm_cell_a hr (by decide) (by decide)]) rfl hi hd (h _ μ H locs b μ' a1 a2 a3 a4 ls hls)
  · rw [if_neg hi] at a3
    cases a3
theorem sr_baload (C : sm_C κ own cc nL d) {r : Nat} {i : Int32} (hr : kd r = 21) (hd : decode cc pc = .ok (.baload, 1)) (hq : pc + 1 = q) {k1 : Int32 → sm_M α} (h : ∀ x, sm_S κ ex (.inl (q, L, .int x :: st)) (k1 x)) : sm_S κ ex (.inl (pc, L, .int i :: xad κ r :: st)) (m_ai r i k1) := by
  subst hq
  intro μ H locs b μ' a1 a2 a3 a4 ls hls
  unfold m_ai at a3
  by_cases hi : ¬ (i < 0 ∨ ln r ≤ i.toNatClampNeg)
  · rw [if_pos hi] at a3
    exact va_bald (D := (xo κ).2.1) (cl := classes) (tys := sm_tys (xo κ)) (ws := sm_ws (xo κ) μ) C.1 C.2.1 C.2.2.2.2.2.1 a1 r 1 (by rw [sm_ws_get (sm_kd hr (by decide)), sm_cell_a hr (by decide) (by decide)]) rfl hi hd (h _ μ H locs b μ' a1 a2 a3 a4 ls hls)
  · rw [if_neg hi] at a3
    cases a3
theorem sr_zaload (C : sm_C κ own cc nL d) {r : Nat} {i : Int32} (hr : kd r = 22) (hd : decode cc pc = .ok (.baload, 1)) (hq : pc + 1 = q) {k1 : Int32 → sm_M α} (h : ∀ x, sm_S κ ex (.inl (q, L, .int x :: st)) (k1 x)) : sm_S κ ex (.inl (pc, L, .int i :: xad κ r :: st)) (m_ai r i k1) := by
  subst hq
  intro μ H locs b μ' a1 a2 a3 a4 ls hls
  unfold m_ai at a3
  by_cases hi : ¬ (i < 0 ∨ ln r ≤ i.toNatClampNeg)
  · rw [if_pos hi] at a3
    exact va_zald (D := (xo κ).2.1) (cl := classes) (tys := sm_tys (xo κ)) (ws := sm_ws (xo κ) μ) C.1 C.2.1 C.2.2.2.2.2.1 a1 r 2 (by rw [sm_ws_get (sm_kd hr (by decide)), sm_cell_a hr (by decide) (by decide)]) rfl hi hd (h _ μ H locs b μ' a1 a2 a3 a4 ls hls)
  · rw [if_neg hi] at a3
    cases a3
theorem sr_laload (C : sm_C κ own cc nL d) {r : Nat} {i : Int32} (hr : kd r = 23) (hd : decode cc pc = .ok (.laload, 1)) (hq : pc + 1 = q) {k1 : Int64 → sm_M α} (h : ∀ x, sm_S κ ex (.inl (q, L, .long x :: st)) (k1 x)) : sm_S κ ex (.inl (pc, L, .int i :: xad κ r :: st)) (m_al r i k1) := by
  subst hq
  intro μ H locs b μ' a1 a2 a3 a4 ls hls
  unfold m_al at a3
  by_cases hi : ¬ (i < 0 ∨ ln r ≤ i.toNatClampNeg)
  · rw [if_pos hi] at a3
    exact va_lald (D := (xo κ).2.1) (cl := classes) (tys := sm_tys (xo κ)) (ws := sm_ws (xo κ) μ) C.1 C.2.1 C.2.2.2.2.2.1 a1 r 3 (by rw [sm_ws_get (sm_kd hr (by decide)), sm_cell_L hr]) rfl hi hd (h _ μ H locs b μ' a1 a2 a3 a4 ls hls)
  · rw [if_neg hi] at a3
    cases a3
theorem sr_aaload (C : sm_C κ own cc nL d) {r t t0 : Nat} {Cn : String} {i : Int32} (hr : kd r = t) (ht : t = 24 ∨ t = 25 ∨ t = 26) (hty : (sm_tys (xo κ))[t0]? = some ((xo κ).2.2.1 t, .object Cn)) (hd : decode cc pc = .ok (.aaload, 1)) (hq : pc + 1 = q) {k1 : Nat → sm_M α} (h : ∀ x, kd x = tq t → sm_S κ ex (.inl (q, L, xad κ x :: st)) (k1 x)) : sm_S κ ex (.inl (pc, L, .int i :: xad κ r :: st)) (m_ap r i k1) := by
  subst hq
  intro μ H locs b μ' a1 a2 a3 a4 ls hls
  unfold m_ap at a3
  by_cases hi : ¬ (i < 0 ∨ ln r ≤ i.toNatClampNeg)
  · rw [if_pos hi] at a3
    exact va_aldq (f := fun k => some ((xo κ).1 + lk r k)) (D := (xo κ).2.1) (cl := classes) (tys := sm_tys (xo κ)) (ws := sm_ws (xo κ) μ) C.1 C.2.1 C.2.2.2.2.2.1 a1 r t0 (by rw [sm_ws_get (sm_kd hr (by omega)), sm_cell_q hr (by omega) (by omega) (by omega)]) hty hi hd (h _ (lq_ok hr ht (Nat.not_le.mp fun z => hi (Or.inr z))) μ H locs b μ' a1 a2 a3 a4 ls hls)
  · rw [if_neg hi] at a3
    cases a3
theorem sm_setA {ω : sm_O} {μ : sm_Mem} {r t i : Nat} {x : Int32} (hr : kd r = t) (h1 : ¬ t < 20) (h2 : t < 23) : (sm_ws ω μ).set r (ω.1 + r, .inl (ω.2.2.1 t, ln r, .inl (upd (μ.1 r) i x))) = sm_ws ω (u2 μ.1 r i x, μ.2) := by
  refine sm_ws_set ?_ (fun b hb => sm_cell_i (u2_ne hb))
  have e : upd (μ.1 r) i x = u2 μ.1 r i x r := by
    funext j
    simp [u2, upd]
  rw [sm_cell_a hr h1 h2, e]
theorem sr_iastore (C : sm_C κ own cc nL d) {r : Nat} {i x : Int32} (hr : kd r = 20) (hd : decode cc pc = .ok (.iastore, 1)) (hq : pc + 1 = q) (h : sm_S κ ex (.inl (q, L, st)) f) : sm_S κ ex (.inl (pc, L, .int x :: .int i :: xad κ r :: st)) (m_sai r i x f) := by
  subst hq
  intro μ H locs b μ' a1 a2 a3 a4 ls hls
  unfold m_sai at a3
  by_cases hi : ¬ (i < 0 ∨ ln r ≤ i.toNatClampNeg)
  · rw [if_pos hi] at a3
    refine va_iast (D := (xo κ).2.1) (cl := classes) (tys := sm_tys (xo κ)) (ws := sm_ws (xo κ) μ) C.1 C.2.1 C.2.2.2.2.2.1 a1 sm_ws_D a2 r 0 (by rw [sm_ws_get (sm_kd hr (by decide)), sm_cell_a hr (by decide) (by decide)]) rfl hi hd (fun H1 locs1 b1 b2 b3 => ?_)
    rw [sm_setA hr (by decide) (by decide)] at b1
    exact h _ H1 locs1 b μ' b1 b3 a3 a4 ls hls
  · rw [if_neg hi] at a3
    cases a3
theorem sr_bastore (C : sm_C κ own cc nL d) {r : Nat} {i x : Int32} (hr : kd r = 21) (hd : decode cc pc = .ok (.bastore, 1)) (hq : pc + 1 = q) (h : sm_S κ ex (.inl (q, L, st)) f) : sm_S κ ex (.inl (pc, L, .int x :: .int i :: xad κ r :: st)) (m_sai r i (vp_nar .byte x) f) := by
  subst hq
  intro μ H locs b μ' a1 a2 a3 a4 ls hls
  unfold m_sai at a3
  by_cases hi : ¬ (i < 0 ∨ ln r ≤ i.toNatClampNeg)
  · rw [if_pos hi] at a3
    refine va_bast (D := (xo κ).2.1) (cl := classes) (tys := sm_tys (xo κ)) (ws := sm_ws (xo κ) μ) C.1 C.2.1 C.2.2.2.2.2.1 a1 sm_ws_D a2 r 1 (by rw [sm_ws_get (sm_kd hr (by decide)), sm_cell_a hr (by decide) (by decide)]) rfl hi hd (fun H1 locs1 b1 b2 b3 => ?_)
    rw [sm_setA hr (by decide) (by decide)] at b1
    exact h _ H1 locs1 b μ' b1 b3 a3 a4 ls hls
  · rw [if_neg hi] at a3
    cases a3
theorem sr_zastore (C : sm_C κ own cc nL d) {r : Nat} {i x : Int32} (hr : kd r = 22) (hd : decode cc pc = .ok (.bastore, 1)) (hq : pc + 1 = q) (h : sm_S κ ex (.inl (q, L, st)) f) : sm_S κ ex (.inl (pc, L, .int x :: .int i :: xad κ r :: st)) (m_sai r i (vp_nar .boolean x) f) := by
  subst hq
  intro μ H locs b μ' a1 a2 a3 a4 ls hls
  unfold m_sai at a3
  by_cases hi : ¬ (i < 0 ∨ ln r ≤ i.toNatClampNeg)
  · rw [if_pos hi] at a3
    refine va_zast (D := (xo κ).2.1) (cl := classes) (tys := sm_tys (xo κ)) (ws := sm_ws (xo κ) μ) C.1 C.2.1 C.2.2.2.2.2.1 a1 sm_ws_D a2 r 2 (by rw [sm_ws_get (sm_kd hr (by decide)), sm_cell_a hr (by decide) (by decide)]) rfl hi hd (fun H1 locs1 b1 b2 b3 => ?_)
    rw [sm_setA hr (by decide) (by decide)] at b1
    exact h _ H1 locs1 b μ' b1 b3 a3 a4 ls hls
  · rw [if_neg hi] at a3
    cases a3
theorem sr_lastore (C : sm_C κ own cc nL d) {r : Nat} {i : Int32} {x : Int64} (hr : kd r = 23) (hd : decode cc pc = .ok (.lastore, 1)) (hq : pc + 1 = q) (h : sm_S κ ex (.inl (q, L, st)) f) : sm_S κ ex (.inl (pc, L, .long x :: .int i :: xad κ r :: st)) (m_sal r i x f) := by
  subst hq
  intro μ H locs b μ' a1 a2 a3 a4 ls hls
  unfold m_sal at a3
  by_cases hi : ¬ (i < 0 ∨ ln r ≤ i.toNatClampNeg)
  · rw [if_pos hi] at a3
    refine va_last (D := (xo κ).2.1) (cl := classes) (tys := sm_tys (xo κ)) (ws := sm_ws (xo κ) μ) C.1 C.2.1 C.2.2.2.2.2.1 a1 sm_ws_D a2 r 3 (by rw [sm_ws_get (sm_kd hr (by decide)), sm_cell_L hr]) rfl hi hd (fun H1 locs1 b1 b2 b3 => ?_)
    have e : (sm_ws (xo κ) μ).set r ((xo κ).1 + r, .inl ((xo κ).2.2.1 23, ln r, .inr (.inl (vp_updL (μ.2.1 r) i.toNatClampNeg x)))) = sm_ws (xo κ) (μ.1, u2 μ.2.1 r i.toNatClampNeg x, μ.2.2) := by
      refine sm_ws_set ?_ (fun b hb => sm_cell_l (u2_ne hb))
      have e : vp_updL (μ.2.1 r) i.toNatClampNeg x = u2 μ.2.1 r i.toNatClampNeg x r := by
        funext j
        simp [u2, vp_updL]
      rw [sm_cell_L hr, e]
    rw [e] at b1
    exact h _ H1 locs1 b μ' b1 b3 a3 a4 ls hls
  · rw [if_neg hi] at a3
    cases a3
theorem sr_alen (C : sm_C κ own cc nL d) {r t : Nat} (hr : kd r = t) (ht : t = 20 ∨ t = 21) (hd : decode cc pc = .ok (.arraylength, 1)) (hq : pc + 1 = q) (h : sm_S κ ex (.inl (q, L, .int (nI (ln r)) :: st)) f) : sm_S κ ex (.inl (pc, L, xad κ r :: st)) f := by
  subst hq
  intro μ H locs b μ' a1 a2 a3 a4 ls hls
  rcases ht with rfl | rfl
  · exact va_alen (x := (ln r, .inl (μ.1 r))) (v := nI (ln r)) (D := (xo κ).2.1) (cl := classes) (tys := sm_tys (xo κ)) (ws := sm_ws (xo κ) μ) C.1 C.2.1 C.2.2.2.2.2.1 a1 r 0 (by rw [sm_ws_get (sm_kd hr (by decide)), sm_cell_a hr (by decide) (by decide)]) rfl rfl hd (h μ H locs b μ' a1 a2 a3 a4 ls hls)
  · exact va_alen (x := (ln r, .inl (μ.1 r))) (v := nI (ln r)) (D := (xo κ).2.1) (cl := classes) (tys := sm_tys (xo κ)) (ws := sm_ws (xo κ) μ) C.1 C.2.1 C.2.2.2.2.2.1 a1 r 1 (by rw [sm_ws_get (sm_kd hr (by decide)), sm_cell_a hr (by decide) (by decide)]) rfl rfl hd (h μ H locs b μ' a1 a2 a3 a4 ls hls)
theorem sr_alenL (C : sm_C κ own cc nL d) {r : Nat} (hr : kd r = 23) (hd : decode cc pc = .ok (.arraylength, 1)) (hq : pc + 1 = q) (h : sm_S κ ex (.inl (q, L, .int (nI (ln r)) :: st)) f) : sm_S κ ex (.inl (pc, L, xad κ r :: st)) f := by
  subst hq
  intro μ H locs b μ' a1 a2 a3 a4 ls hls
  exact va_alen (x := (ln r, .inr (.inl (μ.2.1 r)))) (v := nI (ln r)) (D := (xo κ).2.1) (cl := classes) (tys := sm_tys (xo κ)) (ws := sm_ws (xo κ) μ) C.1 C.2.1 C.2.2.2.2.2.1 a1 r 3 (by rw [sm_ws_get (sm_kd hr (by decide)), sm_cell_L hr]) rfl rfl hd (h μ H locs b μ' a1 a2 a3 a4 ls hls)
theorem sr_copyi (C : sm_C κ own cc nL d) {idx r t : Nat} {sp dp n : Int32} (hl : Cond.methodLink own idx arraycopyName ∈ lw_w) (hr : kd r = 20) (ht : kd t = 20) (hdd : 1 ≤ d) (hst : (st.map fun v => v.category).sum + (nativeFrameWords "java/lang/System" "arraycopy" 5 + 11) ≤ 64) (hd : decode cc pc = .ok (.invokestatic idx, 3)) (hq : pc + 3 = q) (h : sm_S κ ex (.inl (q, L, st)) f) : sm_S κ ex (.inl (pc, L, .int n :: .int dp :: xad κ t :: .int sp :: xad κ r :: st)) (m_cpi r sp t dp n f) := by
  subst hq
  intro μ H locs b μ' a1 a2 a3 a4 ls hls
  unfold m_cpi at a3
  by_cases hi : ¬ sp < 0 ∧ ¬ dp < 0 ∧ ¬ n < 0 ∧ sp.toNatClampNeg + n.toNatClampNeg ≤ ln r ∧ dp.toNatClampNeg + n.toNatClampNeg ≤ ln t
  · rw [if_pos hi] at a3
    have hts := C.2.2.2.2.1
    refine va_copyi (D := (xo κ).2.1) (cl := classes) (tys := sm_tys (xo κ)) (ws := sm_ws (xo κ) μ) (f := μ.1 r) (g := μ.1 t) (ty := .int) C.1 C.2.1 hls.1.symm C.2.2.2.1 (hts _ hl) (hts _ (lw_m (by decide +kernel) rfl)) (hts _ (lw_m (by decide +kernel) rfl)) (hts _ (lw_m (by decide +kernel) rfl)) C.2.2.2.2.2.1 a1 sm_ws_D a2 r t 0 0 (by rw [sm_ws_get (sm_kd hr (by decide)), sm_cell_a hr (by decide) (by decide)]) (by rw [sm_ws_get (sm_kd ht (by decide)), sm_cell_a ht (by decide) (by decide)]) rfl rfl rfl hi.1 hi.2.1 hi.2.2.1 hi.2.2.2.1 hi.2.2.2.2 (fun _ _ => rfl) (Nat.le_trans hdd C.2.2.2.2.2.2.2.2.1) (by have := C.2.2.2.2.2.2.2.2.2.1; omega) hd (fun H1 locs1 b1 b2 b3 => ?_)
    have e : (sm_ws (xo κ) μ).set t ((xo κ).1 + t, .inl ((xo κ).2.2.1 20, ln t, .inl (va_cpy (μ.1 r) (μ.1 t) sp.toNatClampNeg dp.toNatClampNeg n.toNatClampNeg))) = sm_ws (xo κ) (u1 μ.1 t (va_cpy (μ.1 r) (μ.1 t) sp.toNatClampNeg dp.toNatClampNeg n.toNatClampNeg), μ.2) := by
      refine sm_ws_set ?_ (fun b hb => sm_cell_i (u1_ne hb))
      rw [sm_cell_a ht (by decide) (by decide)]
      simp [u1]
    rw [e] at b1
    exact h _ H1 locs1 b μ' b1 b3 a3 a4 ls hls
  · rw [if_neg hi] at a3
    cases a3
theorem sr_copyl (C : sm_C κ own cc nL d) {idx r t : Nat} {sp dp n : Int32} (hl : Cond.methodLink own idx arraycopyName ∈ lw_w) (hr : kd r = 23) (ht : kd t = 23) (hdd : 1 ≤ d) (hst : (st.map fun v => v.category).sum + (nativeFrameWords "java/lang/System" "arraycopy" 5 + 11) ≤ 64) (hd : decode cc pc = .ok (.invokestatic idx, 3)) (hq : pc + 3 = q) (h : sm_S κ ex (.inl (q, L, st)) f) : sm_S κ ex (.inl (pc, L, .int n :: .int dp :: xad κ t :: .int sp :: xad κ r :: st)) (m_cpl r sp t dp n f) := by
  subst hq
  intro μ H locs b μ' a1 a2 a3 a4 ls hls
  unfold m_cpl at a3
  by_cases hi : ¬ sp < 0 ∧ ¬ dp < 0 ∧ ¬ n < 0 ∧ sp.toNatClampNeg + n.toNatClampNeg ≤ ln r ∧ dp.toNatClampNeg + n.toNatClampNeg ≤ ln t
  · rw [if_pos hi] at a3
    have hts := C.2.2.2.2.1
    refine va_copyl (D := (xo κ).2.1) (cl := classes) (tys := sm_tys (xo κ)) (ws := sm_ws (xo κ) μ) (f := μ.2.1 r) (g := μ.2.1 t) (ty := .long) C.1 C.2.1 hls.1.symm C.2.2.2.1 (hts _ hl) (hts _ (lw_m (by decide +kernel) rfl)) (hts _ (lw_m (by decide +kernel) rfl)) (hts _ (lw_m (by decide +kernel) rfl)) C.2.2.2.2.2.1 a1 sm_ws_D a2 r t 3 3 (by rw [sm_ws_get (sm_kd hr (by decide)), sm_cell_L hr]) (by rw [sm_ws_get (sm_kd ht (by decide)), sm_cell_L ht]) rfl rfl rfl hi.1 hi.2.1 hi.2.2.1 hi.2.2.2.1 hi.2.2.2.2 (fun _ _ => rfl) (Nat.le_trans hdd C.2.2.2.2.2.2.2.2.1) (by have := C.2.2.2.2.2.2.2.2.2.1; omega) hd (fun H1 locs1 b1 b2 b3 => ?_)
    have e : (sm_ws (xo κ) μ).set t ((xo κ).1 + t, .inl ((xo κ).2.2.1 23, ln t, .inr (.inl (va_cpy (μ.2.1 r) (μ.2.1 t) sp.toNatClampNeg dp.toNatClampNeg n.toNatClampNeg)))) = sm_ws (xo κ) (μ.1, u1 μ.2.1 t (va_cpy (μ.2.1 r) (μ.2.1 t) sp.toNatClampNeg dp.toNatClampNeg n.toNatClampNeg), μ.2.2) := by
      refine sm_ws_set ?_ (fun b hb => sm_cell_l (u1_ne hb))
      rw [sm_cell_L ht]
      simp [u1]
    rw [e] at b1
    exact h _ H1 locs1 b μ' b1 b3 a3 a4 ls hls
  · rw [if_neg hi] at a3
    cases a3
end SM
