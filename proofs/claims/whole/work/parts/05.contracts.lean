/-! ===== contracts and calls ===== -/
abbrev sm_rm (d : Nat) : Room := { frames := d, cells := 0, slots := 0, locals := 64 * d }
def sm_Pc (ω : sm_O) (μ : sm_Mem) (av : List Value) : Array Value → State → Prop := fun v U => v = av.toArray ∧ sm_WR ω μ U
def sm_Qc (ω : sm_O) (μ' : sm_Mem) (r : Option Value) : Array Value → State → Outcome → State → Prop := fun _ st o t => o = .returned r ∧ sm_HR ω μ' t.heap ∧ va_F (sm_A ω) st t
/-- THE CONTRACT of a method: where f gives (a, μ') on the memory, the method returns 'rv a' and leaves the memory μ' -/
def sm_Mt (d : Nat) (y : MethodName) (cc : ByteArray) (nL : Nat) (ret : Option FieldType) (ω : sm_O) (av : List Value) {α : Type} (rv : α → Option Value) (f : sm_M α) : Prop :=
  ∀ (l : Launch) (μ : sm_Mem) (a : α) (μ' : sm_Mem), f μ = some (a, μ') → Met l y (Cond.code y cc nL ret :: lw_w) (sm_rm d) (sm_Pc ω μ av) (sm_Qc ω μ' (rv a)) 0 0 (sm_A ω)
def sm_Y (y : MethodName) (cc : ByteArray) (nL : Nat) (ret : Option FieldType) (n : Nat) : Prop := Cond.code y cc nL ret ∈ lw_w ∧ Cond.initialized y.cls ∈ lw_w ∧ y.cls ≠ "java/lang/invoke/MethodHandle" ∧ y.cls ≠ "java/lang/invoke/VarHandle" ∧ (parseMethodDescriptor y.desc).map (fun d => d.parameters.length) = some n
def sm_YV (y : MethodName) (cc : ByteArray) (nL : Nat) (ret : Option FieldType) (n : Nat) : Prop := sm_Y y cc nL ret n ∧ Cond.instanceMethod y ∈ lw_w ∧ Cond.selects y.cls y y ∈ lw_w
def sm_YS (y : MethodName) (cc : ByteArray) (nL : Nat) (ret : Option FieldType) (n : Nat) : Prop := sm_Y y cc nL ret n ∧ Cond.static y ∈ lw_w
theorem sm_StT.go {ω : sm_O} {s U : State} {H : Heap} (h : sm_StT ω s s.heap) (hW : s.WarmedH U.vm) (hq : ∀ a : Nat, a < s.heap.size → ¬ sm_A ω a → H[a]? = s.heap[a]?) : sm_StT ω U H :=
  ⟨fun q hq => (h.1 q hq).warm hW, (h.2.1.moved hW.alike).kept hq, (h.2.2.1.moved hW.alike).kept hq, h.2.2.2.1.warmF hW, (h.2.2.2.2.moved hW.alike).kept hq⟩
theorem sm_blind {ω : sm_O} {μ : sm_Mem} {av : List Value} : FrameBlind (sm_Pc ω μ av) := by
  intro a U g mk h
  obtain ⟨h0, hP, hK, hT, hz⟩ := h
  refine ⟨h0, hP, va_K.moved (u := U) (U := U.calling g mk a) (Vm.Alike.refl U.vm) hK, ⟨fun q hq => (hT.1 q hq).same rfl, vk_S.moved (u := U) (U := U.calling g mk a) (Vm.Alike.refl U.vm) hT.2.1, va_Z.moved (u := U) (U := U.calling g mk a) (Vm.Alike.refl U.vm) hT.2.2.1, va_Nw.same rfl rfl hT.2.2.2.1, va_Zq.moved (u := U) (U := U.calling g mk a) (Vm.Alike.refl U.vm) hT.2.2.2.2⟩, hz⟩
def sm_ent (vs : List Value) (n : Nat) : List (Option Value) := match vs with
  | [] => List.replicate n none
  | v :: t => if v.category = 2 then some v :: none :: sm_ent t (n - 2) else some v :: sm_ent t (n - 1)
theorem sm_ent_mem : ∀ (vs : List Value) (n k i : Nat) (v : Value), (sm_ent vs n)[i]? = some (some v) → (k + i, v) ∈ lv_args k vs := by
  intro vs
  induction vs with
  | nil =>
    intro n k i v h
    simp only [sm_ent] at h
    rw [List.getElem?_replicate] at h
    split at h <;> simp at h
  | cons w t ih =>
    intro n k i v h
    simp only [sm_ent] at h
    unfold lv_args
    by_cases hc : w.category = 2
    · rw [if_pos hc] at h
      match i, h with
      | 0, h =>
        simp only [List.getElem?_cons_zero, Option.some.injEq] at h
        subst h
        simp
      | 1, h => simp at h
      | i + 2, h =>
        simp only [List.getElem?_cons_succ] at h
        have := ih (n - 2) (k + 2) i v h
        rw [show k + (i + 2) = k + 2 + i by omega]
        simp only [hc]
        exact List.mem_cons_of_mem _ this
    · have h1 : w.category = 1 := by rcases lv_cat w with q | q; exact q; exact absurd q hc
      rw [if_neg hc] at h
      match i, h with
      | 0, h =>
        simp only [List.getElem?_cons_zero, Option.some.injEq] at h
        subst h
        simp
      | i + 1, h =>
        simp only [List.getElem?_cons_succ] at h
        have := ih (n - 1) (k + 1) i v h
        rw [show k + (i + 1) = k + 1 + i by omega]
        simp only [h1]
        exact List.mem_cons_of_mem _ this
theorem sm_entry {vs : List Value} {n : Nat} (h : (lg_sl vs).length ≤ n) : sm_LR ((lg_sl vs ++ List.replicate (n - (lg_sl vs).length) Slot.unset).toArray) n (sm_ent vs n) := by
  have hl := lv_entry vs h
  refine ⟨hl.1, hl.2.1, fun i v hi => ?_⟩
  have := sm_ent_mem vs n 0 i v hi
  rw [Nat.zero_add] at this
  exact hl.2.2 (i, v) this
section CN
variable {d : Nat} {y : MethodName} {cc : ByteArray} {nL : Nat} {ret : Option FieldType} {ω : sm_O} {av : List Value} {α : Type} {f : sm_M α}
theorem sm_con {rv : α → Option Value} (hy : plainName y.cls = true) (hv : (lg_sl av).length ≤ nL)
    (hend : ∀ (κ : sm_X) (H : Heap) (locs : List Loc) (a : α) (μ' : sm_Mem), sm_C κ y.cls cc nL d → (xt κ).sig.returnType = ret → (xt κ).locks = false → xq κ = MQ (xb κ) (sm_Qc ω μ' (rv a)) (xa κ) (xs κ) 0 0 (sm_A ω) → xn κ = 0 → xz κ = 0 → (∀ t : State, t.heap = H → (xs κ).WarmedH t.vm → sm_Qc ω μ' (rv a) (xa κ) (xs κ) (.returned (rv a)) t) → (∀ q ∈ locs, sm_A ω q.base) → sm_WC κ (.inr (rv a)) H locs)
    (body : ∀ κ : sm_X, xo κ = ω → sm_C κ y.cls cc nL d → sm_S κ (fun a => .inr (rv a)) (.inl (0, sm_ent av nL, [])) f) : sm_Mt d y cc nL ret ω av rv f := by
  intro l μ a μ' hf
  refine Met.ofW (cc := cc) (maxL := nL) (ret := ret) hy rfl ?_
  intro p e s m args below meth c s₁ B hml hv0
  obtain ⟨rfl, hP, hK, hT, hz⟩ := hv0
  have hts : ∀ w ∈ lw_w, w.before av.toArray s = true := fun w hw => atoms_spec (ws := Cond.code y cc nL ret :: lw_w) B.pre w (List.mem_cons_of_mem _ hw)
  have hown : s.vm.findClass y.cls = some m.cls := findClass_of_methodNamed B.named
  rw [lg_entry_eq]
  let κ : sm_X := (p, l, e, sm_rm d, s, m, av.toArray, below, meth, c, MQ below (sm_Qc ω μ' (rv a)) av.toArray s 0 0 (sm_A ω), 0, 0, ω)
  have C : sm_C κ y.cls cc nL d := ⟨B.exec, B.bytes, hml, hown, hts, hK, hT, hz, Nat.le_refl _, Nat.le_refl _, Nat.le_refl _, Nat.le_refl _⟩
  have hS0 : va_S (sm_A ω) s.heap s.heap [] := va_S.rf
  have key := body κ rfl C μ s.heap [] a μ' hP hS0 hf (fun H' locs' b1 b2 => ?_)
  · exact key _ (by rw [show (xc κ).maxLocals = nL from hml]; exact sm_entry hv)
  · refine hend κ H' locs' a μ' C B.returns B.notSynchronized rfl rfl rfl (fun t ht _ => ⟨rfl, by rw [ht]; exact b1, ⟨by rw [ht]; exact b2.1, fun q q1 q2 => by rw [ht]; exact b2.2.1 q q1 q2⟩⟩) b2.2.2
theorem sm_conI {r : α → Int32} {ty : FieldType} (hy : plainName y.cls = true) (hn : ∀ a, narrow ty (.int (r a)) = .int (r a)) (hv : (lg_sl av).length ≤ nL) (body : ∀ κ : sm_X, xo κ = ω → sm_C κ y.cls cc nL d → sm_S κ (fun a => .inr (some (.int (r a)))) (.inl (0, sm_ent av nL, [])) f) : sm_Mt d y cc nL (some ty) ω av (fun a => some (.int (r a))) f := by
  refine sm_con hy hv ?_ body
  intro κ H locs a μ' C hr hlk hQ hc hz hq hL pc ls hd
  unfold sm_W
  rw [hQ, hc, hz]
  exact W.zret C.1 rfl hr (hn a) hq hL hd hlk
theorem sm_conL {r : α → Int64} (hy : plainName y.cls = true) (hv : (lg_sl av).length ≤ nL) (body : ∀ κ : sm_X, xo κ = ω → sm_C κ y.cls cc nL d → sm_S κ (fun a => .inr (some (.long (r a)))) (.inl (0, sm_ent av nL, [])) f) : sm_Mt d y cc nL (some .long) ω av (fun a => some (.long (r a))) f := by
  refine sm_con hy hv ?_ body
  intro κ H locs a μ' C hr hlk hQ hc hz hq hL pc ls hd
  unfold sm_W
  rw [hQ, hc, hz]
  exact W.lret C.1 rfl hr hq hL hd hlk
theorem sm_conV (hy : plainName y.cls = true) (hv : (lg_sl av).length ≤ nL) (body : ∀ κ : sm_X, xo κ = ω → sm_C κ y.cls cc nL d → sm_S κ (fun _ => .inr none) (.inl (0, sm_ent av nL, [])) f) : sm_Mt d y cc nL none ω av (fun _ => none) f := by
  refine sm_con hy hv ?_ body
  intro κ H locs a μ' C hr hlk hQ hc hz hq hL pc ls hd
  unfold sm_W
  rw [hQ, hc, hz]
  exact W.vret C.1 rfl hr hq hL hd hlk
end CN
section CA
variable {κ : sm_X} {own : String} {cc : ByteArray} {nL d : Nat} {α β : Type} {ex : α → sm_G} {pc q idx : Nat} {L : List (Option Value)} {st stk : List Value}
variable {y : MethodName} {cc1 : ByteArray} {nL1 d1 n : Nat} {ret1 : Option FieldType} {rv : β → Option Value} {f1 : sm_M β} {k : β → sm_M α} {As : List Value}
theorem sm_pre (C : sm_C κ own cc nL d) {μ : sm_Mem} {H : Heap} {locs : List Loc} (hP : sm_HR (xo κ) μ H) (hS : va_S (sm_A (xo κ)) (xs κ).heap H locs) {av : List Value} (U : State) (hU : U.heap = H) (hW : (xs κ).WarmedH U.vm) : sm_Pc (xo κ) μ av av.toArray U :=
  ⟨rfl, by rw [hU]; exact hP, va_K.moved hW.alike C.2.2.2.2.2.1, by rw [hU]; exact C.2.2.2.2.2.2.1.go hW hS.2.1, by rw [hU]; exact Nat.le_trans C.2.2.2.2.2.2.2.1 hS.1⟩
theorem sm_callB (C : sm_C κ own cc nL d) (hY : sm_Y y cc1 nL1 ret1 n) (hl : Cond.methodLink own idx y ∈ lw_w) (hdd : d1 + 1 ≤ d) (hnl : nL1 ≤ 45) : CallB (xr κ) (xs κ) (xa κ) own idx y cc1 nL1 ret1 (Cond.code y cc1 nL1 ret1 :: lw_w) (sm_rm d1) 0 0 n := by
  have hts := C.2.2.2.2.1
  have hG : GoodIn lw_w (Cond.code y cc1 nL1 ret1 :: lw_w) := by
    intro w hw
    rcases List.mem_cons.mp hw with rfl | hw
    · exact lw_good (fun w h => h) _ hY.1
    · exact lw_good (fun w h => h) w hw
  have h1 := C.2.2.2.2.2.2.2.2.1
  have h2 := C.2.2.2.2.2.2.2.2.2.1
  exact callB_of n hts hG rfl rfl rfl (hts _ hY.2.1) (hts _ hl) ⟨hY.2.2.1, hY.2.2.2.1, hY.2.2.2.2⟩ ⟨Nat.le_trans hdd h1, by show 8 + (nL1 + 11) + 64 * d1 ≤ _; omega⟩
theorem sm_after {μ1 : sm_Mem} {b : β} {H : Heap} {locs : List Loc} {a : Array Value} {ls : Array Slot} (hS : va_S (sm_A (xo κ)) (xs κ).heap H locs)
    (hr : CallRun (xp κ) (xl κ) (xe κ) (xr κ) (xs κ) (xm κ) (xa κ) (xb κ) (xt κ) (xc κ) H locs (xn κ) (xz κ) 0 0 (F0 (xm κ) pc ls stk) st (sm_Qc (xo κ) μ1 (rv b) a) (sm_A (xo κ)))
    (kk : ∀ (H' : Heap) (locs' : List Loc), sm_HR (xo κ) μ1 H' → va_S (sm_A (xo κ)) (xs κ).heap H' locs' → sm_W κ H' locs' (F0 (xm κ) (pc + 3) ls ((rv b).toList ++ st))) : sm_W κ H locs (F0 (xm κ) pc ls stk) := by
  intro T hT X
  obtain ⟨v, st₀, t, T', L, h0, X', hL, e1, ⟨hv, hP', hF⟩, go⟩ := hr T hT X
  cases hv
  have hS' : va_S (sm_A (xo κ)) (xs κ).heap T'.heap (locs ++ L) := by
    rw [e1]
    refine ⟨Nat.le_trans hS.1 (by rw [← h0]; exact hF.1), fun q h1 h2 => ?_, fun q hq => ?_⟩
    · rw [hF.2 q (by rw [h0]; exact Nat.lt_of_lt_of_le h1 hS.1) h2, h0]
      exact hS.2.1 q h1 h2
    · rcases List.mem_append.mp hq with h | h
      · exact hS.2.2 q h
      · exact hL q h
  obtain ⟨t2, a1, b1⟩ := kk T'.heap (locs ++ L) (by rw [e1]; exact hP') hS' T' rfl X'
  exact ⟨t2, go t2 a1, b1⟩
theorem sr_callV (C : sm_C κ own cc nL d) {b ci : Nat} {r : vw_C} (hY : sm_YV y cc1 nL1 ret1 n) (hl : Cond.methodLink own idx y ∈ lw_w) (hM : sm_Mt d1 y cc1 nL1 ret1 (xo κ) (xad κ b :: As) rv f1) (hb : kd b = ci) (hci : ci < 20) (hc : classes[ci]? = some r) (hcl : r.1 = y.cls) (hn : As.length = n) (hdd : d1 + 1 ≤ d) (hnl : nL1 ≤ 45) (hs8 : (st.map fun v => v.category).sum ≤ 8) (hstk : stk = As.reverse ++ xad κ b :: st) (hd : decode cc pc = .ok (.invokevirtual idx, 3)) (hq : pc + 3 = q)
    (h : ∀ a, sm_S κ ex (.inl (q, L, (rv a).toList ++ st)) (k a)) : sm_S κ ex (.inl (pc, L, stk)) (m_bnd f1 k) := by
  subst hq; subst hstk
  intro μ H locs a μ' a1 a2 a3 a4 ls hls
  unfold m_bnd at a3
  cases hf : f1 μ with
  | none => rw [hf] at a3; cases a3
  | some z =>
    obtain ⟨b1, μ1⟩ := z
    rw [hf] at a3
    have hts := C.2.2.2.2.1
    have he : (sm_ws (xo κ) μ)[b]? = some ((xo κ).1 + b, .inr (ci, (List.range (fcL.getD ci []).length).map (sm_fv (xo κ) μ b))) := by
      rw [sm_ws_get (sm_kd hb (by omega)), sm_cell_o (by omega), hb]
    have hrecv := va_recv (s := xs κ) C.2.2.2.2.2.1 a1 hc he
    rw [hcl] at hrecv
    refine sm_after (b := b1) a2 (W.runV (C := y.cls) (bytes := cc1) (maxL := nL1) (ret := ret1) (n := n) (As := As) (b := (xo κ).1 + b) ⟨C.1, C.2.1, C.2.2.1, C.2.2.2.1, hts⟩ (hM (xl κ) μ b1 μ1 hf) ⟨sm_callB C hY.1 hl hdd hnl, hts _ hY.2.1, hts _ hY.2.2⟩ ⟨sm_blind, hrecv, fun U hU hW => sm_pre C a1 a2 U hU hW⟩ rfl hn (hls.1.trans C.2.2.1) rfl (lv_room hs8) hd ⟨C.2.2.2.2.2.2.2.2.2.2.1, C.2.2.2.2.2.2.2.2.2.2.2⟩) (fun H' locs' c1 c2 => ?_)
    exact h b1 μ1 H' locs' a μ' c1 c2 a3 a4 ls hls
theorem sr_callS (C : sm_C κ own cc nL d) (hY : sm_YS y cc1 nL1 ret1 n) (hl : Cond.methodLink own idx y ∈ lw_w) (hM : sm_Mt d1 y cc1 nL1 ret1 (xo κ) As rv f1) (hn : As.length = n) (hdd : d1 + 1 ≤ d) (hnl : nL1 ≤ 45) (hs8 : (st.map fun v => v.category).sum ≤ 8) (hstk : stk = As.reverse ++ st) (hd : decode cc pc = .ok (.invokestatic idx, 3)) (hq : pc + 3 = q)
    (h : ∀ a, sm_S κ ex (.inl (q, L, (rv a).toList ++ st)) (k a)) : sm_S κ ex (.inl (pc, L, stk)) (m_bnd f1 k) := by
  subst hq; subst hstk
  intro μ H locs a μ' a1 a2 a3 a4 ls hls
  unfold m_bnd at a3
  cases hf : f1 μ with
  | none => rw [hf] at a3; cases a3
  | some z =>
    obtain ⟨b1, μ1⟩ := z
    rw [hf] at a3
    have hts := C.2.2.2.2.1
    refine sm_after (b := b1) a2 (W.runS (bytes := cc1) (maxL := nL1) (ret := ret1) (n := n) (As := As) ⟨C.1, C.2.1, C.2.2.1, C.2.2.2.1, hts⟩ (hM (xl κ) μ b1 μ1 hf) ⟨sm_callB C hY.1 hl hdd hnl, hts _ hY.2⟩ ⟨sm_blind, fun U hU hW => sm_pre C a1 a2 U hU hW⟩ rfl hn (hls.1.trans C.2.2.1) rfl (lv_room hs8) hd ⟨C.2.2.2.2.2.2.2.2.2.2.1, C.2.2.2.2.2.2.2.2.2.2.2⟩) (fun H' locs' c1 c2 => ?_)
    exact h b1 μ1 H' locs' a μ' c1 c2 a3 a4 ls hls
end CA
/-! the calls by what comes back; naming what lies on the stack -/
section CB
variable {κ : sm_X} {own : String} {cc : ByteArray} {nL d : Nat} {α : Type} {ex : α → sm_G} {pc q idx : Nat} {L : List (Option Value)} {st stk : List Value}
variable {y : MethodName} {cc1 : ByteArray} {nL1 d1 n : Nat} {ret1 : Option FieldType} {As : List Value}
theorem sr_nmi {x : Int32} {k : Int32 → sm_M α} (h : ∀ y, sm_S κ ex (.inl (pc, L, .int y :: st)) (k y)) : sm_S κ ex (.inl (pc, L, .int x :: st)) (m_nm x k) := h x
theorem sr_nml {x : Int64} {k : Int64 → sm_M α} (h : ∀ y, sm_S κ ex (.inl (pc, L, .long y :: st)) (k y)) : sm_S κ ex (.inl (pc, L, .long x :: st)) (m_nm x k) := h x
theorem sr_cVi (C : sm_C κ own cc nL d) {b ci : Nat} {r : vw_C} {f1 : sm_M Int32} {k : Int32 → sm_M α} (hY : sm_YV y cc1 nL1 ret1 n) (hl : Cond.methodLink own idx y ∈ lw_w) (hM : sm_Mt d1 y cc1 nL1 ret1 (xo κ) (xad κ b :: As) (fun a => some (.int a)) f1) (hb : kd b = ci) (hci : ci < 20) (hc : classes[ci]? = some r) (hcl : r.1 = y.cls) (hn : As.length = n) (hdd : d1 + 1 ≤ d) (hnl : nL1 ≤ 45) (hs8 : (st.map fun v => v.category).sum ≤ 8) (hstk : stk = As.reverse ++ xad κ b :: st) (hd : decode cc pc = .ok (.invokevirtual idx, 3)) (hq : pc + 3 = q)
    (h : ∀ a, sm_S κ ex (.inl (q, L, .int a :: st)) (k a)) : sm_S κ ex (.inl (pc, L, stk)) (m_bnd f1 k) := sr_callV C hY hl hM hb hci hc hcl hn hdd hnl hs8 hstk hd hq h
theorem sr_cVz (C : sm_C κ own cc nL d) {b ci : Nat} {r : vw_C} {f1 : sm_M Bool} {k : Bool → sm_M α} (hY : sm_YV y cc1 nL1 ret1 n) (hl : Cond.methodLink own idx y ∈ lw_w) (hM : sm_Mt d1 y cc1 nL1 ret1 (xo κ) (xad κ b :: As) (fun a => some (.int (bI a))) f1) (hb : kd b = ci) (hci : ci < 20) (hc : classes[ci]? = some r) (hcl : r.1 = y.cls) (hn : As.length = n) (hdd : d1 + 1 ≤ d) (hnl : nL1 ≤ 45) (hs8 : (st.map fun v => v.category).sum ≤ 8) (hstk : stk = As.reverse ++ xad κ b :: st) (hd : decode cc pc = .ok (.invokevirtual idx, 3)) (hq : pc + 3 = q)
    (h : ∀ a, sm_S κ ex (.inl (q, L, .int (bI a) :: st)) (k a)) : sm_S κ ex (.inl (pc, L, stk)) (m_bnd f1 k) := sr_callV C hY hl hM hb hci hc hcl hn hdd hnl hs8 hstk hd hq h
theorem sr_cVl (C : sm_C κ own cc nL d) {b ci : Nat} {r : vw_C} {f1 : sm_M Int64} {k : Int64 → sm_M α} (hY : sm_YV y cc1 nL1 ret1 n) (hl : Cond.methodLink own idx y ∈ lw_w) (hM : sm_Mt d1 y cc1 nL1 ret1 (xo κ) (xad κ b :: As) (fun a => some (.long a)) f1) (hb : kd b = ci) (hci : ci < 20) (hc : classes[ci]? = some r) (hcl : r.1 = y.cls) (hn : As.length = n) (hdd : d1 + 1 ≤ d) (hnl : nL1 ≤ 45) (hs8 : (st.map fun v => v.category).sum ≤ 8) (hstk : stk = As.reverse ++ xad κ b :: st) (hd : decode cc pc = .ok (.invokevirtual idx, 3)) (hq : pc + 3 = q)
    (h : ∀ a, sm_S κ ex (.inl (q, L, .long a :: st)) (k a)) : sm_S κ ex (.inl (pc, L, stk)) (m_bnd f1 k) := sr_callV C hY hl hM hb hci hc hcl hn hdd hnl hs8 hstk hd hq h
theorem sr_cVv (C : sm_C κ own cc nL d) {b ci : Nat} {r : vw_C} {f1 : sm_M Unit} {k : Unit → sm_M α} (hY : sm_YV y cc1 nL1 ret1 n) (hl : Cond.methodLink own idx y ∈ lw_w) (hM : sm_Mt d1 y cc1 nL1 ret1 (xo κ) (xad κ b :: As) (fun _ => none) f1) (hb : kd b = ci) (hci : ci < 20) (hc : classes[ci]? = some r) (hcl : r.1 = y.cls) (hn : As.length = n) (hdd : d1 + 1 ≤ d) (hnl : nL1 ≤ 45) (hs8 : (st.map fun v => v.category).sum ≤ 8) (hstk : stk = As.reverse ++ xad κ b :: st) (hd : decode cc pc = .ok (.invokevirtual idx, 3)) (hq : pc + 3 = q)
    (h : ∀ a, sm_S κ ex (.inl (q, L, st)) (k a)) : sm_S κ ex (.inl (pc, L, stk)) (m_bnd f1 k) := sr_callV C hY hl hM hb hci hc hcl hn hdd hnl hs8 hstk hd hq h
theorem sr_cSi (C : sm_C κ own cc nL d) {f1 : sm_M Int32} {k : Int32 → sm_M α} (hY : sm_YS y cc1 nL1 ret1 n) (hl : Cond.methodLink own idx y ∈ lw_w) (hM : sm_Mt d1 y cc1 nL1 ret1 (xo κ) As (fun a => some (.int a)) f1) (hn : As.length = n) (hdd : d1 + 1 ≤ d) (hnl : nL1 ≤ 45) (hs8 : (st.map fun v => v.category).sum ≤ 8) (hstk : stk = As.reverse ++ st) (hd : decode cc pc = .ok (.invokestatic idx, 3)) (hq : pc + 3 = q)
    (h : ∀ a, sm_S κ ex (.inl (q, L, .int a :: st)) (k a)) : sm_S κ ex (.inl (pc, L, stk)) (m_bnd f1 k) := sr_callS C hY hl hM hn hdd hnl hs8 hstk hd hq h
theorem sr_cSz (C : sm_C κ own cc nL d) {f1 : sm_M Bool} {k : Bool → sm_M α} (hY : sm_YS y cc1 nL1 ret1 n) (hl : Cond.methodLink own idx y ∈ lw_w) (hM : sm_Mt d1 y cc1 nL1 ret1 (xo κ) As (fun a => some (.int (bI a))) f1) (hn : As.length = n) (hdd : d1 + 1 ≤ d) (hnl : nL1 ≤ 45) (hs8 : (st.map fun v => v.category).sum ≤ 8) (hstk : stk = As.reverse ++ st) (hd : decode cc pc = .ok (.invokestatic idx, 3)) (hq : pc + 3 = q)
    (h : ∀ a, sm_S κ ex (.inl (q, L, .int (bI a) :: st)) (k a)) : sm_S κ ex (.inl (pc, L, stk)) (m_bnd f1 k) := sr_callS C hY hl hM hn hdd hnl hs8 hstk hd hq h
theorem sr_cSl (C : sm_C κ own cc nL d) {f1 : sm_M Int64} {k : Int64 → sm_M α} (hY : sm_YS y cc1 nL1 ret1 n) (hl : Cond.methodLink own idx y ∈ lw_w) (hM : sm_Mt d1 y cc1 nL1 ret1 (xo κ) As (fun a => some (.long a)) f1) (hn : As.length = n) (hdd : d1 + 1 ≤ d) (hnl : nL1 ≤ 45) (hs8 : (st.map fun v => v.category).sum ≤ 8) (hstk : stk = As.reverse ++ st) (hd : decode cc pc = .ok (.invokestatic idx, 3)) (hq : pc + 3 = q)
    (h : ∀ a, sm_S κ ex (.inl (q, L, .long a :: st)) (k a)) : sm_S κ ex (.inl (pc, L, stk)) (m_bnd f1 k) := sr_callS C hY hl hM hn hdd hnl hs8 hstk hd hq h
theorem sr_cSv (C : sm_C κ own cc nL d) {f1 : sm_M Unit} {k : Unit → sm_M α} (hY : sm_YS y cc1 nL1 ret1 n) (hl : Cond.methodLink own idx y ∈ lw_w) (hM : sm_Mt d1 y cc1 nL1 ret1 (xo κ) As (fun _ => none) f1) (hn : As.length = n) (hdd : d1 + 1 ≤ d) (hnl : nL1 ≤ 45) (hs8 : (st.map fun v => v.category).sum ≤ 8) (hstk : stk = As.reverse ++ st) (hd : decode cc pc = .ok (.invokestatic idx, 3)) (hq : pc + 3 = q)
    (h : ∀ a, sm_S κ ex (.inl (q, L, st)) (k a)) : sm_S κ ex (.inl (pc, L, stk)) (m_bnd f1 k) := sr_callS C hY hl hM hn hdd hnl hs8 hstk hd hq h
/-- a boolean that was joined as an int -/
theorem sr_zreturn (C : sm_C κ own cc nL d) {x : Int32} {ex : Bool → sm_G} (he : ∀ b, ex b = .inr (some (.int (bI b)))) (hd : decode cc pc = .ok (.ireturn, 1)) : sm_S κ ex (.inl (pc, L, [.int x])) (m_gd (bI (decide (x = 1)) = x) (m_ret (decide (x = 1)))) :=
  sr_gd fun hc => sr_ireturn C _ (by rw [he, hc]) hd
theorem bI_nar (b : Bool) : narrow .boolean (.int (bI b)) = .int (bI b) := by cases b <;> rfl
end CB
theorem kt {a k ci t : Nat} (ha : kd a = ci) (h : ci < 20 ∧ fc ci k = 2 ∧ tk ci k = t) : kd (lk a k) = t := by
  rw [lk_ok (by rw [ha]; exact h.1) (by rw [ha]; exact h.2.1), ha]
  exact h.2.2
theorem bI_fit (b : Bool) : fits .boolean (.int (bI b)) = true := by cases b <;> rfl
/-! Math.min, Math.max: the machine's own -/
def jmin (x y : Int32) : Int32 := if y < x then y else x
def jmax (x y : Int32) : Int32 := if x < y then y else x
def jmaxl (x y : Int64) : Int64 := if y < x then x else y
set_option maxRecDepth 100000 in
theorem jmin_w : Cond.static Lib.Math.min.name ∈ lw_w ∧ Cond.initialized "java/lang/Math" ∈ lw_w ∧ Cond.code Lib.Math.min.name Lib.Math.min.code 2 (some .int) ∈ lw_w := ⟨lw_m (lt3 (List.mem_of_getElem? (i := 40) rfl)) rfl, lw_m (lt1 (List.mem_of_getElem? (i := 15) rfl)) rfl, lw_m (lt3 (List.mem_of_getElem? (i := 41) rfl)) rfl⟩
set_option maxRecDepth 100000 in
theorem jmax_w : Cond.static Lib.Math.max.name ∈ lw_w ∧ Cond.initialized "java/lang/Math" ∈ lw_w ∧ Cond.code Lib.Math.max.name Lib.Math.max.code 2 (some .int) ∈ lw_w := ⟨lw_m (lt5 (List.mem_of_getElem? (i := 187) rfl)) rfl, lw_m (lt1 (List.mem_of_getElem? (i := 15) rfl)) rfl, lw_m (lt5 (List.mem_of_getElem? (i := 188) rfl)) rfl⟩
set_option maxRecDepth 100000 in
theorem jmaxl_w : Cond.static Lib.MathLoose.max_long.x ∈ lw_w ∧ Cond.initialized "java/lang/Math" ∈ lw_w ∧ Cond.code Lib.MathLoose.max_long.x Lib.MathLoose.max_long.code 4 (some .long) ∈ lw_w := ⟨lw_m (lt9 (List.mem_of_getElem? (i := 70) rfl)) rfl, lw_m (lt1 (List.mem_of_getElem? (i := 15) rfl)) rfl, lw_m (lt9 (List.mem_of_getElem? (i := 71) rfl)) rfl⟩
section MM
variable {κ : sm_X} {own : String} {cc : ByteArray} {nL d : Nat} {α : Type} {ex : α → sm_G} {f : sm_M α} {pc q idx : Nat} {L : List (Option Value)} {st : List Value}
theorem sr_jmin (C : sm_C κ own cc nL d) {x y : Int32} (hl : Cond.methodLink own idx Lib.Math.min.name ∈ lw_w) (hdd : 1 ≤ d) (hst : (st.map fun v => v.category).sum + 13 ≤ 64) (hd : decode cc pc = .ok (.invokestatic idx, 3)) (hq : pc + 3 = q) (k : sm_S κ ex (.inl (q, L, .int (jmin x y) :: st)) f) : sm_S κ ex (.inl (pc, L, .int y :: .int x :: st)) f := by
  subst hq
  have hts := C.2.2.2.2.1
  have h1 := C.2.2.2.2.2.2.2.2.1
  have h2 := C.2.2.2.2.2.2.2.2.2.1
  exact sr_step (fun H locs ls hl1 w => va_mmin C.1 C.2.1 hl1.1.symm C.2.2.2.1 (hts _ hl) (hts _ jmin_w.1) (hts _ jmin_w.2.1) (hts _ jmin_w.2.2) (by omega) (by omega) C.2.2.2.2.2.2.2.2.2.2.1 C.2.2.2.2.2.2.2.2.2.2.2 hd (w ls hl1)) k
theorem sr_jmax (C : sm_C κ own cc nL d) {x y : Int32} (hl : Cond.methodLink own idx Lib.Math.max.name ∈ lw_w) (hdd : 1 ≤ d) (hst : (st.map fun v => v.category).sum + 13 ≤ 64) (hd : decode cc pc = .ok (.invokestatic idx, 3)) (hq : pc + 3 = q) (k : sm_S κ ex (.inl (q, L, .int (jmax x y) :: st)) f) : sm_S κ ex (.inl (pc, L, .int y :: .int x :: st)) f := by
  subst hq
  have hts := C.2.2.2.2.1
  have h1 := C.2.2.2.2.2.2.2.2.1
  have h2 := C.2.2.2.2.2.2.2.2.2.1
  exact sr_step (fun H locs ls hl1 w => va_mmax C.1 C.2.1 hl1.1.symm C.2.2.2.1 (hts _ hl) (hts _ jmax_w.1) (hts _ jmax_w.2.1) (hts _ jmax_w.2.2) (by omega) (by omega) C.2.2.2.2.2.2.2.2.2.2.1 C.2.2.2.2.2.2.2.2.2.2.2 hd (w ls hl1)) k
theorem sr_jmaxl (C : sm_C κ own cc nL d) {x y : Int64} (hl : Cond.methodLink own idx Lib.MathLoose.max_long.x ∈ lw_w) (hdd : 1 ≤ d) (hst : (st.map fun v => v.category).sum + 15 ≤ 64) (hd : decode cc pc = .ok (.invokestatic idx, 3)) (hq : pc + 3 = q) (k : sm_S κ ex (.inl (q, L, .long (jmaxl x y) :: st)) f) : sm_S κ ex (.inl (pc, L, .long y :: .long x :: st)) f := by
  subst hq
  have hts := C.2.2.2.2.1
  have h1 := C.2.2.2.2.2.2.2.2.1
  have h2 := C.2.2.2.2.2.2.2.2.2.1
  exact sr_step (fun H locs ls hl1 w => va_mmax_long C.1 C.2.1 hl1.1.symm C.2.2.2.1 (hts _ hl) (hts _ jmaxl_w.1) (hts _ jmaxl_w.2.1) (hts _ jmaxl_w.2.2) (by omega) (by omega) C.2.2.2.2.2.2.2.2.2.2.1 C.2.2.2.2.2.2.2.2.2.2.2 hd (w ls hl1)) k
end MM
