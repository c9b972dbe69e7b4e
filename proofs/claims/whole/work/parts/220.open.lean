/-! THE CLAIM OUT OF ONE WALK OF THE LAW'S BODY. Your part is whole_start (and what it stands on); all else here is the same for every law, but numbers. -/
def lw_P (b : Addr) (xs : List Int32) (args : Array Value) (s : State) : Prop := args = #[.ref b] ∧ s.IntsAt b xs ∧ xs.length ≤ 3072 ∧ (Jvm.Cond.and given_1 narrow_1).before args s = true
def lw_Q (_ : Array Value) (s : State) (o : Outcome) (t : State) : Prop := o = .returned (some (.int 1)) ∧ Framed s o t [] 600000 7302250
def lw_Z (below : List Frame) (a : Array Value) (s : State) : State → Prop := fun t => ∃ o, t.status = .running ∧ Ended t below o ∧ lw_Q a s o t
/-- the law's own end, with 1 on the stack, nothing written that was there before, its room as the claim has it -/
theorem lw_ret {p : Program} {l : Launch} {e : Env} {s : State} {m : MethodId} {below : List Frame} {meth : Method} {c : Code} {b : Nat} (hx : p.tables.exec = Jvm.exec) (hb : c.code = code) (hr : meth.sig.returnType = ret) (hlocks : meth.locks = false) {pc : Nat} {H : Heap} {ls : Array Slot} (hdg : decode code pc = .ok (.ireturn, 1)) : W p l e room_1 s m #[Value.ref b] below meth c H [] 600000 7302250 (lw_Z below #[Value.ref b] s) (F0 m pc ls [.int 1]) := by
  intro T hT X
  obtain ⟨fs, hret, hrun, hended, hW, hframe⟩ := X.leave (v := some (.int 1)) (hlocks := hlocks) (fun h => by rw [hr] at h; cases h)
  have hmeth' : T.vm.method? m = some meth := X.method'
  refine ⟨T.setFrames fs, ?_, .returned (some (.int 1)), hrun, hended, rfl, ⟨_, rfl⟩, hW, hframe⟩
  jvm_step X.here [X.here.top, hx, hb, hdg, hmeth', hr, ret, narrow_b1]
  (try refine ⟨rfl, ?_⟩); (try refine ⟨rfl, ?_⟩)
  first | (intro acts; rw [hret _ acts rfl rfl rfl]) | rw [hret _ _ rfl rfl rfl]
  exact Steps.refl _
/-- what holds at the law's entry: the machine, the code, the tables' words (any of lw_tbl by 'hts w (by decide +kernel)'), the script of L ints xs at the cell b, what the Statement gives of the start (any of its parts by flat_of_before) -/
def lw_At (p : Program) (s : State) (m : MethodId) (meth : Method) (c : Code) (b L : Nat) (xs : Nat → Int32) : Prop :=
  p.tables.exec = Jvm.exec ∧ c.code = code ∧ meth.sig.returnType = ret ∧ c.maxLocals = 4 ∧ s.vm.findClass R_law = some m.cls ∧ (∀ w ∈ lw_tbl, w.before #[Value.ref b] s = true) ∧ va_X b L xs s s.heap ∧ b < s.heap.size ∧ meth.locks = false ∧ (Jvm.Cond.and given_1 narrow_1).before #[Value.ref b] s = true
theorem nest_in : ∀ z ∈ nestT, Cond.methodLinkNest z.1 z.2.1 z.2.2 "BearsTwo" ∈ lw_tbl := by decide +kernel
/-- THE PURE STATEMENT: on every script class and reference answer alike, from the first memory on -/
def PureLaw : Prop := ∀ (sx : Nat → Int32) (Ln : Nat), Ln ≤ 3072 → ∃ μ' : sm_Mem, fnL_law_L18 sx Ln 4096 0 146 (0 : Int32) μ0 = some (true, μ')
set_option maxHeartbeats 4000000 in
set_option maxRecDepth 100000 in
theorem whole_start_open (hpure : PureLaw) {p : Program} {e : Env} {s : State} {m : MethodId} {below : List Frame} {meth : Method} {c : Code} (l : Launch) {b L : Nat} {xs1 : Nat → Int32} (hL : L ≤ 3072) (C0 : lw_At p s m meth c b L xs1) : W p l e room_1 s m #[Value.ref b] below meth c s.heap [] 0 0 (lw_Z below #[Value.ref b] s) (entryFrame m ([Value.ref b] : List Value).toArray 4) := by
  obtain ⟨hx, hb, hr, hml, hown, hts, hX, hbl, hlocks, hgv⟩ := id C0
  obtain ⟨D, cA, hK⟩ := law_K hts
  obtain ⟨adK, adV, hSt⟩ := law_St hts (flat_of_before _ hgv) D cA
  obtain ⟨μ', hμ⟩ := hpure xs1 L hL
  let κ : sm_X := (p, l, e, room_1, s, m, #[Value.ref b], below, meth, c, lw_Z below #[Value.ref b] s, 172, 12826, (s.heap.size, D, cA, adK, adV))
  have C : tC κ "BearsTwoLaw" code 4 16 0 := ⟨rfl, hx, hb, hml, hown, fun w h => hts w (lw_m1 h), hK _ _ _, Nat.le_refl _, Nat.le_of_ble_eq_true rfl, Nat.le_of_ble_eq_true rfl, fun z hz => va_Nw.of rfl (hts _ (nest_in z hz)), va_AO.of (hts (.arrayOver (.object RX9)) (lt2 (List.mem_of_getElem? (i := 51) rfl))), va_AO.of (hts (.arrayOver (.object RX8)) (lt2 (List.mem_of_getElem? (i := 178) rfl))), va_AO.of (hts (.arrayOver (.object RX7)) (lt2 (List.mem_of_getElem? (i := 179) rfl)))⟩
  have Cm : sm_C κ R_law cL_law 4 16 := ⟨hx, hb, hml, hown, fun w h => hts w (lw_m1 h), hK _ _ _, hSt, Nat.le_refl _, Nat.le_of_ble_eq_true rfl, Nat.le_of_ble_eq_true rfl, Nat.le_of_ble_eq_true rfl, Nat.le_of_ble_eq_true rfl⟩
  have hbA : ¬ sm_A (xo κ) b := Nat.not_le.mpr hbl
  rw [lg_entry_eq]
  have key : tT κ 0 0 0 [some (.ref b), none, none, none] [] [] := by
    refine law_entry C rfl rfl ?_
    intro H locs h1 h2 ls hls
    refine slL_law_L18 Cm hX hbl hbA 4096 0 146 (0 : Int32) kd_0 kd_146 μ0 H locs true μ' (w0 h1) h2 hμ ?_ ls hls
    intro H' locs' a1 a2 pc ls' hd
    refine va_forget (fun q hq => a2.2.2 q hq) ?_
    refine W.widen (k := 600000) (n := 7302250) (Nat.le_of_ble_eq_true rfl) (Nat.le_of_ble_eq_true rfl) ?_
    exact lw_ret hx hb hr hlocks (by rw [← hb]; exact hd)
  refine key s.heap [] (fun k q h => by simp [cw] at h) va_S.rf _ ?_
  rw [show (xc κ).maxLocals = 4 from hml]
  exact sm_entry (vs := [.ref b]) (n := 4) (Nat.le_of_ble_eq_true rfl)
