/-! ===== the JDK's String methods on the String constants ===== -/
abbrev xsv (κ : sm_X) (i : Nat) : Value := .ref ((xo κ).2.2.2.2 i)
/-- a char as it is returned -/
def cN (x : Int32) : Int32 := (x.toUInt32 % 65536).toInt32
theorem cN_nar (x : Int32) : narrow .char (.int (cN x)) = .int (cN x) := by
  show Value.int ((cN x).toUInt32.toUInt16.toUInt32.toInt32) = Value.int (cN x)
  unfold cN
  have h : (x.toUInt32 % 65536).toInt32.toUInt32 = x.toUInt32 % 65536 := by simp
  rw [h]
  congr 2
  apply UInt32.toNat_inj.mp
  simp
section SS
variable {κ : sm_X} {own : String} {cc : ByteArray} {nL d : Nat} {α β : Type} {ex : α → sm_G} {f g : sm_M α} {pc q idx i : Nat} {L L' : List (Option Value)} {st stk : List Value}
theorem sm_str (C : sm_C κ own cc nL d) : vk_S strN strLen strByt (xo κ).2.2.2.1 (xo κ).2.2.2.2 (sm_A (xo κ)) (xs κ) (xs κ).heap := C.2.2.2.2.2.2.1.2.1
theorem sr_gsv (C : sm_C κ own cc nL d) (hi : i < strN) (hl : Cond.fieldLink own idx "java/lang/String" "value" "[B" ∈ lw_w) (hd : decode cc pc = .ok (.getfield idx, 3)) (hq : pc + 3 = q) (h : sm_S κ ex (.inl (q, L, xsv κ i :: st)) f) : sm_S κ ex (.inl (pc, L, xst κ i :: st)) f := by
  subst hq
  intro μ H locs b μ' a1 a2 a3 a4 ls hls
  exact vk_getf C.1 C.2.1 ((sm_str C).1 i hi).2.2.1 a2 C.2.2.2.1 (C.2.2.2.2.1 _ hl) (fun _ h => h) hd (h μ H locs b μ' a1 a2 a3 a4 ls hls)
theorem sr_gsc (C : sm_C κ own cc nL d) (hi : i < strN) (hl : Cond.fieldLink own idx "java/lang/String" "coder" "B" ∈ lw_w) (hd : decode cc pc = .ok (.getfield idx, 3)) (hq : pc + 3 = q) (h : sm_S κ ex (.inl (q, L, .int 0 :: st)) f) : sm_S κ ex (.inl (pc, L, xst κ i :: st)) f := by
  subst hq
  intro μ H locs b μ' a1 a2 a3 a4 ls hls
  exact vk_getf C.1 C.2.1 ((sm_str C).1 i hi).2.1 a2 C.2.2.2.1 (C.2.2.2.2.1 _ hl) (fun _ h => h) hd (h μ H locs b μ' a1 a2 a3 a4 ls hls)
theorem sr_gss (C : sm_C κ own cc nL d) (hl : Cond.fieldLink own idx "java/lang/String" "COMPACT_STRINGS" "Z" ∈ lw_w) (hd : decode cc pc = .ok (.getstatic idx, 3)) (hq : pc + 3 = q) (h : sm_S κ ex (.inl (q, L, .int 1 :: st)) f) : sm_S κ ex (.inl (pc, L, st)) f := by
  subst hq
  intro μ H locs b μ' a1 a2 a3 a4 ls hls
  exact va_gets C.1 C.2.1 C.2.2.2.2.2.2.1.2.2.1 a2 C.2.2.2.1 (C.2.2.2.2.1 _ hl) (fun _ h => h) hd (h μ H locs b μ' a1 a2 a3 a4 ls hls)
theorem sr_gsq (C : sm_C κ own cc nL d) (hl : Cond.fieldLink own idx "jdk/internal/util/Preconditions" "SIOOBE_FORMATTER" "Ljava/util/function/BiFunction;" ∈ lw_w) (hd : decode cc pc = .ok (.getstatic idx, 3)) (hq : pc + 3 = q) (h : ∀ v : Value, (v = .null ∨ ∃ t, v = .ref t) → sm_S κ ex (.inl (q, L, v :: st)) f) : sm_S κ ex (.inl (pc, L, st)) f := by
  subst hq
  intro μ H locs b μ' a1 a2 a3 a4 ls hls
  rcases C.2.2.2.2.2.2.1.2.2.2.2 with hz | ⟨t, hz⟩
  · exact va_gets C.1 C.2.1 hz a2 C.2.2.2.1 (C.2.2.2.2.1 _ hl) (fun _ h => h) hd (h .null (Or.inl rfl) μ H locs b μ' a1 a2 a3 a4 ls hls)
  · exact va_gets C.1 C.2.1 hz a2 C.2.2.2.1 (C.2.2.2.2.1 _ hl) (fun _ h => h) hd (h (.ref t) (Or.inr ⟨t, rfl⟩) μ H locs b μ' a1 a2 a3 a4 ls hls)
theorem sr_stl (C : sm_C κ own cc nL d) (hi : i < strN) (hd : decode cc pc = .ok (.arraylength, 1)) (hq : pc + 1 = q) (h : sm_S κ ex (.inl (q, L, .int (nI (strLen.getD i 0)) :: st)) f) : sm_S κ ex (.inl (pc, L, xsv κ i :: st)) f := by
  subst hq
  intro μ H locs b μ' a1 a2 a3 a4 ls hls
  exact va_tlen C.1 C.2.1 ((sm_str C).1 i hi).2.2.2 a2 rfl hd (h μ H locs b μ' a1 a2 a3 a4 ls hls)
theorem sr_stb (C : sm_C κ own cc nL d) (hi : i < strN) {k : Int32} (hk : ¬ (k < 0 ∨ strLen.getD i 0 ≤ k.toNatClampNeg)) (hd : decode cc pc = .ok (.baload, 1)) (hq : pc + 1 = q) (h : sm_S κ ex (.inl (q, L, .int ((strByt.getD i []).getD k.toNatClampNeg 0) :: st)) f) : sm_S κ ex (.inl (pc, L, .int k :: xsv κ i :: st)) f := by
  subst hq
  intro μ H locs b μ' a1 a2 a3 a4 ls hls
  exact va_tb C.1 C.2.1 ((sm_str C).1 i hi).2.2.2 a2 hk rfl hd (h μ H locs b μ' a1 a2 a3 a4 ls hls)
theorem sr_i2c (C : sm_C κ own cc nL d) {x : Int32} (hd : decode cc pc = .ok (.i2c, 1)) (hq : pc + 1 = q) (k : sm_S κ ex (.inl (q, L, .int (cN x) :: st)) f) : sm_S κ ex (.inl (pc, L, .int x :: st)) f := by
  subst hq
  exact sr_step (fun H locs ls hl w => lv_i2c C.1 C.2.1 hd rfl (w ls hl)) k
variable {y : MethodName} {cc1 : ByteArray} {nL1 d1 n : Nat} {ret1 : Option FieldType} {rv : β → Option Value} {f1 : sm_M β} {k : β → sm_M α} {As : List Value}
theorem sr_callT (C : sm_C κ own cc nL d) (hY : sm_YV y cc1 nL1 ret1 n) (hl : Cond.methodLink own idx y ∈ lw_w) (hM : sm_Mt d1 y cc1 nL1 ret1 (xo κ) (xst κ i :: As) rv f1) (hi : i < strN) (hcl : "java/lang/String" = y.cls) (hn : As.length = n) (hdd : d1 + 1 ≤ d) (hnl : nL1 ≤ 45) (hs8 : (st.map fun v => v.category).sum ≤ 8) (hstk : stk = As.reverse ++ xst κ i :: st) (hd : decode cc pc = .ok (.invokevirtual idx, 3)) (hq : pc + 3 = q)
    (h : ∀ a, sm_S κ ex (.inl (q, L, (rv a).toList ++ st)) (k a)) : sm_S κ ex (.inl (pc, L, stk)) (m_bnd f1 k) := by
  subst hq; subst hstk
  intro μ H locs a μ' a1 a2 a3 a4 ls hls
  unfold m_bnd at a3
  cases hf : f1 μ with
  | none => rw [hf] at a3; cases a3
  | some z =>
    obtain ⟨b1, μ1⟩ := z
    rw [hf] at a3
    have hts := C.2.2.2.2.1
    have hrecv := vk_recv (sm_str C) hi a2
    rw [hcl] at hrecv
    refine sm_after (b := b1) a2 (W.runV (C := y.cls) (bytes := cc1) (maxL := nL1) (ret := ret1) (n := n) (As := As) (b := (xo κ).2.2.2.1 i) ⟨C.1, C.2.1, C.2.2.1, C.2.2.2.1, hts⟩ (hM (xl κ) μ b1 μ1 hf) ⟨sm_callB C hY.1 hl hdd hnl, hts _ hY.2.1, hts _ hY.2.2⟩ ⟨sm_blind, hrecv, fun U hU hW => sm_pre C a1 a2 U hU hW⟩ rfl hn (hls.1.trans C.2.2.1) rfl (lv_room hs8) hd ⟨C.2.2.2.2.2.2.2.2.2.2.1, C.2.2.2.2.2.2.2.2.2.2.2⟩) (fun H' locs' c1 c2 => ?_)
    exact h b1 μ1 H' locs' a μ' c1 c2 a3 a4 ls hls
end SS
section SU
variable {κ : sm_X} {own : String} {cc : ByteArray} {nL d : Nat} {α : Type} {ex : α → sm_G} {f g : sm_M α} {pc q idx b : Nat} {L L' : List (Option Value)} {st stk : List Value}
variable {y : MethodName} {cc1 : ByteArray} {nL1 d1 n : Nat} {ret1 : Option FieldType} {As : List Value} {f1 : sm_M Int32} {k : Int32 → sm_M α}
theorem sr_cTi (C : sm_C κ own cc nL d) (hY : sm_YV y cc1 nL1 ret1 n) (hl : Cond.methodLink own idx y ∈ lw_w) (hM : sm_Mt d1 y cc1 nL1 ret1 (xo κ) (xst κ b :: As) (fun a => some (.int a)) f1) (hi : b < strN) (hcl : "java/lang/String" = y.cls) (hn : As.length = n) (hdd : d1 + 1 ≤ d) (hnl : nL1 ≤ 45) (hs8 : (st.map fun v => v.category).sum ≤ 8) (hstk : stk = As.reverse ++ xst κ b :: st) (hd : decode cc pc = .ok (.invokevirtual idx, 3)) (hq : pc + 3 = q)
    (h : ∀ a, sm_S κ ex (.inl (q, L, .int a :: st)) (k a)) : sm_S κ ex (.inl (pc, L, stk)) (m_bnd f1 k) := sr_callT C hY hl hM hi hcl hn hdd hnl hs8 hstk hd hq h
theorem sr_cTc (C : sm_C κ own cc nL d) (hY : sm_YV y cc1 nL1 ret1 n) (hl : Cond.methodLink own idx y ∈ lw_w) (hM : sm_Mt d1 y cc1 nL1 ret1 (xo κ) (xst κ b :: As) (fun a => some (.int (cN a))) f1) (hi : b < strN) (hcl : "java/lang/String" = y.cls) (hn : As.length = n) (hdd : d1 + 1 ≤ d) (hnl : nL1 ≤ 45) (hs8 : (st.map fun v => v.category).sum ≤ 8) (hstk : stk = As.reverse ++ xst κ b :: st) (hd : decode cc pc = .ok (.invokevirtual idx, 3)) (hq : pc + 3 = q)
    (h : ∀ a, sm_S κ ex (.inl (q, L, .int (cN a) :: st)) (k a)) : sm_S κ ex (.inl (pc, L, stk)) (m_bnd f1 k) := sr_callT C hY hl hM hi hcl hn hdd hnl hs8 hstk hd hq h
theorem sr_if_eqN (C : sm_C κ own cc nL d) {x : Int32} {off : Int} (t : Nat) (hd : decode cc pc = .ok (.ifCond .eq off, 3)) (ht : (pc : Int) + off = (t : Int)) (hx : ¬ x = 0) (hq : pc + 3 = q) (k : sm_S κ ex (.inl (q, L, st)) f) : sm_S κ ex (.inl (pc, L, .int x :: st)) f := by
  subst hq
  exact sr_step (fun H locs ls hl w => lv_if_eq C.1 C.2.1 hd ht (fun hc => absurd hc hx) (fun _ => w ls hl)) k
theorem sr_if_neN (C : sm_C κ own cc nL d) {x : Int32} {off : Int} (t : Nat) (hd : decode cc pc = .ok (.ifCond .ne off, 3)) (ht : (pc : Int) + off = (t : Int)) (hx : x = 0) (hq : pc + 3 = q) (k : sm_S κ ex (.inl (q, L, st)) f) : sm_S κ ex (.inl (pc, L, .int x :: st)) f := by
  subst hq
  exact sr_step (fun H locs ls hl w => lv_if_ne C.1 C.2.1 hd ht (fun hc => absurd hx hc) (fun _ => w ls hl)) k
theorem sr_if_ltN (C : sm_C κ own cc nL d) {x : Int32} {off : Int} (t : Nat) (hd : decode cc pc = .ok (.ifCond .lt off, 3)) (ht : (pc : Int) + off = (t : Int)) (hx : ¬ x < 0) (hq : pc + 3 = q) (k : sm_S κ ex (.inl (q, L, st)) f) : sm_S κ ex (.inl (pc, L, .int x :: st)) f := by
  subst hq
  exact sr_step (fun H locs ls hl w => lv_if_lt C.1 C.2.1 hd ht (fun hc => absurd hc hx) (fun _ => w ls hl)) k
theorem sr_icmp_ltT (C : sm_C κ own cc nL d) {x y : Int32} {off : Int} (hd : decode cc pc = .ok (.if_icmp .lt off, 3)) (ht : (pc : Int) + off = (q : Int)) (hx : x < y) (k : sm_S κ ex (.inl (q, L, st)) f) : sm_S κ ex (.inl (pc, L, .int y :: .int x :: st)) f :=
  sr_step (fun H locs ls hl w => lv_icmp_lt C.1 C.2.1 hd ht (fun _ => w ls hl) (fun hc => absurd hx hc)) k
end SU
set_option maxRecDepth 100000 in
theorem yvJ0_coder_7d493 : sm_YV yJ0_coder_7d493 cJ0_coder_7d493 1 (some .byte) 0 := ⟨⟨lw_m (lt3 (List.mem_of_getElem? (i := 72) rfl)) rfl, lw_m (lt1 (List.mem_of_getElem? (i := 16) rfl)) rfl, by decide +kernel, by decide +kernel, by decide +kernel⟩, lw_m (lt3 (List.mem_of_getElem? (i := 70) rfl)) rfl, lw_m (lt3 (List.mem_of_getElem? (i := 71) rfl)) rfl⟩
set_option maxRecDepth 100000 in
theorem yvJ0_isLatin1_aae02 : sm_YV yJ0_isLatin1_aae02 cJ0_isLatin1_aae02 1 (some .boolean) 0 := ⟨⟨lw_m (lt3 (List.mem_of_getElem? (i := 82) rfl)) rfl, lw_m (lt1 (List.mem_of_getElem? (i := 16) rfl)) rfl, by decide +kernel, by decide +kernel, by decide +kernel⟩, lw_m (lt3 (List.mem_of_getElem? (i := 80) rfl)) rfl, lw_m (lt3 (List.mem_of_getElem? (i := 81) rfl)) rfl⟩
set_option maxRecDepth 100000 in
theorem yvJ0_length_8abf5 : sm_YV yJ0_length_8abf5 cJ0_length_8abf5 1 (some .int) 0 := ⟨⟨lw_m (lt3 (List.mem_of_getElem? (i := 68) rfl)) rfl, lw_m (lt1 (List.mem_of_getElem? (i := 16) rfl)) rfl, by decide +kernel, by decide +kernel, by decide +kernel⟩, lw_m (lt3 (List.mem_of_getElem? (i := 66) rfl)) rfl, lw_m (lt3 (List.mem_of_getElem? (i := 67) rfl)) rfl⟩
set_option maxRecDepth 100000 in
theorem yvJ0_charAt_5068e : sm_YV yJ0_charAt_5068e cJ0_charAt_5068e 2 (some .char) 1 := ⟨⟨lw_m (lt3 (List.mem_of_getElem? (i := 78) rfl)) rfl, lw_m (lt1 (List.mem_of_getElem? (i := 16) rfl)) rfl, by decide +kernel, by decide +kernel, by decide +kernel⟩, lw_m (lt3 (List.mem_of_getElem? (i := 76) rfl)) rfl, lw_m (lt3 (List.mem_of_getElem? (i := 77) rfl)) rfl⟩
set_option maxRecDepth 100000 in
theorem ysJ1_charAt_3b067 : sm_YS yJ1_charAt_3b067 cJ1_charAt_3b067 2 (some .char) 2 := ⟨⟨lw_m (lt3 (List.mem_of_getElem? (i := 85) rfl)) rfl, lw_m (lt1 (List.mem_of_getElem? (i := 17) rfl)) rfl, by decide +kernel, by decide +kernel, by decide +kernel⟩, lw_m (lt3 (List.mem_of_getElem? (i := 84) rfl)) rfl⟩
set_option maxRecDepth 100000 in
theorem ysJ0_checkIndex_df160 : sm_YS yJ0_checkIndex_df160 cJ0_checkIndex_df160 2 none 2 := ⟨⟨lw_m (lt3 (List.mem_of_getElem? (i := 88) rfl)) rfl, lw_m (lt1 (List.mem_of_getElem? (i := 16) rfl)) rfl, by decide +kernel, by decide +kernel, by decide +kernel⟩, lw_m (lt3 (List.mem_of_getElem? (i := 87) rfl)) rfl⟩
set_option maxRecDepth 100000 in
theorem ysJ3_checkIndex_8e157 : sm_YS yJ3_checkIndex_8e157 cJ3_checkIndex_8e157 3 (some .int) 3 := ⟨⟨lw_m (lt3 (List.mem_of_getElem? (i := 93) rfl)) rfl, lw_m (lt1 (List.mem_of_getElem? (i := 18) rfl)) rfl, by decide +kernel, by decide +kernel, by decide +kernel⟩, lw_m (lt3 (List.mem_of_getElem? (i := 92) rfl)) rfl⟩
set_option maxRecDepth 100000 in
theorem ml_J0_335 : Cond.methodLink "java/lang/String" 335 yJ0_coder_7d493 ∈ lw_w := lw_m (lt3 (List.mem_of_getElem? (i := 69) rfl)) rfl
set_option maxRecDepth 100000 in
theorem ml_J0_492 : Cond.methodLink "java/lang/String" 492 yJ0_isLatin1_aae02 ∈ lw_w := lw_m (lt3 (List.mem_of_getElem? (i := 79) rfl)) rfl
set_option maxRecDepth 100000 in
theorem ml_J0_495 : Cond.methodLink "java/lang/String" 495 yJ1_charAt_3b067 ∈ lw_w := lw_m (lt3 (List.mem_of_getElem? (i := 83) rfl)) rfl
set_option maxRecDepth 100000 in
theorem ml_J1_9 : Cond.methodLink "java/lang/StringLatin1" 9 yJ0_checkIndex_df160 ∈ lw_w := lw_m (lt3 (List.mem_of_getElem? (i := 86) rfl)) rfl
set_option maxRecDepth 100000 in
theorem ml_J0_1059 : Cond.methodLink "java/lang/String" 1059 yJ3_checkIndex_8e157 ∈ lw_w := lw_m (lt3 (List.mem_of_getElem? (i := 91) rfl)) rfl
set_option maxRecDepth 100000 in
theorem fs_9 : Cond.fieldLink "java/lang/String" 9 "java/lang/String" "value" "[B" ∈ lw_w := lw_m (lt9 (List.mem_of_getElem? (i := 187) rfl)) rfl
set_option maxRecDepth 100000 in
theorem fs_15 : Cond.fieldLink "java/lang/String" 15 "java/lang/String" "coder" "B" ∈ lw_w := lw_m (lt9 (List.mem_of_getElem? (i := 188) rfl)) rfl
set_option maxRecDepth 100000 in
theorem fs_38 : Cond.fieldLink "java/lang/String" 38 "java/lang/String" "COMPACT_STRINGS" "Z" ∈ lw_w := lw_m (lt3 (List.mem_of_getElem? (i := 73) rfl)) rfl
set_option maxRecDepth 100000 in
theorem fs_1053 : Cond.fieldLink "java/lang/String" 1053 "jdk/internal/util/Preconditions" "SIOOBE_FORMATTER" "Ljava/util/function/BiFunction;" ∈ lw_w := lw_m (lt3 (List.mem_of_getElem? (i := 89) rfl)) rfl
set_option maxHeartbeats 4000000 in
set_option maxRecDepth 100000 in
theorem cnJ0_coder_7d493 (ω : sm_O) (i : Nat) (hi : i < strN) : sm_Mt 1 yJ0_coder_7d493 cJ0_coder_7d493 1 (some .byte) ω [.ref (ω.2.2.2.1 i)] (fun _ : Unit => some (.int 0)) (m_ret ()) := by
  refine sm_conI (r := fun _ : Unit => 0) (by decide) (fun _ => rfl) (Nat.le_of_ble_eq_true rfl) ?_
  intro κ hκ C
  subst hκ
  show sm_S κ _ (.inl (0, [some (xst κ i)], [])) _
  refine sr_gss (q := 3) C fs_38 (show decode cJ0_coder_7d493 0 = .ok (.getstatic 38, 3) from by decide +kernel) rfl ?_
  refine sr_if_eqN (q := 6) C 13 (show decode cJ0_coder_7d493 3 = .ok (.ifCond .eq 10, 3) from by decide +kernel) (by decide) (by decide) rfl ?_
  refine sr_aload_n (i := 0) (q := 7) C (show decode cJ0_coder_7d493 6 = .ok (.aload_n 0, 1) from by decide +kernel) rfl rfl rfl ?_
  refine sr_gsc (q := 10) C hi fs_15 (show decode cJ0_coder_7d493 7 = .ok (.getfield 15, 3) from by decide +kernel) rfl ?_
  refine sr_goto (q := 14) C (show decode cJ0_coder_7d493 10 = .ok (.goto 4, 3) from by decide +kernel) (by decide) ?_
  exact sr_ireturn C () rfl (show decode cJ0_coder_7d493 14 = .ok (.ireturn, 1) from by decide +kernel)
set_option maxHeartbeats 4000000 in
set_option maxRecDepth 100000 in
theorem cnJ0_isLatin1_aae02 (ω : sm_O) (i : Nat) (hi : i < strN) : sm_Mt 1 yJ0_isLatin1_aae02 cJ0_isLatin1_aae02 1 (some .boolean) ω [.ref (ω.2.2.2.1 i)] (fun _ : Unit => some (.int 1)) (m_ret ()) := by
  refine sm_conI (r := fun _ : Unit => 1) (by decide) (fun _ => rfl) (Nat.le_of_ble_eq_true rfl) ?_
  intro κ hκ C
  subst hκ
  show sm_S κ _ (.inl (0, [some (xst κ i)], [])) _
  refine sr_gss (q := 3) C fs_38 (show decode cJ0_isLatin1_aae02 0 = .ok (.getstatic 38, 3) from by decide +kernel) rfl ?_
  refine sr_if_eqN (q := 6) C 17 (show decode cJ0_isLatin1_aae02 3 = .ok (.ifCond .eq 14, 3) from by decide +kernel) (by decide) (by decide) rfl ?_
  refine sr_aload_n (i := 0) (q := 7) C (show decode cJ0_isLatin1_aae02 6 = .ok (.aload_n 0, 1) from by decide +kernel) rfl rfl rfl ?_
  refine sr_gsc (q := 10) C hi fs_15 (show decode cJ0_isLatin1_aae02 7 = .ok (.getfield 15, 3) from by decide +kernel) rfl ?_
  refine sr_if_neN (q := 13) C 17 (show decode cJ0_isLatin1_aae02 10 = .ok (.ifCond .ne 7, 3) from by decide +kernel) (by decide) rfl rfl ?_
  refine sr_iconst (v := (1 : Int32)) (q := 14) C (show decode cJ0_isLatin1_aae02 13 = .ok (.iconst 1, 1) from by decide +kernel) (by decide) rfl ?_
  refine sr_goto (q := 18) C (show decode cJ0_isLatin1_aae02 14 = .ok (.goto 4, 3) from by decide +kernel) (by decide) ?_
  exact sr_ireturn C () rfl (show decode cJ0_isLatin1_aae02 18 = .ok (.ireturn, 1) from by decide +kernel)
def fnJ0_length_8abf5 (i : Nat) : sm_M Int32 := m_bnd (m_ret ()) fun _ : Unit => m_ret (nI (strLen.getD i 0) >>> ((0 : Int32) &&& 31))
set_option maxHeartbeats 4000000 in
set_option maxRecDepth 100000 in
theorem cnJ0_length_8abf5 (ω : sm_O) (i : Nat) (hi : i < strN) : sm_Mt 2 yJ0_length_8abf5 cJ0_length_8abf5 1 (some .int) ω [.ref (ω.2.2.2.1 i)] (fun a => some (.int a)) (fnJ0_length_8abf5 i) := by
  refine sm_conI (r := fun a => a) (by decide) (fun _ => rfl) (Nat.le_of_ble_eq_true rfl) ?_
  intro κ hκ C
  subst hκ
  show sm_S κ _ (.inl (0, [some (xst κ i)], [])) _
  unfold fnJ0_length_8abf5
  refine sr_aload_n (i := 0) (q := 1) C (show decode cJ0_length_8abf5 0 = .ok (.aload_n 0, 1) from by decide +kernel) rfl rfl rfl ?_
  refine sr_gsv (q := 4) C hi fs_9 (show decode cJ0_length_8abf5 1 = .ok (.getfield 9, 3) from by decide +kernel) rfl ?_
  refine sr_stl (q := 5) C hi (show decode cJ0_length_8abf5 4 = .ok (.arraylength, 1) from by decide +kernel) rfl ?_
  refine sr_aload_n (i := 0) (q := 6) C (show decode cJ0_length_8abf5 5 = .ok (.aload_n 0, 1) from by decide +kernel) rfl rfl rfl ?_
  refine sr_callT (i := i) (As := []) (st := [.int (nI (strLen.getD i 0))]) (q := 9) C yvJ0_coder_7d493 ml_J0_335 (cnJ0_coder_7d493 (xo κ) i hi) hi rfl rfl (by decide) (by decide) (Nat.le_of_ble_eq_true rfl) rfl (show decode cJ0_length_8abf5 6 = .ok (.invokevirtual 335, 3) from by decide +kernel) rfl (fun _ => ?_)
  show sm_S κ _ (.inl (9, _, [.int 0, .int (nI (strLen.getD i 0))])) _
  refine sr_ishr (q := 10) C (show decode cJ0_length_8abf5 9 = .ok (.ishr, 1) from by decide +kernel) rfl ?_
  exact sr_ireturn C _ rfl (show decode cJ0_length_8abf5 10 = .ok (.ireturn, 1) from by decide +kernel)
def fnJ3_checkIndex_8e157 (k n : Int32) : sm_M Int32 := m_gd (¬ k < 0) <| m_gd (k < n) <| m_ret k
set_option maxHeartbeats 4000000 in
set_option maxRecDepth 100000 in
theorem cnJ3_checkIndex_8e157 (ω : sm_O) (k n : Int32) (v : Value) (hv : v = .null ∨ ∃ t, v = .ref t) : sm_Mt 1 yJ3_checkIndex_8e157 cJ3_checkIndex_8e157 3 (some .int) ω [.int k, .int n, v] (fun a => some (.int a)) (fnJ3_checkIndex_8e157 k n) := by
  refine sm_conI (r := fun a => a) (by decide) (fun _ => rfl) (by rcases hv with rfl | ⟨t, rfl⟩ <;> exact Nat.le_of_ble_eq_true rfl) ?_
  intro κ hκ C
  subst hκ
  have e : sm_ent [.int k, .int n, v] 3 = [some (.int k), some (.int n), some v] := by rcases hv with rfl | ⟨t, rfl⟩ <;> rfl
  rw [e]
  unfold fnJ3_checkIndex_8e157
  refine sr_gd (fun h1 => sr_gd (fun h2 => ?_))
  refine sr_iload_n (i := 0) (q := 1) C (show decode cJ3_checkIndex_8e157 0 = .ok (.iload_n 0, 1) from by decide +kernel) rfl rfl rfl ?_
  refine sr_if_ltN (q := 4) C 9 (show decode cJ3_checkIndex_8e157 1 = .ok (.ifCond .lt 8, 3) from by decide +kernel) (by decide) h1 rfl ?_
  refine sr_iload_n (i := 0) (q := 5) C (show decode cJ3_checkIndex_8e157 4 = .ok (.iload_n 0, 1) from by decide +kernel) rfl rfl rfl ?_
  refine sr_iload_n (i := 1) (q := 6) C (show decode cJ3_checkIndex_8e157 5 = .ok (.iload_n 1, 1) from by decide +kernel) rfl rfl rfl ?_
  refine sr_icmp_ltT (q := 16) C (show decode cJ3_checkIndex_8e157 6 = .ok (.if_icmp .lt 10, 3) from by decide +kernel) (by decide) h2 ?_
  refine sr_iload_n (i := 0) (q := 17) C (show decode cJ3_checkIndex_8e157 16 = .ok (.iload_n 0, 1) from by decide +kernel) rfl rfl rfl ?_
  exact sr_ireturn C _ rfl (show decode cJ3_checkIndex_8e157 17 = .ok (.ireturn, 1) from by decide +kernel)
def fnJ0_checkIndex_df160 (k n : Int32) : sm_M Unit := m_bnd (fnJ3_checkIndex_8e157 k n) fun _ => m_ret ()
set_option maxHeartbeats 4000000 in
set_option maxRecDepth 100000 in
theorem cnJ0_checkIndex_df160 (ω : sm_O) (k n : Int32)  : sm_Mt 2 yJ0_checkIndex_df160 cJ0_checkIndex_df160 2 none ω [.int k, .int n] (fun _ => none) (fnJ0_checkIndex_df160 k n) := by
  refine sm_conV (by decide) (Nat.le_of_ble_eq_true rfl) ?_
  intro κ hκ C
  subst hκ
  show sm_S κ _ (.inl (0, [some (.int k), some (.int n)], [])) _
  unfold fnJ0_checkIndex_df160
  refine sr_iload_n (i := 0) (q := 1) C (show decode cJ0_checkIndex_df160 0 = .ok (.iload_n 0, 1) from by decide +kernel) rfl rfl rfl ?_
  refine sr_iload_n (i := 1) (q := 2) C (show decode cJ0_checkIndex_df160 1 = .ok (.iload_n 1, 1) from by decide +kernel) rfl rfl rfl ?_
  refine sr_gsq (q := 5) C fs_1053 (show decode cJ0_checkIndex_df160 2 = .ok (.getstatic 1053, 3) from by decide +kernel) rfl (fun v hv => ?_)
  refine sr_cSi (As := [.int k, .int n, v]) (st := []) (q := 8) C ysJ3_checkIndex_8e157 ml_J0_1059 (cnJ3_checkIndex_8e157 (xo κ) k n v hv) rfl (by decide) (by decide) (Nat.le_of_ble_eq_true rfl) rfl (show decode cJ0_checkIndex_df160 5 = .ok (.invokestatic 1059, 3) from by decide +kernel) rfl (fun x => ?_)
  refine sr_pop (q := 9) C (show decode cJ0_checkIndex_df160 8 = .ok (.pop, 1) from by decide +kernel) rfl rfl ?_
  exact sr_vreturn C _ rfl (show decode cJ0_checkIndex_df160 9 = .ok (.return_, 1) from by decide +kernel)
def fnJ1_charAt_3b067 (i : Nat) (k : Int32) : sm_M Int32 := m_bnd (fnJ0_checkIndex_df160 k (nI (strLen.getD i 0))) fun _ => m_gd (¬ (k < 0 ∨ strLen.getD i 0 ≤ k.toNatClampNeg)) <| m_ret ((strByt.getD i []).getD k.toNatClampNeg 0 &&& (255 : Int32))
set_option maxHeartbeats 4000000 in
set_option maxRecDepth 100000 in
theorem cnJ1_charAt_3b067 (ω : sm_O) (i : Nat) (k : Int32) (hi : i < strN) : sm_Mt 3 yJ1_charAt_3b067 cJ1_charAt_3b067 2 (some .char) ω [.ref (ω.2.2.2.2 i), .int k] (fun a => some (.int (cN a))) (fnJ1_charAt_3b067 i k) := by
  refine sm_conI (r := cN) (by decide) cN_nar (Nat.le_of_ble_eq_true rfl) ?_
  intro κ hκ C
  subst hκ
  show sm_S κ _ (.inl (0, [some (xsv κ i), some (.int k)], [])) _
  unfold fnJ1_charAt_3b067
  refine sr_iload_n (i := 1) (q := 1) C (show decode cJ1_charAt_3b067 0 = .ok (.iload_n 1, 1) from by decide +kernel) rfl rfl rfl ?_
  refine sr_aload_n (i := 0) (q := 2) C (show decode cJ1_charAt_3b067 1 = .ok (.aload_n 0, 1) from by decide +kernel) rfl rfl rfl ?_
  refine sr_stl (q := 3) C hi (show decode cJ1_charAt_3b067 2 = .ok (.arraylength, 1) from by decide +kernel) rfl ?_
  refine sr_cSv (As := [.int k, .int (nI (strLen.getD i 0))]) (st := []) (q := 6) C ysJ0_checkIndex_df160 ml_J1_9 (cnJ0_checkIndex_df160 (xo κ) k (nI (strLen.getD i 0))) rfl (by decide) (by decide) (Nat.le_of_ble_eq_true rfl) rfl (show decode cJ1_charAt_3b067 3 = .ok (.invokestatic 9, 3) from by decide +kernel) rfl (fun _ => ?_)
  refine sr_gd (fun hk => ?_)
  refine sr_aload_n (i := 0) (q := 7) C (show decode cJ1_charAt_3b067 6 = .ok (.aload_n 0, 1) from by decide +kernel) rfl rfl rfl ?_
  refine sr_iload_n (i := 1) (q := 8) C (show decode cJ1_charAt_3b067 7 = .ok (.iload_n 1, 1) from by decide +kernel) rfl rfl rfl ?_
  refine sr_stb (q := 9) C hi hk (show decode cJ1_charAt_3b067 8 = .ok (.baload, 1) from by decide +kernel) rfl ?_
  refine sr_sipush (v := (255 : Int32)) (q := 12) C (show decode cJ1_charAt_3b067 9 = .ok (.sipush 255, 3) from by decide +kernel) (by decide) rfl ?_
  refine sr_iand (q := 13) C (show decode cJ1_charAt_3b067 12 = .ok (.iand, 1) from by decide +kernel) rfl ?_
  refine sr_i2c (q := 14) C (show decode cJ1_charAt_3b067 13 = .ok (.i2c, 1) from by decide +kernel) rfl ?_
  exact sr_ireturn C _ rfl (show decode cJ1_charAt_3b067 14 = .ok (.ireturn, 1) from by decide +kernel)
def fnJ0_charAt_5068e (i : Nat) (k : Int32) : sm_M Int32 := m_bnd (m_ret ()) fun _ : Unit => m_bnd (fnJ1_charAt_3b067 i k) fun x => m_ret x
set_option maxHeartbeats 4000000 in
set_option maxRecDepth 100000 in
theorem cnJ0_charAt_5068e (ω : sm_O) (i : Nat) (k : Int32) (hi : i < strN) : sm_Mt 4 yJ0_charAt_5068e cJ0_charAt_5068e 2 (some .char) ω [.ref (ω.2.2.2.1 i), .int k] (fun a => some (.int (cN a))) (fnJ0_charAt_5068e i k) := by
  refine sm_conI (r := cN) (by decide) cN_nar (Nat.le_of_ble_eq_true rfl) ?_
  intro κ hκ C
  subst hκ
  show sm_S κ _ (.inl (0, [some (xst κ i), some (.int k)], [])) _
  unfold fnJ0_charAt_5068e
  refine sr_aload_n (i := 0) (q := 1) C (show decode cJ0_charAt_5068e 0 = .ok (.aload_n 0, 1) from by decide +kernel) rfl rfl rfl ?_
  refine sr_callT (i := i) (As := []) (st := []) (q := 4) C yvJ0_isLatin1_aae02 ml_J0_492 (cnJ0_isLatin1_aae02 (xo κ) i hi) hi rfl rfl (by decide) (by decide) (Nat.le_of_ble_eq_true rfl) rfl (show decode cJ0_charAt_5068e 1 = .ok (.invokevirtual 492, 3) from by decide +kernel) rfl (fun _ => ?_)
  show sm_S κ _ (.inl (4, _, [.int 1])) _
  refine sr_if_eqN (q := 7) C 16 (show decode cJ0_charAt_5068e 4 = .ok (.ifCond .eq 12, 3) from by decide +kernel) (by decide) (by decide) rfl ?_
  refine sr_aload_n (i := 0) (q := 8) C (show decode cJ0_charAt_5068e 7 = .ok (.aload_n 0, 1) from by decide +kernel) rfl rfl rfl ?_
  refine sr_gsv (q := 11) C hi fs_9 (show decode cJ0_charAt_5068e 8 = .ok (.getfield 9, 3) from by decide +kernel) rfl ?_
  refine sr_iload_n (i := 1) (q := 12) C (show decode cJ0_charAt_5068e 11 = .ok (.iload_n 1, 1) from by decide +kernel) rfl rfl rfl ?_
  refine sr_callS (As := [xsv κ i, .int k]) (st := []) (q := 15) C ysJ1_charAt_3b067 ml_J0_495 (cnJ1_charAt_3b067 (xo κ) i k hi) rfl (by decide) (by decide) (Nat.le_of_ble_eq_true rfl) rfl (show decode cJ0_charAt_5068e 12 = .ok (.invokestatic 495, 3) from by decide +kernel) rfl (fun x => ?_)
  exact sr_ireturn C x rfl (show decode cJ0_charAt_5068e 15 = .ok (.ireturn, 1) from by decide +kernel)
