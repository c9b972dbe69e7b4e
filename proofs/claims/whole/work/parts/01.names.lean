theorem lq1 {w : Cond} (h : w ∈ tables_1_1) : w ∈ tables_1 := List.mem_append_left _ h
theorem lq2 {w : Cond} (h : w ∈ tables_1_2) : w ∈ tables_1 := List.mem_append_right _ (List.mem_append_left _ h)
theorem lq3 {w : Cond} (h : w ∈ tables_1_3) : w ∈ tables_1 := List.mem_append_right _ (List.mem_append_right _ (List.mem_append_left _ h))
theorem lq4 {w : Cond} (h : w ∈ tables_1_4) : w ∈ tables_1 := List.mem_append_right _ (List.mem_append_right _ (List.mem_append_right _ (List.mem_append_left _ h)))
theorem lq5 {w : Cond} (h : w ∈ tables_1_5) : w ∈ tables_1 := List.mem_append_right _ (List.mem_append_right _ (List.mem_append_right _ (List.mem_append_right _ (List.mem_append_left _ h))))
theorem lq6 {w : Cond} (h : w ∈ tables_1_6) : w ∈ tables_1 := List.mem_append_right _ (List.mem_append_right _ (List.mem_append_right _ (List.mem_append_right _ (List.mem_append_right _ (List.mem_append_left _ h)))))
theorem lq7 {w : Cond} (h : w ∈ tables_1_7) : w ∈ tables_1 := List.mem_append_right _ (List.mem_append_right _ (List.mem_append_right _ (List.mem_append_right _ (List.mem_append_right _ (List.mem_append_right _ (List.mem_append_left _ h))))))
theorem lq8 {w : Cond} (h : w ∈ tables_1_8) : w ∈ tables_1 := List.mem_append_right _ (List.mem_append_right _ (List.mem_append_right _ (List.mem_append_right _ (List.mem_append_right _ (List.mem_append_right _ (List.mem_append_right _ (List.mem_append_left _ h)))))))
theorem lq9 {w : Cond} (h : w ∈ tables_1_9) : w ∈ tables_1 := List.mem_append_right _ (List.mem_append_right _ (List.mem_append_right _ (List.mem_append_right _ (List.mem_append_right _ (List.mem_append_right _ (List.mem_append_right _ (List.mem_append_right _ (h))))))))
theorem nh0_X11 : "BearsTwo" ≠ "java/lang/invoke/MethodHandle" ∧ "BearsTwo" ≠ "java/lang/invoke/VarHandle" := by decide +kernel
theorem nh0_X0 : "BearsTwo$Crossing" ≠ "java/lang/invoke/MethodHandle" ∧ "BearsTwo$Crossing" ≠ "java/lang/invoke/VarHandle" := by decide +kernel
theorem nh0_X1 : "BearsTwo$Doubts" ≠ "java/lang/invoke/MethodHandle" ∧ "BearsTwo$Doubts" ≠ "java/lang/invoke/VarHandle" := by decide +kernel
theorem nh0_X2 : "BearsTwo$Flow" ≠ "java/lang/invoke/MethodHandle" ∧ "BearsTwo$Flow" ≠ "java/lang/invoke/VarHandle" := by decide +kernel
theorem nh0_X3 : "BearsTwo$Links" ≠ "java/lang/invoke/MethodHandle" ∧ "BearsTwo$Links" ≠ "java/lang/invoke/VarHandle" := by decide +kernel
theorem nh0_X5 : "BearsTwo$Orders" ≠ "java/lang/invoke/MethodHandle" ∧ "BearsTwo$Orders" ≠ "java/lang/invoke/VarHandle" := by decide +kernel
theorem nh0_X6 : "BearsTwo$Reader" ≠ "java/lang/invoke/MethodHandle" ∧ "BearsTwo$Reader" ≠ "java/lang/invoke/VarHandle" := by decide +kernel
theorem nh0_X7 : "BearsTwo$River" ≠ "java/lang/invoke/MethodHandle" ∧ "BearsTwo$River" ≠ "java/lang/invoke/VarHandle" := by decide +kernel
theorem nh0_X10 : "BearsTwo$Ways" ≠ "java/lang/invoke/MethodHandle" ∧ "BearsTwo$Ways" ≠ "java/lang/invoke/VarHandle" := by decide +kernel
theorem nh0_X12 : "BearsTwoModel" ≠ "java/lang/invoke/MethodHandle" ∧ "BearsTwoModel" ≠ "java/lang/invoke/VarHandle" := by decide +kernel
-- ===== PART A: goes FIRST, ahead of the names: the tables' words, and 'selects' of the private methods out of them =====
/-- a private method of a class that the tables say can be made, by its rows of tables_1 -/
def lw_okq (q : MethodName × Nat) : Prop := (q.1.cls ≠ "java/lang/invoke/MethodHandle" ∧ q.1.cls ≠ "java/lang/invoke/VarHandle") ∧ Cond.instantiable q.1.cls q.2 ∈ tables_1 ∧ Cond.privateMethod q.1 ∈ tables_1 ∧ Cond.instanceMethod q.1 ∈ tables_1
set_option maxRecDepth 100000 in
theorem lw_p0 : lw_okq (⟨"BearsTwo", "putBytes", "(I)V"⟩, 18) := ⟨nh0_X11, lq1 (List.mem_of_getElem? (i := 23) rfl), lq3 (List.mem_of_getElem? (i := 24) rfl), lq3 (List.mem_of_getElem? (i := 25) rfl)⟩
set_option maxRecDepth 100000 in
theorem lw_p1 : lw_okq (⟨"BearsTwo$Reader", "advance", "()V"⟩, 11) := ⟨nh0_X6, lq1 (List.mem_of_getElem? (i := 31) rfl), lq3 (List.mem_of_getElem? (i := 47) rfl), lq3 (List.mem_of_getElem? (i := 48) rfl)⟩
set_option maxRecDepth 100000 in
theorem lw_p2 : lw_okq (⟨"BearsTwo$Reader", "readLine", "()V"⟩, 11) := ⟨nh0_X6, lq1 (List.mem_of_getElem? (i := 31) rfl), lq3 (List.mem_of_getElem? (i := 57) rfl), lq3 (List.mem_of_getElem? (i := 58) rfl)⟩
set_option maxRecDepth 100000 in
theorem lw_p3 : lw_okq (⟨"BearsTwo$Reader", "isWord", "(Ljava/lang/String;)Z"⟩, 11) := ⟨nh0_X6, lq1 (List.mem_of_getElem? (i := 31) rfl), lq3 (List.mem_of_getElem? (i := 62) rfl), lq3 (List.mem_of_getElem? (i := 63) rfl)⟩
set_option maxRecDepth 100000 in
theorem lw_p4 : lw_okq (⟨"BearsTwo$Reader", "refuse", "(I)V"⟩, 11) := ⟨nh0_X6, lq1 (List.mem_of_getElem? (i := 31) rfl), lq3 (List.mem_of_getElem? (i := 114) rfl), lq3 (List.mem_of_getElem? (i := 115) rfl)⟩
set_option maxRecDepth 100000 in
theorem lw_p5 : lw_okq (⟨"BearsTwo$Reader", "readWater", "()V"⟩, 11) := ⟨nh0_X6, lq1 (List.mem_of_getElem? (i := 31) rfl), lq3 (List.mem_of_getElem? (i := 118) rfl), lq3 (List.mem_of_getElem? (i := 119) rfl)⟩
set_option maxRecDepth 100000 in
theorem lw_p6 : lw_okq (⟨"BearsTwo$Reader", "readPair", "(Ljava/lang/String;II)I"⟩, 11) := ⟨nh0_X6, lq1 (List.mem_of_getElem? (i := 31) rfl), lq3 (List.mem_of_getElem? (i := 123) rfl), lq3 (List.mem_of_getElem? (i := 124) rfl)⟩
set_option maxRecDepth 100000 in
theorem lw_p7 : lw_okq (⟨"BearsTwo$Reader", "readFlag", "(Ljava/lang/String;)Z"⟩, 11) := ⟨nh0_X6, lq1 (List.mem_of_getElem? (i := 31) rfl), lq3 (List.mem_of_getElem? (i := 127) rfl), lq3 (List.mem_of_getElem? (i := 128) rfl)⟩
set_option maxRecDepth 100000 in
theorem lw_p8 : lw_okq (⟨"BearsTwo$Reader", "readNumber", "(II)I"⟩, 11) := ⟨nh0_X6, lq1 (List.mem_of_getElem? (i := 31) rfl), lq3 (List.mem_of_getElem? (i := 131) rfl), lq3 (List.mem_of_getElem? (i := 132) rfl)⟩
set_option maxRecDepth 100000 in
theorem lw_p9 : lw_okq (⟨"BearsTwo$Reader", "readStone", "()V"⟩, 11) := ⟨nh0_X6, lq1 (List.mem_of_getElem? (i := 31) rfl), lq3 (List.mem_of_getElem? (i := 137) rfl), lq3 (List.mem_of_getElem? (i := 138) rfl)⟩
set_option maxRecDepth 100000 in
theorem lw_p10 : lw_okq (⟨"BearsTwo$Reader", "readPerson", "()V"⟩, 11) := ⟨nh0_X6, lq1 (List.mem_of_getElem? (i := 31) rfl), lq3 (List.mem_of_getElem? (i := 150) rfl), lq3 (List.mem_of_getElem? (i := 151) rfl)⟩
set_option maxRecDepth 100000 in
theorem lw_p11 : lw_okq (⟨"BearsTwo$Reader", "readHand", "(I)V"⟩, 11) := ⟨nh0_X6, lq1 (List.mem_of_getElem? (i := 31) rfl), lq3 (List.mem_of_getElem? (i := 160) rfl), lq3 (List.mem_of_getElem? (i := 161) rfl)⟩
set_option maxRecDepth 100000 in
theorem lw_p12 : lw_okq (⟨"BearsTwo$Reader", "readPlank", "()V"⟩, 11) := ⟨nh0_X6, lq1 (List.mem_of_getElem? (i := 31) rfl), lq3 (List.mem_of_getElem? (i := 165) rfl), lq3 (List.mem_of_getElem? (i := 166) rfl)⟩
set_option maxRecDepth 100000 in
theorem lw_p13 : lw_okq (⟨"BearsTwo$River", "across", "(I)I"⟩, 17) := ⟨nh0_X7, lq1 (List.mem_of_getElem? (i := 37) rfl), lq3 (List.mem_of_getElem? (i := 189) rfl), lq3 (List.mem_of_getElem? (i := 190) rfl)⟩
set_option maxRecDepth 100000 in
theorem lw_p14 : lw_okq (⟨"BearsTwo$Links", "link", "(III)V"⟩, 3) := ⟨nh0_X3, lq1 (List.mem_of_getElem? (i := 225) rfl), lq3 (List.mem_of_getElem? (i := 193) rfl), lq3 (List.mem_of_getElem? (i := 194) rfl)⟩
set_option maxRecDepth 100000 in
theorem lw_p15 : lw_okq (⟨"BearsTwo", "isStone", "(I)Z"⟩, 18) := ⟨nh0_X11, lq1 (List.mem_of_getElem? (i := 23) rfl), lq3 (List.mem_of_getElem? (i := 209) rfl), lq3 (List.mem_of_getElem? (i := 210) rfl)⟩
def lw_privs_1 : List (MethodName × Nat) := [(⟨"BearsTwo", "putBytes", "(I)V"⟩, 18), (⟨"BearsTwo$Reader", "advance", "()V"⟩, 11), (⟨"BearsTwo$Reader", "readLine", "()V"⟩, 11), (⟨"BearsTwo$Reader", "isWord", "(Ljava/lang/String;)Z"⟩, 11), (⟨"BearsTwo$Reader", "refuse", "(I)V"⟩, 11), (⟨"BearsTwo$Reader", "readWater", "()V"⟩, 11), (⟨"BearsTwo$Reader", "readPair", "(Ljava/lang/String;II)I"⟩, 11), (⟨"BearsTwo$Reader", "readFlag", "(Ljava/lang/String;)Z"⟩, 11), (⟨"BearsTwo$Reader", "readNumber", "(II)I"⟩, 11), (⟨"BearsTwo$Reader", "readStone", "()V"⟩, 11), (⟨"BearsTwo$Reader", "readPerson", "()V"⟩, 11), (⟨"BearsTwo$Reader", "readHand", "(I)V"⟩, 11), (⟨"BearsTwo$Reader", "readPlank", "()V"⟩, 11), (⟨"BearsTwo$River", "across", "(I)I"⟩, 17), (⟨"BearsTwo$Links", "link", "(III)V"⟩, 3), (⟨"BearsTwo", "isStone", "(I)Z"⟩, 18)]
theorem lw_r1 : ∀ q ∈ lw_privs_1, lw_okq q := List.forall_mem_cons.mpr ⟨lw_p0, List.forall_mem_cons.mpr ⟨lw_p1, List.forall_mem_cons.mpr ⟨lw_p2, List.forall_mem_cons.mpr ⟨lw_p3, List.forall_mem_cons.mpr ⟨lw_p4, List.forall_mem_cons.mpr ⟨lw_p5, List.forall_mem_cons.mpr ⟨lw_p6, List.forall_mem_cons.mpr ⟨lw_p7, List.forall_mem_cons.mpr ⟨lw_p8, List.forall_mem_cons.mpr ⟨lw_p9, List.forall_mem_cons.mpr ⟨lw_p10, List.forall_mem_cons.mpr ⟨lw_p11, List.forall_mem_cons.mpr ⟨lw_p12, List.forall_mem_cons.mpr ⟨lw_p13, List.forall_mem_cons.mpr ⟨lw_p14, List.forall_mem_cons.mpr ⟨lw_p15, fun _ h => absurd h List.not_mem_nil⟩⟩⟩⟩⟩⟩⟩⟩⟩⟩⟩⟩⟩⟩⟩⟩
set_option maxRecDepth 100000 in
theorem lw_p16 : lw_okq (⟨"BearsTwo", "knowledgeOf", "(I)I"⟩, 18) := ⟨nh0_X11, lq1 (List.mem_of_getElem? (i := 23) rfl), lq3 (List.mem_of_getElem? (i := 217) rfl), lq3 (List.mem_of_getElem? (i := 218) rfl)⟩
set_option maxRecDepth 100000 in
theorem lw_p17 : lw_okq (⟨"BearsTwo", "isPerson", "(I)Z"⟩, 18) := ⟨nh0_X11, lq1 (List.mem_of_getElem? (i := 23) rfl), lq3 (List.mem_of_getElem? (i := 229) rfl), lq3 (List.mem_of_getElem? (i := 230) rfl)⟩
set_option maxRecDepth 100000 in
theorem lw_p18 : lw_okq (⟨"BearsTwo", "isStride", "(I)Z"⟩, 18) := ⟨nh0_X11, lq1 (List.mem_of_getElem? (i := 23) rfl), lq4 (List.mem_of_getElem? (i := 6) rfl), lq4 (List.mem_of_getElem? (i := 7) rfl)⟩
set_option maxRecDepth 100000 in
theorem lw_p19 : lw_okq (⟨"BearsTwo", "isTold", "()Z"⟩, 18) := ⟨nh0_X11, lq1 (List.mem_of_getElem? (i := 23) rfl), lq4 (List.mem_of_getElem? (i := 10) rfl), lq4 (List.mem_of_getElem? (i := 11) rfl)⟩
set_option maxRecDepth 100000 in
theorem lw_p20 : lw_okq (⟨"BearsTwo", "isHour", "(I)Z"⟩, 18) := ⟨nh0_X11, lq1 (List.mem_of_getElem? (i := 23) rfl), lq4 (List.mem_of_getElem? (i := 40) rfl), lq4 (List.mem_of_getElem? (i := 41) rfl)⟩
set_option maxRecDepth 100000 in
theorem lw_p21 : lw_okq (⟨"BearsTwo", "isWay", "(I)Z"⟩, 18) := ⟨nh0_X11, lq1 (List.mem_of_getElem? (i := 23) rfl), lq4 (List.mem_of_getElem? (i := 59) rfl), lq4 (List.mem_of_getElem? (i := 60) rfl)⟩
set_option maxRecDepth 100000 in
theorem lw_p22 : lw_okq (⟨"BearsTwo$Ways", "putReached", "(LBearsTwo$River;I)V"⟩, 6) := ⟨nh0_X10, lq2 (List.mem_of_getElem? (i := 7) rfl), lq4 (List.mem_of_getElem? (i := 68) rfl), lq4 (List.mem_of_getElem? (i := 69) rfl)⟩
set_option maxRecDepth 100000 in
theorem lw_p23 : lw_okq (⟨"BearsTwo$Ways", "putCosts", "(LBearsTwo$Scene;I)V"⟩, 6) := ⟨nh0_X10, lq2 (List.mem_of_getElem? (i := 7) rfl), lq4 (List.mem_of_getElem? (i := 74) rfl), lq4 (List.mem_of_getElem? (i := 75) rfl)⟩
set_option maxRecDepth 100000 in
theorem lw_p24 : lw_okq (⟨"BearsTwo$Ways", "crowd", "(LBearsTwo$River;I)I"⟩, 6) := ⟨nh0_X10, lq2 (List.mem_of_getElem? (i := 7) rfl), lq4 (List.mem_of_getElem? (i := 78) rfl), lq4 (List.mem_of_getElem? (i := 79) rfl)⟩
set_option maxRecDepth 100000 in
theorem lw_p25 : lw_okq (⟨"BearsTwo$Ways", "spread", "(IIII)V"⟩, 6) := ⟨nh0_X10, lq2 (List.mem_of_getElem? (i := 7) rfl), lq4 (List.mem_of_getElem? (i := 83) rfl), lq4 (List.mem_of_getElem? (i := 84) rfl)⟩
set_option maxRecDepth 100000 in
theorem lw_p26 : lw_okq (⟨"BearsTwo$Ways", "least", "(I)I"⟩, 6) := ⟨nh0_X10, lq2 (List.mem_of_getElem? (i := 7) rfl), lq4 (List.mem_of_getElem? (i := 89) rfl), lq4 (List.mem_of_getElem? (i := 90) rfl)⟩
set_option maxRecDepth 100000 in
theorem lw_p27 : lw_okq (⟨"BearsTwo$Ways", "walk", "(III)V"⟩, 6) := ⟨nh0_X10, lq2 (List.mem_of_getElem? (i := 7) rfl), lq4 (List.mem_of_getElem? (i := 94) rfl), lq4 (List.mem_of_getElem? (i := 95) rfl)⟩
set_option maxRecDepth 100000 in
theorem lw_p28 : lw_okq (⟨"BearsTwo", "stepsInThought", "(LBearsTwo$Row;)I"⟩, 18) := ⟨nh0_X11, lq1 (List.mem_of_getElem? (i := 23) rfl), lq4 (List.mem_of_getElem? (i := 118) rfl), lq4 (List.mem_of_getElem? (i := 119) rfl)⟩
set_option maxRecDepth 100000 in
theorem lw_p29 : lw_okq (⟨"BearsTwo", "stepInThought", "(JJ)Z"⟩, 18) := ⟨nh0_X11, lq1 (List.mem_of_getElem? (i := 23) rfl), lq4 (List.mem_of_getElem? (i := 127) rfl), lq4 (List.mem_of_getElem? (i := 128) rfl)⟩
set_option maxRecDepth 100000 in
theorem lw_p30 : lw_okq (⟨"BearsTwo", "overInThought", "(I)I"⟩, 18) := ⟨nh0_X11, lq1 (List.mem_of_getElem? (i := 23) rfl), lq4 (List.mem_of_getElem? (i := 173) rfl), lq4 (List.mem_of_getElem? (i := 174) rfl)⟩
set_option maxRecDepth 100000 in
theorem lw_p31 : lw_okq (⟨"BearsTwo$Orders", "extend", "(IIIII)V"⟩, 9) := ⟨nh0_X5, lq2 (List.mem_of_getElem? (i := 45) rfl), lq4 (List.mem_of_getElem? (i := 224) rfl), lq4 (List.mem_of_getElem? (i := 225) rfl)⟩
def lw_privs_2 : List (MethodName × Nat) := [(⟨"BearsTwo", "knowledgeOf", "(I)I"⟩, 18), (⟨"BearsTwo", "isPerson", "(I)Z"⟩, 18), (⟨"BearsTwo", "isStride", "(I)Z"⟩, 18), (⟨"BearsTwo", "isTold", "()Z"⟩, 18), (⟨"BearsTwo", "isHour", "(I)Z"⟩, 18), (⟨"BearsTwo", "isWay", "(I)Z"⟩, 18), (⟨"BearsTwo$Ways", "putReached", "(LBearsTwo$River;I)V"⟩, 6), (⟨"BearsTwo$Ways", "putCosts", "(LBearsTwo$Scene;I)V"⟩, 6), (⟨"BearsTwo$Ways", "crowd", "(LBearsTwo$River;I)I"⟩, 6), (⟨"BearsTwo$Ways", "spread", "(IIII)V"⟩, 6), (⟨"BearsTwo$Ways", "least", "(I)I"⟩, 6), (⟨"BearsTwo$Ways", "walk", "(III)V"⟩, 6), (⟨"BearsTwo", "stepsInThought", "(LBearsTwo$Row;)I"⟩, 18), (⟨"BearsTwo", "stepInThought", "(JJ)Z"⟩, 18), (⟨"BearsTwo", "overInThought", "(I)I"⟩, 18), (⟨"BearsTwo$Orders", "extend", "(IIIII)V"⟩, 9)]
theorem lw_r2 : ∀ q ∈ lw_privs_2, lw_okq q := List.forall_mem_cons.mpr ⟨lw_p16, List.forall_mem_cons.mpr ⟨lw_p17, List.forall_mem_cons.mpr ⟨lw_p18, List.forall_mem_cons.mpr ⟨lw_p19, List.forall_mem_cons.mpr ⟨lw_p20, List.forall_mem_cons.mpr ⟨lw_p21, List.forall_mem_cons.mpr ⟨lw_p22, List.forall_mem_cons.mpr ⟨lw_p23, List.forall_mem_cons.mpr ⟨lw_p24, List.forall_mem_cons.mpr ⟨lw_p25, List.forall_mem_cons.mpr ⟨lw_p26, List.forall_mem_cons.mpr ⟨lw_p27, List.forall_mem_cons.mpr ⟨lw_p28, List.forall_mem_cons.mpr ⟨lw_p29, List.forall_mem_cons.mpr ⟨lw_p30, List.forall_mem_cons.mpr ⟨lw_p31, fun _ h => absurd h List.not_mem_nil⟩⟩⟩⟩⟩⟩⟩⟩⟩⟩⟩⟩⟩⟩⟩⟩
set_option maxRecDepth 100000 in
theorem lw_p32 : lw_okq (⟨"BearsTwo$Orders", "isBetter", "(II)Z"⟩, 9) := ⟨nh0_X5, lq2 (List.mem_of_getElem? (i := 45) rfl), lq4 (List.mem_of_getElem? (i := 228) rfl), lq4 (List.mem_of_getElem? (i := 229) rfl)⟩
set_option maxRecDepth 100000 in
theorem lw_p33 : lw_okq (⟨"BearsTwo$Orders", "couldBeBetter", "(LBearsTwo$Scene;III)Z"⟩, 9) := ⟨nh0_X5, lq2 (List.mem_of_getElem? (i := 45) rfl), lq4 (List.mem_of_getElem? (i := 233) rfl), lq4 (List.mem_of_getElem? (i := 234) rfl)⟩
set_option maxRecDepth 100000 in
theorem lw_p34 : lw_okq (⟨"BearsTwo$Orders", "hasTwin", "(II)Z"⟩, 9) := ⟨nh0_X5, lq2 (List.mem_of_getElem? (i := 45) rfl), lq5 (List.mem_of_getElem? (i := 11) rfl), lq5 (List.mem_of_getElem? (i := 12) rfl)⟩
set_option maxRecDepth 100000 in
theorem lw_p35 : lw_okq (⟨"BearsTwo", "mostOf", "(LBearsTwo$Scene;II)I"⟩, 18) := ⟨nh0_X11, lq1 (List.mem_of_getElem? (i := 23) rfl), lq5 (List.mem_of_getElem? (i := 55) rfl), lq5 (List.mem_of_getElem? (i := 56) rfl)⟩
set_option maxRecDepth 100000 in
theorem lw_p36 : lw_okq (⟨"BearsTwo$Flow", "search", "()I"⟩, 8) := ⟨nh0_X2, lq2 (List.mem_of_getElem? (i := 100) rfl), lq5 (List.mem_of_getElem? (i := 74) rfl), lq5 (List.mem_of_getElem? (i := 75) rfl)⟩
set_option maxRecDepth 100000 in
theorem lw_p37 : lw_okq (⟨"BearsTwo$Flow", "enter", "(II)V"⟩, 8) := ⟨nh0_X2, lq2 (List.mem_of_getElem? (i := 100) rfl), lq5 (List.mem_of_getElem? (i := 78) rfl), lq5 (List.mem_of_getElem? (i := 79) rfl)⟩
set_option maxRecDepth 100000 in
theorem lw_p38 : lw_okq (⟨"BearsTwo$Flow", "leave", "(II)V"⟩, 8) := ⟨nh0_X2, lq2 (List.mem_of_getElem? (i := 100) rfl), lq5 (List.mem_of_getElem? (i := 83) rfl), lq5 (List.mem_of_getElem? (i := 84) rfl)⟩
set_option maxRecDepth 100000 in
theorem lw_p39 : lw_okq (⟨"BearsTwo$Flow", "narrowest", "(I)I"⟩, 8) := ⟨nh0_X2, lq2 (List.mem_of_getElem? (i := 100) rfl), lq5 (List.mem_of_getElem? (i := 87) rfl), lq5 (List.mem_of_getElem? (i := 88) rfl)⟩
set_option maxRecDepth 100000 in
theorem lw_p40 : lw_okq (⟨"BearsTwo$Flow", "push", "(II)V"⟩, 8) := ⟨nh0_X2, lq2 (List.mem_of_getElem? (i := 100) rfl), lq5 (List.mem_of_getElem? (i := 92) rfl), lq5 (List.mem_of_getElem? (i := 93) rfl)⟩
set_option maxRecDepth 100000 in
theorem lw_p41 : lw_okq (⟨"BearsTwo$Flow", "around", "(LBearsTwo$River;II)I"⟩, 8) := ⟨nh0_X2, lq2 (List.mem_of_getElem? (i := 100) rfl), lq5 (List.mem_of_getElem? (i := 137) rfl), lq5 (List.mem_of_getElem? (i := 138) rfl)⟩
set_option maxRecDepth 100000 in
theorem lw_p42 : lw_okq (⟨"BearsTwo", "mostWithOneMore", "(III)I"⟩, 18) := ⟨nh0_X11, lq1 (List.mem_of_getElem? (i := 23) rfl), lq5 (List.mem_of_getElem? (i := 158) rfl), lq5 (List.mem_of_getElem? (i := 159) rfl)⟩
set_option maxRecDepth 100000 in
theorem lw_p43 : lw_okq (⟨"BearsTwo", "mostMoved", "(III)I"⟩, 18) := ⟨nh0_X11, lq1 (List.mem_of_getElem? (i := 23) rfl), lq5 (List.mem_of_getElem? (i := 170) rfl), lq5 (List.mem_of_getElem? (i := 171) rfl)⟩
set_option maxRecDepth 100000 in
theorem lw_p44 : lw_okq (⟨"BearsTwo", "mostWithPlank", "(III)I"⟩, 18) := ⟨nh0_X11, lq1 (List.mem_of_getElem? (i := 23) rfl), lq5 (List.mem_of_getElem? (i := 198) rfl), lq5 (List.mem_of_getElem? (i := 199) rfl)⟩
set_option maxRecDepth 100000 in
theorem lw_p45 : lw_okq (⟨"BearsTwo$Doubts", "gather", "(LBearsTwo$Scene;II)V"⟩, 3) := ⟨nh0_X1, lq2 (List.mem_of_getElem? (i := 84) rfl), lq5 (List.mem_of_getElem? (i := 229) rfl), lq5 (List.mem_of_getElem? (i := 230) rfl)⟩
set_option maxRecDepth 100000 in
theorem lw_p46 : lw_okq (⟨"BearsTwo", "treadOf", "(III)J"⟩, 18) := ⟨nh0_X11, lq1 (List.mem_of_getElem? (i := 23) rfl), lq6 (List.mem_of_getElem? (i := 0) rfl), lq6 (List.mem_of_getElem? (i := 1) rfl)⟩
set_option maxRecDepth 100000 in
theorem lw_p47 : lw_okq (⟨"BearsTwo", "priceOf", "(III)I"⟩, 18) := ⟨nh0_X11, lq1 (List.mem_of_getElem? (i := 23) rfl), lq6 (List.mem_of_getElem? (i := 13) rfl), lq6 (List.mem_of_getElem? (i := 14) rfl)⟩
def lw_privs_3 : List (MethodName × Nat) := [(⟨"BearsTwo$Orders", "isBetter", "(II)Z"⟩, 9), (⟨"BearsTwo$Orders", "couldBeBetter", "(LBearsTwo$Scene;III)Z"⟩, 9), (⟨"BearsTwo$Orders", "hasTwin", "(II)Z"⟩, 9), (⟨"BearsTwo", "mostOf", "(LBearsTwo$Scene;II)I"⟩, 18), (⟨"BearsTwo$Flow", "search", "()I"⟩, 8), (⟨"BearsTwo$Flow", "enter", "(II)V"⟩, 8), (⟨"BearsTwo$Flow", "leave", "(II)V"⟩, 8), (⟨"BearsTwo$Flow", "narrowest", "(I)I"⟩, 8), (⟨"BearsTwo$Flow", "push", "(II)V"⟩, 8), (⟨"BearsTwo$Flow", "around", "(LBearsTwo$River;II)I"⟩, 8), (⟨"BearsTwo", "mostWithOneMore", "(III)I"⟩, 18), (⟨"BearsTwo", "mostMoved", "(III)I"⟩, 18), (⟨"BearsTwo", "mostWithPlank", "(III)I"⟩, 18), (⟨"BearsTwo$Doubts", "gather", "(LBearsTwo$Scene;II)V"⟩, 3), (⟨"BearsTwo", "treadOf", "(III)J"⟩, 18), (⟨"BearsTwo", "priceOf", "(III)I"⟩, 18)]
theorem lw_r3 : ∀ q ∈ lw_privs_3, lw_okq q := List.forall_mem_cons.mpr ⟨lw_p32, List.forall_mem_cons.mpr ⟨lw_p33, List.forall_mem_cons.mpr ⟨lw_p34, List.forall_mem_cons.mpr ⟨lw_p35, List.forall_mem_cons.mpr ⟨lw_p36, List.forall_mem_cons.mpr ⟨lw_p37, List.forall_mem_cons.mpr ⟨lw_p38, List.forall_mem_cons.mpr ⟨lw_p39, List.forall_mem_cons.mpr ⟨lw_p40, List.forall_mem_cons.mpr ⟨lw_p41, List.forall_mem_cons.mpr ⟨lw_p42, List.forall_mem_cons.mpr ⟨lw_p43, List.forall_mem_cons.mpr ⟨lw_p44, List.forall_mem_cons.mpr ⟨lw_p45, List.forall_mem_cons.mpr ⟨lw_p46, List.forall_mem_cons.mpr ⟨lw_p47, fun _ h => absurd h List.not_mem_nil⟩⟩⟩⟩⟩⟩⟩⟩⟩⟩⟩⟩⟩⟩⟩⟩
set_option maxRecDepth 100000 in
theorem lw_p48 : lw_okq (⟨"BearsTwo", "mostAt", "(II)I"⟩, 18) := ⟨nh0_X11, lq1 (List.mem_of_getElem? (i := 23) rfl), lq6 (List.mem_of_getElem? (i := 25) rfl), lq6 (List.mem_of_getElem? (i := 26) rfl)⟩
set_option maxRecDepth 100000 in
theorem lw_p49 : lw_okq (⟨"BearsTwo", "wrongRows", "(II)I"⟩, 18) := ⟨nh0_X11, lq1 (List.mem_of_getElem? (i := 23) rfl), lq6 (List.mem_of_getElem? (i := 37) rfl), lq6 (List.mem_of_getElem? (i := 38) rfl)⟩
set_option maxRecDepth 100000 in
theorem lw_p50 : lw_okq (⟨"BearsTwo", "peopleOnDay", "(II)I"⟩, 18) := ⟨nh0_X11, lq1 (List.mem_of_getElem? (i := 23) rfl), lq6 (List.mem_of_getElem? (i := 65) rfl), lq6 (List.mem_of_getElem? (i := 66) rfl)⟩
set_option maxRecDepth 100000 in
theorem lw_p51 : lw_okq (⟨"BearsTwo$Crossing", "wade", "(LBearsTwo$Scene;III)Z"⟩, 1) := ⟨nh0_X0, lq2 (List.mem_of_getElem? (i := 35) rfl), lq6 (List.mem_of_getElem? (i := 83) rfl), lq6 (List.mem_of_getElem? (i := 84) rfl)⟩
set_option maxRecDepth 100000 in
theorem lw_p52 : lw_okq (⟨"BearsTwo", "rowsThere", "()I"⟩, 18) := ⟨nh0_X11, lq1 (List.mem_of_getElem? (i := 23) rfl), lq6 (List.mem_of_getElem? (i := 99) rfl), lq6 (List.mem_of_getElem? (i := 100) rfl)⟩
set_option maxRecDepth 100000 in
theorem lw_p53 : lw_okq (⟨"BearsTwoModel", "advance", "()V"⟩, 47) := ⟨nh0_X12, lq6 (List.mem_of_getElem? (i := 142) rfl), lq7 (List.mem_of_getElem? (i := 77) rfl), lq7 (List.mem_of_getElem? (i := 78) rfl)⟩
set_option maxRecDepth 100000 in
theorem lw_p54 : lw_okq (⟨"BearsTwoModel", "see", "(I)I"⟩, 47) := ⟨nh0_X12, lq6 (List.mem_of_getElem? (i := 142) rfl), lq7 (List.mem_of_getElem? (i := 81) rfl), lq7 (List.mem_of_getElem? (i := 82) rfl)⟩
set_option maxRecDepth 100000 in
theorem lw_p55 : lw_okq (⟨"BearsTwoModel", "good", "()Z"⟩, 47) := ⟨nh0_X12, lq6 (List.mem_of_getElem? (i := 142) rfl), lq7 (List.mem_of_getElem? (i := 91) rfl), lq7 (List.mem_of_getElem? (i := 92) rfl)⟩
set_option maxRecDepth 100000 in
theorem lw_p56 : lw_okq (⟨"BearsTwoModel", "readLine", "()V"⟩, 47) := ⟨nh0_X12, lq6 (List.mem_of_getElem? (i := 142) rfl), lq7 (List.mem_of_getElem? (i := 95) rfl), lq7 (List.mem_of_getElem? (i := 96) rfl)⟩
set_option maxRecDepth 100000 in
theorem lw_p57 : lw_okq (⟨"BearsTwoModel", "needs", "(Ljava/lang/String;)V"⟩, 47) := ⟨nh0_X12, lq6 (List.mem_of_getElem? (i := 142) rfl), lq7 (List.mem_of_getElem? (i := 100) rfl), lq7 (List.mem_of_getElem? (i := 101) rfl)⟩
set_option maxRecDepth 100000 in
theorem lw_p58 : lw_okq (⟨"BearsTwoModel", "takes", "(Ljava/lang/String;)Z"⟩, 47) := ⟨nh0_X12, lq6 (List.mem_of_getElem? (i := 142) rfl), lq7 (List.mem_of_getElem? (i := 104) rfl), lq7 (List.mem_of_getElem? (i := 105) rfl)⟩
set_option maxRecDepth 100000 in
theorem lw_p59 : lw_okq (⟨"BearsTwoModel", "is", "(Ljava/lang/String;)Z"⟩, 47) := ⟨nh0_X12, lq6 (List.mem_of_getElem? (i := 142) rfl), lq7 (List.mem_of_getElem? (i := 108) rfl), lq7 (List.mem_of_getElem? (i := 109) rfl)⟩
set_option maxRecDepth 100000 in
theorem lw_p60 : lw_okq (⟨"BearsTwoModel", "errs", "(I)V"⟩, 47) := ⟨nh0_X12, lq6 (List.mem_of_getElem? (i := 142) rfl), lq7 (List.mem_of_getElem? (i := 114) rfl), lq7 (List.mem_of_getElem? (i := 115) rfl)⟩
set_option maxRecDepth 100000 in
theorem lw_p61 : lw_okq (⟨"BearsTwoModel", "told", "(Ljava/lang/String;II)I"⟩, 47) := ⟨nh0_X12, lq6 (List.mem_of_getElem? (i := 142) rfl), lq7 (List.mem_of_getElem? (i := 119) rfl), lq7 (List.mem_of_getElem? (i := 120) rfl)⟩
set_option maxRecDepth 100000 in
theorem lw_p62 : lw_okq (⟨"BearsTwoModel", "number", "(II)I"⟩, 47) := ⟨nh0_X12, lq6 (List.mem_of_getElem? (i := 142) rfl), lq7 (List.mem_of_getElem? (i := 123) rfl), lq7 (List.mem_of_getElem? (i := 124) rfl)⟩
set_option maxRecDepth 100000 in
theorem lw_p63 : lw_okq (⟨"BearsTwoModel", "readNext", "()V"⟩, 47) := ⟨nh0_X12, lq6 (List.mem_of_getElem? (i := 142) rfl), lq7 (List.mem_of_getElem? (i := 128) rfl), lq7 (List.mem_of_getElem? (i := 129) rfl)⟩
def lw_privs_4 : List (MethodName × Nat) := [(⟨"BearsTwo", "mostAt", "(II)I"⟩, 18), (⟨"BearsTwo", "wrongRows", "(II)I"⟩, 18), (⟨"BearsTwo", "peopleOnDay", "(II)I"⟩, 18), (⟨"BearsTwo$Crossing", "wade", "(LBearsTwo$Scene;III)Z"⟩, 1), (⟨"BearsTwo", "rowsThere", "()I"⟩, 18), (⟨"BearsTwoModel", "advance", "()V"⟩, 47), (⟨"BearsTwoModel", "see", "(I)I"⟩, 47), (⟨"BearsTwoModel", "good", "()Z"⟩, 47), (⟨"BearsTwoModel", "readLine", "()V"⟩, 47), (⟨"BearsTwoModel", "needs", "(Ljava/lang/String;)V"⟩, 47), (⟨"BearsTwoModel", "takes", "(Ljava/lang/String;)Z"⟩, 47), (⟨"BearsTwoModel", "is", "(Ljava/lang/String;)Z"⟩, 47), (⟨"BearsTwoModel", "errs", "(I)V"⟩, 47), (⟨"BearsTwoModel", "told", "(Ljava/lang/String;II)I"⟩, 47), (⟨"BearsTwoModel", "number", "(II)I"⟩, 47), (⟨"BearsTwoModel", "readNext", "()V"⟩, 47)]
theorem lw_r4 : ∀ q ∈ lw_privs_4, lw_okq q := List.forall_mem_cons.mpr ⟨lw_p48, List.forall_mem_cons.mpr ⟨lw_p49, List.forall_mem_cons.mpr ⟨lw_p50, List.forall_mem_cons.mpr ⟨lw_p51, List.forall_mem_cons.mpr ⟨lw_p52, List.forall_mem_cons.mpr ⟨lw_p53, List.forall_mem_cons.mpr ⟨lw_p54, List.forall_mem_cons.mpr ⟨lw_p55, List.forall_mem_cons.mpr ⟨lw_p56, List.forall_mem_cons.mpr ⟨lw_p57, List.forall_mem_cons.mpr ⟨lw_p58, List.forall_mem_cons.mpr ⟨lw_p59, List.forall_mem_cons.mpr ⟨lw_p60, List.forall_mem_cons.mpr ⟨lw_p61, List.forall_mem_cons.mpr ⟨lw_p62, List.forall_mem_cons.mpr ⟨lw_p63, fun _ h => absurd h List.not_mem_nil⟩⟩⟩⟩⟩⟩⟩⟩⟩⟩⟩⟩⟩⟩⟩⟩
set_option maxRecDepth 100000 in
theorem lw_p64 : lw_okq (⟨"BearsTwoModel", "readStone", "()V"⟩, 47) := ⟨nh0_X12, lq6 (List.mem_of_getElem? (i := 142) rfl), lq7 (List.mem_of_getElem? (i := 135) rfl), lq7 (List.mem_of_getElem? (i := 136) rfl)⟩
set_option maxRecDepth 100000 in
theorem lw_p65 : lw_okq (⟨"BearsTwoModel", "freshOn", "(II)I"⟩, 47) := ⟨nh0_X12, lq6 (List.mem_of_getElem? (i := 142) rfl), lq7 (List.mem_of_getElem? (i := 140) rfl), lq7 (List.mem_of_getElem? (i := 141) rfl)⟩
set_option maxRecDepth 100000 in
theorem lw_p66 : lw_okq (⟨"BearsTwoModel", "readPerson", "()V"⟩, 47) := ⟨nh0_X12, lq6 (List.mem_of_getElem? (i := 142) rfl), lq7 (List.mem_of_getElem? (i := 147) rfl), lq7 (List.mem_of_getElem? (i := 148) rfl)⟩
set_option maxRecDepth 100000 in
theorem lw_p67 : lw_okq (⟨"BearsTwoModel", "isStone", "(I)Z"⟩, 47) := ⟨nh0_X12, lq6 (List.mem_of_getElem? (i := 142) rfl), lq7 (List.mem_of_getElem? (i := 161) rfl), lq7 (List.mem_of_getElem? (i := 162) rfl)⟩
set_option maxRecDepth 100000 in
theorem lw_p68 : lw_okq (⟨"BearsTwoModel", "ofStone", "(II)I"⟩, 47) := ⟨nh0_X12, lq6 (List.mem_of_getElem? (i := 142) rfl), lq7 (List.mem_of_getElem? (i := 166) rfl), lq7 (List.mem_of_getElem? (i := 167) rfl)⟩
set_option maxRecDepth 100000 in
theorem lw_p69 : lw_okq (⟨"BearsTwoModel", "left", "(I)I"⟩, 47) := ⟨nh0_X12, lq6 (List.mem_of_getElem? (i := 142) rfl), lq7 (List.mem_of_getElem? (i := 170) rfl), lq7 (List.mem_of_getElem? (i := 171) rfl)⟩
set_option maxRecDepth 100000 in
theorem lw_p70 : lw_okq (⟨"BearsTwoModel", "bearsNow", "(I)I"⟩, 47) := ⟨nh0_X12, lq6 (List.mem_of_getElem? (i := 142) rfl), lq7 (List.mem_of_getElem? (i := 174) rfl), lq7 (List.mem_of_getElem? (i := 175) rfl)⟩
set_option maxRecDepth 100000 in
theorem lw_p71 : lw_okq (⟨"BearsTwoModel", "isInDoubt", "(I)Z"⟩, 47) := ⟨nh0_X12, lq6 (List.mem_of_getElem? (i := 142) rfl), lq7 (List.mem_of_getElem? (i := 179) rfl), lq7 (List.mem_of_getElem? (i := 180) rfl)⟩
set_option maxRecDepth 100000 in
theorem lw_p72 : lw_okq (⟨"BearsTwoModel", "isPlace", "(I)Z"⟩, 47) := ⟨nh0_X12, lq6 (List.mem_of_getElem? (i := 142) rfl), lq7 (List.mem_of_getElem? (i := 187) rfl), lq7 (List.mem_of_getElem? (i := 188) rfl)⟩
set_option maxRecDepth 100000 in
theorem lw_p73 : lw_okq (⟨"BearsTwoModel", "isRiver", "()Z"⟩, 47) := ⟨nh0_X12, lq6 (List.mem_of_getElem? (i := 142) rfl), lq7 (List.mem_of_getElem? (i := 191) rfl), lq7 (List.mem_of_getElem? (i := 192) rfl)⟩
set_option maxRecDepth 100000 in
theorem lw_p74 : lw_okq (⟨"BearsTwoModel", "isStep", "(III)Z"⟩, 47) := ⟨nh0_X12, lq6 (List.mem_of_getElem? (i := 142) rfl), lq7 (List.mem_of_getElem? (i := 199) rfl), lq7 (List.mem_of_getElem? (i := 200) rfl)⟩
set_option maxRecDepth 100000 in
theorem lw_p75 : lw_okq (⟨"BearsTwoModel", "squares", "(II)I"⟩, 47) := ⟨nh0_X12, lq6 (List.mem_of_getElem? (i := 142) rfl), lq7 (List.mem_of_getElem? (i := 203) rfl), lq7 (List.mem_of_getElem? (i := 204) rfl)⟩
set_option maxRecDepth 100000 in
theorem lw_p76 : lw_okq (⟨"BearsTwoModel", "acrossOf", "(I)I"⟩, 47) := ⟨nh0_X12, lq6 (List.mem_of_getElem? (i := 142) rfl), lq7 (List.mem_of_getElem? (i := 207) rfl), lq7 (List.mem_of_getElem? (i := 208) rfl)⟩
set_option maxRecDepth 100000 in
theorem lw_p77 : lw_okq (⟨"BearsTwoModel", "reachOf", "(I)I"⟩, 47) := ⟨nh0_X12, lq6 (List.mem_of_getElem? (i := 142) rfl), lq7 (List.mem_of_getElem? (i := 215) rfl), lq7 (List.mem_of_getElem? (i := 216) rfl)⟩
set_option maxRecDepth 100000 in
theorem lw_p78 : lw_okq (⟨"BearsTwoModel", "borneAll", "()I"⟩, 47) := ⟨nh0_X12, lq6 (List.mem_of_getElem? (i := 142) rfl), lq7 (List.mem_of_getElem? (i := 228) rfl), lq7 (List.mem_of_getElem? (i := 229) rfl)⟩
set_option maxRecDepth 100000 in
theorem lw_p79 : lw_okq (⟨"BearsTwoModel", "freshens", "()V"⟩, 47) := ⟨nh0_X12, lq6 (List.mem_of_getElem? (i := 142) rfl), lq7 (List.mem_of_getElem? (i := 232) rfl), lq7 (List.mem_of_getElem? (i := 233) rfl)⟩
def lw_privs_5 : List (MethodName × Nat) := [(⟨"BearsTwoModel", "readStone", "()V"⟩, 47), (⟨"BearsTwoModel", "freshOn", "(II)I"⟩, 47), (⟨"BearsTwoModel", "readPerson", "()V"⟩, 47), (⟨"BearsTwoModel", "isStone", "(I)Z"⟩, 47), (⟨"BearsTwoModel", "ofStone", "(II)I"⟩, 47), (⟨"BearsTwoModel", "left", "(I)I"⟩, 47), (⟨"BearsTwoModel", "bearsNow", "(I)I"⟩, 47), (⟨"BearsTwoModel", "isInDoubt", "(I)Z"⟩, 47), (⟨"BearsTwoModel", "isPlace", "(I)Z"⟩, 47), (⟨"BearsTwoModel", "isRiver", "()Z"⟩, 47), (⟨"BearsTwoModel", "isStep", "(III)Z"⟩, 47), (⟨"BearsTwoModel", "squares", "(II)I"⟩, 47), (⟨"BearsTwoModel", "acrossOf", "(I)I"⟩, 47), (⟨"BearsTwoModel", "reachOf", "(I)I"⟩, 47), (⟨"BearsTwoModel", "borneAll", "()I"⟩, 47), (⟨"BearsTwoModel", "freshens", "()V"⟩, 47)]
theorem lw_r5 : ∀ q ∈ lw_privs_5, lw_okq q := List.forall_mem_cons.mpr ⟨lw_p64, List.forall_mem_cons.mpr ⟨lw_p65, List.forall_mem_cons.mpr ⟨lw_p66, List.forall_mem_cons.mpr ⟨lw_p67, List.forall_mem_cons.mpr ⟨lw_p68, List.forall_mem_cons.mpr ⟨lw_p69, List.forall_mem_cons.mpr ⟨lw_p70, List.forall_mem_cons.mpr ⟨lw_p71, List.forall_mem_cons.mpr ⟨lw_p72, List.forall_mem_cons.mpr ⟨lw_p73, List.forall_mem_cons.mpr ⟨lw_p74, List.forall_mem_cons.mpr ⟨lw_p75, List.forall_mem_cons.mpr ⟨lw_p76, List.forall_mem_cons.mpr ⟨lw_p77, List.forall_mem_cons.mpr ⟨lw_p78, List.forall_mem_cons.mpr ⟨lw_p79, fun _ h => absurd h List.not_mem_nil⟩⟩⟩⟩⟩⟩⟩⟩⟩⟩⟩⟩⟩⟩⟩⟩
set_option maxRecDepth 100000 in
theorem lw_p80 : lw_okq (⟨"BearsTwoModel", "setStone", "(III)V"⟩, 47) := ⟨nh0_X12, lq6 (List.mem_of_getElem? (i := 142) rfl), lq7 (List.mem_of_getElem? (i := 236) rfl), lq7 (List.mem_of_getElem? (i := 237) rfl)⟩
set_option maxRecDepth 100000 in
theorem lw_p81 : lw_okq (⟨"BearsTwoModel", "isAsked", "(III)Z"⟩, 47) := ⟨nh0_X12, lq6 (List.mem_of_getElem? (i := 142) rfl), lq8 (List.mem_of_getElem? (i := 4) rfl), lq8 (List.mem_of_getElem? (i := 5) rfl)⟩
set_option maxRecDepth 100000 in
theorem lw_p82 : lw_okq (⟨"BearsTwoModel", "finds", "(IIII)Z"⟩, 47) := ⟨nh0_X12, lq6 (List.mem_of_getElem? (i := 142) rfl), lq8 (List.mem_of_getElem? (i := 10) rfl), lq8 (List.mem_of_getElem? (i := 11) rfl)⟩
set_option maxRecDepth 100000 in
theorem lw_p83 : lw_okq (⟨"BearsTwoModel", "fillCosts", "(I)V"⟩, 47) := ⟨nh0_X12, lq6 (List.mem_of_getElem? (i := 142) rfl), lq8 (List.mem_of_getElem? (i := 14) rfl), lq8 (List.mem_of_getElem? (i := 15) rfl)⟩
set_option maxRecDepth 100000 in
theorem lw_p84 : lw_okq (⟨"BearsTwoModel", "of", "(II)I"⟩, 47) := ⟨nh0_X12, lq6 (List.mem_of_getElem? (i := 142) rfl), lq8 (List.mem_of_getElem? (i := 18) rfl), lq8 (List.mem_of_getElem? (i := 19) rfl)⟩
set_option maxRecDepth 100000 in
theorem lw_p85 : lw_okq (⟨"BearsTwoModel", "fillLeft", "(III)V"⟩, 47) := ⟨nh0_X12, lq6 (List.mem_of_getElem? (i := 142) rfl), lq8 (List.mem_of_getElem? (i := 22) rfl), lq8 (List.mem_of_getElem? (i := 23) rfl)⟩
set_option maxRecDepth 100000 in
theorem lw_p86 : lw_okq (⟨"BearsTwoModel", "isPerson", "(I)Z"⟩, 47) := ⟨nh0_X12, lq6 (List.mem_of_getElem? (i := 142) rfl), lq8 (List.mem_of_getElem? (i := 38) rfl), lq8 (List.mem_of_getElem? (i := 39) rfl)⟩
set_option maxRecDepth 100000 in
theorem lw_p87 : lw_okq (⟨"BearsTwoModel", "steps", "(II)Z"⟩, 47) := ⟨nh0_X12, lq6 (List.mem_of_getElem? (i := 142) rfl), lq8 (List.mem_of_getElem? (i := 42) rfl), lq8 (List.mem_of_getElem? (i := 43) rfl)⟩
set_option maxRecDepth 100000 in
theorem lw_p88 : lw_okq (⟨"BearsTwoModel", "bears", "(II)V"⟩, 47) := ⟨nh0_X12, lq6 (List.mem_of_getElem? (i := 142) rfl), lq8 (List.mem_of_getElem? (i := 46) rfl), lq8 (List.mem_of_getElem? (i := 47) rfl)⟩
set_option maxRecDepth 100000 in
theorem lw_p89 : lw_okq (⟨"BearsTwoModel", "set", "(III)V"⟩, 47) := ⟨nh0_X12, lq6 (List.mem_of_getElem? (i := 142) rfl), lq8 (List.mem_of_getElem? (i := 50) rfl), lq8 (List.mem_of_getElem? (i := 51) rfl)⟩
set_option maxRecDepth 100000 in
theorem lw_p90 : lw_okq (⟨"BearsTwoModel", "thinks", "()V"⟩, 47) := ⟨nh0_X12, lq6 (List.mem_of_getElem? (i := 142) rfl), lq8 (List.mem_of_getElem? (i := 61) rfl), lq8 (List.mem_of_getElem? (i := 62) rfl)⟩
set_option maxRecDepth 100000 in
theorem lw_p91 : lw_okq (⟨"BearsTwoModel", "walks", "(I)I"⟩, 47) := ⟨nh0_X12, lq6 (List.mem_of_getElem? (i := 142) rfl), lq8 (List.mem_of_getElem? (i := 65) rfl), lq8 (List.mem_of_getElem? (i := 66) rfl)⟩
set_option maxRecDepth 100000 in
theorem lw_p92 : lw_okq (⟨"BearsTwoModel", "wakes", "()V"⟩, 47) := ⟨nh0_X12, lq6 (List.mem_of_getElem? (i := 142) rfl), lq8 (List.mem_of_getElem? (i := 71) rfl), lq8 (List.mem_of_getElem? (i := 72) rfl)⟩
set_option maxRecDepth 100000 in
theorem lw_p93 : lw_okq (⟨"BearsTwoModel", "leads", "(I)Z"⟩, 47) := ⟨nh0_X12, lq6 (List.mem_of_getElem? (i := 142) rfl), lq8 (List.mem_of_getElem? (i := 83) rfl), lq8 (List.mem_of_getElem? (i := 84) rfl)⟩
set_option maxRecDepth 100000 in
theorem lw_p94 : lw_okq (⟨"BearsTwoModel", "isWay", "(I)Z"⟩, 47) := ⟨nh0_X12, lq6 (List.mem_of_getElem? (i := 142) rfl), lq8 (List.mem_of_getElem? (i := 91) rfl), lq8 (List.mem_of_getElem? (i := 92) rfl)⟩
set_option maxRecDepth 100000 in
theorem lw_p95 : lw_okq (⟨"BearsTwoModel", "isAt", "(II)Z"⟩, 47) := ⟨nh0_X12, lq6 (List.mem_of_getElem? (i := 142) rfl), lq8 (List.mem_of_getElem? (i := 95) rfl), lq8 (List.mem_of_getElem? (i := 96) rfl)⟩
def lw_privs_6 : List (MethodName × Nat) := [(⟨"BearsTwoModel", "setStone", "(III)V"⟩, 47), (⟨"BearsTwoModel", "isAsked", "(III)Z"⟩, 47), (⟨"BearsTwoModel", "finds", "(IIII)Z"⟩, 47), (⟨"BearsTwoModel", "fillCosts", "(I)V"⟩, 47), (⟨"BearsTwoModel", "of", "(II)I"⟩, 47), (⟨"BearsTwoModel", "fillLeft", "(III)V"⟩, 47), (⟨"BearsTwoModel", "isPerson", "(I)Z"⟩, 47), (⟨"BearsTwoModel", "steps", "(II)Z"⟩, 47), (⟨"BearsTwoModel", "bears", "(II)V"⟩, 47), (⟨"BearsTwoModel", "set", "(III)V"⟩, 47), (⟨"BearsTwoModel", "thinks", "()V"⟩, 47), (⟨"BearsTwoModel", "walks", "(I)I"⟩, 47), (⟨"BearsTwoModel", "wakes", "()V"⟩, 47), (⟨"BearsTwoModel", "leads", "(I)Z"⟩, 47), (⟨"BearsTwoModel", "isWay", "(I)Z"⟩, 47), (⟨"BearsTwoModel", "isAt", "(II)Z"⟩, 47)]
theorem lw_r6 : ∀ q ∈ lw_privs_6, lw_okq q := List.forall_mem_cons.mpr ⟨lw_p80, List.forall_mem_cons.mpr ⟨lw_p81, List.forall_mem_cons.mpr ⟨lw_p82, List.forall_mem_cons.mpr ⟨lw_p83, List.forall_mem_cons.mpr ⟨lw_p84, List.forall_mem_cons.mpr ⟨lw_p85, List.forall_mem_cons.mpr ⟨lw_p86, List.forall_mem_cons.mpr ⟨lw_p87, List.forall_mem_cons.mpr ⟨lw_p88, List.forall_mem_cons.mpr ⟨lw_p89, List.forall_mem_cons.mpr ⟨lw_p90, List.forall_mem_cons.mpr ⟨lw_p91, List.forall_mem_cons.mpr ⟨lw_p92, List.forall_mem_cons.mpr ⟨lw_p93, List.forall_mem_cons.mpr ⟨lw_p94, List.forall_mem_cons.mpr ⟨lw_p95, fun _ h => absurd h List.not_mem_nil⟩⟩⟩⟩⟩⟩⟩⟩⟩⟩⟩⟩⟩⟩⟩⟩
set_option maxRecDepth 100000 in
theorem lw_p96 : lw_okq (⟨"BearsTwoModel", "second", "(I)I"⟩, 47) := ⟨nh0_X12, lq6 (List.mem_of_getElem? (i := 142) rfl), lq8 (List.mem_of_getElem? (i := 99) rfl), lq8 (List.mem_of_getElem? (i := 100) rfl)⟩
set_option maxRecDepth 100000 in
theorem lw_p97 : lw_okq (⟨"BearsTwoModel", "goes", "(III)Z"⟩, 47) := ⟨nh0_X12, lq6 (List.mem_of_getElem? (i := 142) rfl), lq8 (List.mem_of_getElem? (i := 103) rfl), lq8 (List.mem_of_getElem? (i := 104) rfl)⟩
set_option maxRecDepth 100000 in
theorem lw_p98 : lw_okq (⟨"BearsTwoModel", "strideOf", "(I)I"⟩, 47) := ⟨nh0_X12, lq6 (List.mem_of_getElem? (i := 142) rfl), lq8 (List.mem_of_getElem? (i := 107) rfl), lq8 (List.mem_of_getElem? (i := 108) rfl)⟩
set_option maxRecDepth 100000 in
theorem lw_p99 : lw_okq (⟨"BearsTwoModel", "sumOf", "(II)I"⟩, 47) := ⟨nh0_X12, lq6 (List.mem_of_getElem? (i := 142) rfl), lq8 (List.mem_of_getElem? (i := 111) rfl), lq8 (List.mem_of_getElem? (i := 112) rfl)⟩
set_option maxRecDepth 100000 in
theorem lw_p100 : lw_okq (⟨"BearsTwoModel", "puts", "(II)V"⟩, 47) := ⟨nh0_X12, lq6 (List.mem_of_getElem? (i := 142) rfl), lq8 (List.mem_of_getElem? (i := 115) rfl), lq8 (List.mem_of_getElem? (i := 116) rfl)⟩
set_option maxRecDepth 100000 in
theorem lw_p101 : lw_okq (⟨"BearsTwoModel", "allGoOver", "(I)V"⟩, 47) := ⟨nh0_X12, lq6 (List.mem_of_getElem? (i := 142) rfl), lq8 (List.mem_of_getElem? (i := 123) rfl), lq8 (List.mem_of_getElem? (i := 124) rfl)⟩
set_option maxRecDepth 100000 in
theorem lw_p102 : lw_okq (⟨"BearsTwoModel", "clearsOver", "()V"⟩, 47) := ⟨nh0_X12, lq6 (List.mem_of_getElem? (i := 142) rfl), lq8 (List.mem_of_getElem? (i := 127) rfl), lq8 (List.mem_of_getElem? (i := 128) rfl)⟩
set_option maxRecDepth 100000 in
theorem lw_p103 : lw_okq (⟨"BearsTwoModel", "units", "()I"⟩, 47) := ⟨nh0_X12, lq6 (List.mem_of_getElem? (i := 142) rfl), lq8 (List.mem_of_getElem? (i := 131) rfl), lq8 (List.mem_of_getElem? (i := 132) rfl)⟩
set_option maxRecDepth 100000 in
theorem lw_p104 : lw_okq (⟨"BearsTwoModel", "goesOver", "(II)V"⟩, 47) := ⟨nh0_X12, lq6 (List.mem_of_getElem? (i := 142) rfl), lq8 (List.mem_of_getElem? (i := 135) rfl), lq8 (List.mem_of_getElem? (i := 136) rfl)⟩
set_option maxRecDepth 100000 in
theorem lw_p105 : lw_okq (⟨"BearsTwoModel", "manyOf", "(I)I"⟩, 47) := ⟨nh0_X12, lq6 (List.mem_of_getElem? (i := 142) rfl), lq8 (List.mem_of_getElem? (i := 139) rfl), lq8 (List.mem_of_getElem? (i := 140) rfl)⟩
set_option maxRecDepth 100000 in
theorem lw_p106 : lw_okq (⟨"BearsTwoModel", "bitsOf", "(I)I"⟩, 47) := ⟨nh0_X12, lq6 (List.mem_of_getElem? (i := 142) rfl), lq8 (List.mem_of_getElem? (i := 143) rfl), lq8 (List.mem_of_getElem? (i := 144) rfl)⟩
set_option maxRecDepth 100000 in
theorem lw_p107 : lw_okq (⟨"BearsTwoModel", "mustAndNot", "()I"⟩, 47) := ⟨nh0_X12, lq6 (List.mem_of_getElem? (i := 142) rfl), lq8 (List.mem_of_getElem? (i := 147) rfl), lq8 (List.mem_of_getElem? (i := 148) rfl)⟩
set_option maxRecDepth 100000 in
theorem lw_p108 : lw_okq (⟨"BearsTwoModel", "fillWaiting", "()V"⟩, 47) := ⟨nh0_X12, lq6 (List.mem_of_getElem? (i := 142) rfl), lq8 (List.mem_of_getElem? (i := 160) rfl), lq8 (List.mem_of_getElem? (i := 161) rfl)⟩
set_option maxRecDepth 100000 in
theorem lw_p109 : lw_okq (⟨"BearsTwoModel", "findsOrder", "(I)V"⟩, 47) := ⟨nh0_X12, lq6 (List.mem_of_getElem? (i := 142) rfl), lq8 (List.mem_of_getElem? (i := 164) rfl), lq8 (List.mem_of_getElem? (i := 165) rfl)⟩
set_option maxRecDepth 100000 in
theorem lw_p110 : lw_okq (⟨"BearsTwoModel", "nextOrder", "()Z"⟩, 47) := ⟨nh0_X12, lq6 (List.mem_of_getElem? (i := 142) rfl), lq8 (List.mem_of_getElem? (i := 168) rfl), lq8 (List.mem_of_getElem? (i := 169) rfl)⟩
set_option maxRecDepth 100000 in
theorem lw_p111 : lw_okq (⟨"BearsTwoModel", "swaps", "(II)V"⟩, 47) := ⟨nh0_X12, lq6 (List.mem_of_getElem? (i := 142) rfl), lq8 (List.mem_of_getElem? (i := 172) rfl), lq8 (List.mem_of_getElem? (i := 173) rfl)⟩
def lw_privs_7 : List (MethodName × Nat) := [(⟨"BearsTwoModel", "second", "(I)I"⟩, 47), (⟨"BearsTwoModel", "goes", "(III)Z"⟩, 47), (⟨"BearsTwoModel", "strideOf", "(I)I"⟩, 47), (⟨"BearsTwoModel", "sumOf", "(II)I"⟩, 47), (⟨"BearsTwoModel", "puts", "(II)V"⟩, 47), (⟨"BearsTwoModel", "allGoOver", "(I)V"⟩, 47), (⟨"BearsTwoModel", "clearsOver", "()V"⟩, 47), (⟨"BearsTwoModel", "units", "()I"⟩, 47), (⟨"BearsTwoModel", "goesOver", "(II)V"⟩, 47), (⟨"BearsTwoModel", "manyOf", "(I)I"⟩, 47), (⟨"BearsTwoModel", "bitsOf", "(I)I"⟩, 47), (⟨"BearsTwoModel", "mustAndNot", "()I"⟩, 47), (⟨"BearsTwoModel", "fillWaiting", "()V"⟩, 47), (⟨"BearsTwoModel", "findsOrder", "(I)V"⟩, 47), (⟨"BearsTwoModel", "nextOrder", "()Z"⟩, 47), (⟨"BearsTwoModel", "swaps", "(II)V"⟩, 47)]
theorem lw_r7 : ∀ q ∈ lw_privs_7, lw_okq q := List.forall_mem_cons.mpr ⟨lw_p96, List.forall_mem_cons.mpr ⟨lw_p97, List.forall_mem_cons.mpr ⟨lw_p98, List.forall_mem_cons.mpr ⟨lw_p99, List.forall_mem_cons.mpr ⟨lw_p100, List.forall_mem_cons.mpr ⟨lw_p101, List.forall_mem_cons.mpr ⟨lw_p102, List.forall_mem_cons.mpr ⟨lw_p103, List.forall_mem_cons.mpr ⟨lw_p104, List.forall_mem_cons.mpr ⟨lw_p105, List.forall_mem_cons.mpr ⟨lw_p106, List.forall_mem_cons.mpr ⟨lw_p107, List.forall_mem_cons.mpr ⟨lw_p108, List.forall_mem_cons.mpr ⟨lw_p109, List.forall_mem_cons.mpr ⟨lw_p110, List.forall_mem_cons.mpr ⟨lw_p111, fun _ h => absurd h List.not_mem_nil⟩⟩⟩⟩⟩⟩⟩⟩⟩⟩⟩⟩⟩⟩⟩⟩
set_option maxRecDepth 100000 in
theorem lw_p112 : lw_okq (⟨"BearsTwoModel", "isSomebodyHere", "()Z"⟩, 47) := ⟨nh0_X12, lq6 (List.mem_of_getElem? (i := 142) rfl), lq8 (List.mem_of_getElem? (i := 189) rfl), lq8 (List.mem_of_getElem? (i := 190) rfl)⟩
set_option maxRecDepth 100000 in
theorem lw_p113 : lw_okq (⟨"BearsTwoModel", "isLoad", "(II)Z"⟩, 47) := ⟨nh0_X12, lq6 (List.mem_of_getElem? (i := 142) rfl), lq8 (List.mem_of_getElem? (i := 201) rfl), lq8 (List.mem_of_getElem? (i := 202) rfl)⟩
set_option maxRecDepth 100000 in
theorem lw_p114 : lw_okq (⟨"BearsTwoModel", "mostOf", "(II)I"⟩, 47) := ⟨nh0_X12, lq6 (List.mem_of_getElem? (i := 142) rfl), lq8 (List.mem_of_getElem? (i := 205) rfl), lq8 (List.mem_of_getElem? (i := 206) rfl)⟩
set_option maxRecDepth 100000 in
theorem lw_p115 : lw_okq (⟨"BearsTwoModel", "fillNodes", "(I)V"⟩, 47) := ⟨nh0_X12, lq6 (List.mem_of_getElem? (i := 142) rfl), lq8 (List.mem_of_getElem? (i := 209) rfl), lq8 (List.mem_of_getElem? (i := 210) rfl)⟩
set_option maxRecDepth 100000 in
theorem lw_p116 : lw_okq (⟨"BearsTwoModel", "addNode", "(III)V"⟩, 47) := ⟨nh0_X12, lq6 (List.mem_of_getElem? (i := 142) rfl), lq8 (List.mem_of_getElem? (i := 213) rfl), lq8 (List.mem_of_getElem? (i := 214) rfl)⟩
set_option maxRecDepth 100000 in
theorem lw_p117 : lw_okq (⟨"BearsTwoModel", "flow", "(I)I"⟩, 47) := ⟨nh0_X12, lq6 (List.mem_of_getElem? (i := 142) rfl), lq8 (List.mem_of_getElem? (i := 217) rfl), lq8 (List.mem_of_getElem? (i := 218) rfl)⟩
set_option maxRecDepth 100000 in
theorem lw_p118 : lw_okq (⟨"BearsTwoModel", "areNear", "(III)Z"⟩, 47) := ⟨nh0_X12, lq6 (List.mem_of_getElem? (i := 142) rfl), lq8 (List.mem_of_getElem? (i := 221) rfl), lq8 (List.mem_of_getElem? (i := 222) rfl)⟩
set_option maxRecDepth 100000 in
theorem lw_p119 : lw_okq (⟨"BearsTwoModel", "fillRoom", "(I)V"⟩, 47) := ⟨nh0_X12, lq6 (List.mem_of_getElem? (i := 142) rfl), lq8 (List.mem_of_getElem? (i := 225) rfl), lq8 (List.mem_of_getElem? (i := 226) rfl)⟩
set_option maxRecDepth 100000 in
theorem lw_p120 : lw_okq (⟨"BearsTwoModel", "floods", "()Z"⟩, 47) := ⟨nh0_X12, lq6 (List.mem_of_getElem? (i := 142) rfl), lq8 (List.mem_of_getElem? (i := 229) rfl), lq8 (List.mem_of_getElem? (i := 230) rfl)⟩
set_option maxRecDepth 100000 in
theorem lw_p121 : lw_okq (⟨"BearsTwoModel", "isSpot", "(II)Z"⟩, 47) := ⟨nh0_X12, lq6 (List.mem_of_getElem? (i := 142) rfl), lq9 (List.mem_of_getElem? (i := 9) rfl), lq9 (List.mem_of_getElem? (i := 10) rfl)⟩
set_option maxRecDepth 100000 in
theorem lw_p122 : lw_okq (⟨"BearsTwoModel", "stoneOn", "(II)I"⟩, 47) := ⟨nh0_X12, lq6 (List.mem_of_getElem? (i := 142) rfl), lq9 (List.mem_of_getElem? (i := 13) rfl), lq9 (List.mem_of_getElem? (i := 14) rfl)⟩
set_option maxRecDepth 100000 in
theorem lw_p123 : lw_okq (⟨"BearsTwoModel", "withMore", "(IIII)I"⟩, 47) := ⟨nh0_X12, lq6 (List.mem_of_getElem? (i := 142) rfl), lq9 (List.mem_of_getElem? (i := 17) rfl), lq9 (List.mem_of_getElem? (i := 18) rfl)⟩
set_option maxRecDepth 100000 in
theorem lw_p124 : lw_okq (⟨"BearsTwoModel", "movedOf", "(III)I"⟩, 47) := ⟨nh0_X12, lq6 (List.mem_of_getElem? (i := 142) rfl), lq9 (List.mem_of_getElem? (i := 29) rfl), lq9 (List.mem_of_getElem? (i := 30) rfl)⟩
set_option maxRecDepth 100000 in
theorem lw_p125 : lw_okq (⟨"BearsTwoModel", "plankOf", "(III)I"⟩, 47) := ⟨nh0_X12, lq6 (List.mem_of_getElem? (i := 142) rfl), lq9 (List.mem_of_getElem? (i := 41) rfl), lq9 (List.mem_of_getElem? (i := 42) rfl)⟩
set_option maxRecDepth 100000 in
theorem lw_p126 : lw_okq (⟨"BearsTwoModel", "sureOf", "(II)J"⟩, 47) := ⟨nh0_X12, lq6 (List.mem_of_getElem? (i := 142) rfl), lq9 (List.mem_of_getElem? (i := 60) rfl), lq9 (List.mem_of_getElem? (i := 61) rfl)⟩
set_option maxRecDepth 100000 in
theorem lw_p127 : lw_okq (⟨"BearsTwoModel", "on", "(IIJ)J"⟩, 47) := ⟨nh0_X12, lq6 (List.mem_of_getElem? (i := 142) rfl), lq9 (List.mem_of_getElem? (i := 65) rfl), lq9 (List.mem_of_getElem? (i := 66) rfl)⟩
def lw_privs_8 : List (MethodName × Nat) := [(⟨"BearsTwoModel", "isSomebodyHere", "()Z"⟩, 47), (⟨"BearsTwoModel", "isLoad", "(II)Z"⟩, 47), (⟨"BearsTwoModel", "mostOf", "(II)I"⟩, 47), (⟨"BearsTwoModel", "fillNodes", "(I)V"⟩, 47), (⟨"BearsTwoModel", "addNode", "(III)V"⟩, 47), (⟨"BearsTwoModel", "flow", "(I)I"⟩, 47), (⟨"BearsTwoModel", "areNear", "(III)Z"⟩, 47), (⟨"BearsTwoModel", "fillRoom", "(I)V"⟩, 47), (⟨"BearsTwoModel", "floods", "()Z"⟩, 47), (⟨"BearsTwoModel", "isSpot", "(II)Z"⟩, 47), (⟨"BearsTwoModel", "stoneOn", "(II)I"⟩, 47), (⟨"BearsTwoModel", "withMore", "(IIII)I"⟩, 47), (⟨"BearsTwoModel", "movedOf", "(III)I"⟩, 47), (⟨"BearsTwoModel", "plankOf", "(III)I"⟩, 47), (⟨"BearsTwoModel", "sureOf", "(II)J"⟩, 47), (⟨"BearsTwoModel", "on", "(IIJ)J"⟩, 47)]
theorem lw_r8 : ∀ q ∈ lw_privs_8, lw_okq q := List.forall_mem_cons.mpr ⟨lw_p112, List.forall_mem_cons.mpr ⟨lw_p113, List.forall_mem_cons.mpr ⟨lw_p114, List.forall_mem_cons.mpr ⟨lw_p115, List.forall_mem_cons.mpr ⟨lw_p116, List.forall_mem_cons.mpr ⟨lw_p117, List.forall_mem_cons.mpr ⟨lw_p118, List.forall_mem_cons.mpr ⟨lw_p119, List.forall_mem_cons.mpr ⟨lw_p120, List.forall_mem_cons.mpr ⟨lw_p121, List.forall_mem_cons.mpr ⟨lw_p122, List.forall_mem_cons.mpr ⟨lw_p123, List.forall_mem_cons.mpr ⟨lw_p124, List.forall_mem_cons.mpr ⟨lw_p125, List.forall_mem_cons.mpr ⟨lw_p126, List.forall_mem_cons.mpr ⟨lw_p127, fun _ h => absurd h List.not_mem_nil⟩⟩⟩⟩⟩⟩⟩⟩⟩⟩⟩⟩⟩⟩⟩⟩
set_option maxRecDepth 100000 in
theorem lw_p128 : lw_okq (⟨"BearsTwoModel", "treadOf", "(III)J"⟩, 47) := ⟨nh0_X12, lq6 (List.mem_of_getElem? (i := 142) rfl), lq9 (List.mem_of_getElem? (i := 78) rfl), lq9 (List.mem_of_getElem? (i := 79) rfl)⟩
set_option maxRecDepth 100000 in
theorem lw_p129 : lw_okq (⟨"BearsTwoModel", "priceOf", "(III)I"⟩, 47) := ⟨nh0_X12, lq6 (List.mem_of_getElem? (i := 142) rfl), lq9 (List.mem_of_getElem? (i := 90) rfl), lq9 (List.mem_of_getElem? (i := 91) rfl)⟩
set_option maxRecDepth 100000 in
theorem lw_p130 : lw_okq (⟨"BearsTwoModel", "lateOf", "(II)I"⟩, 47) := ⟨nh0_X12, lq6 (List.mem_of_getElem? (i := 142) rfl), lq9 (List.mem_of_getElem? (i := 102) rfl), lq9 (List.mem_of_getElem? (i := 103) rfl)⟩
set_option maxRecDepth 100000 in
theorem lw_p131 : lw_okq (⟨"BearsTwoModel", "asksTwo", "(II)I"⟩, 47) := ⟨nh0_X12, lq6 (List.mem_of_getElem? (i := 142) rfl), lq9 (List.mem_of_getElem? (i := 115) rfl), lq9 (List.mem_of_getElem? (i := 116) rfl)⟩
set_option maxRecDepth 100000 in
theorem lw_p132 : lw_okq (⟨"BearsTwoModel", "areStones", "(I)Z"⟩, 47) := ⟨nh0_X12, lq6 (List.mem_of_getElem? (i := 142) rfl), lq9 (List.mem_of_getElem? (i := 119) rfl), lq9 (List.mem_of_getElem? (i := 120) rfl)⟩
set_option maxRecDepth 100000 in
theorem lw_p133 : lw_okq (⟨"BearsTwoModel", "meet", "(III)Z"⟩, 47) := ⟨nh0_X12, lq6 (List.mem_of_getElem? (i := 142) rfl), lq9 (List.mem_of_getElem? (i := 123) rfl), lq9 (List.mem_of_getElem? (i := 124) rfl)⟩
set_option maxRecDepth 100000 in
theorem lw_p134 : lw_okq (⟨"BearsTwoModel", "setOf", "(I)I"⟩, 47) := ⟨nh0_X12, lq6 (List.mem_of_getElem? (i := 142) rfl), lq9 (List.mem_of_getElem? (i := 131) rfl), lq9 (List.mem_of_getElem? (i := 132) rfl)⟩
set_option maxRecDepth 100000 in
theorem lw_p135 : lw_okq (⟨"BearsTwoModel", "runOf", "(JI)I"⟩, 47) := ⟨nh0_X12, lq6 (List.mem_of_getElem? (i := 142) rfl), lq9 (List.mem_of_getElem? (i := 143) rfl), lq9 (List.mem_of_getElem? (i := 144) rfl)⟩
set_option maxRecDepth 100000 in
theorem lw_p136 : lw_okq (⟨"BearsTwoModel", "draw", "()I"⟩, 47) := ⟨nh0_X12, lq6 (List.mem_of_getElem? (i := 142) rfl), lq9 (List.mem_of_getElem? (i := 147) rfl), lq9 (List.mem_of_getElem? (i := 148) rfl)⟩
set_option maxRecDepth 100000 in
theorem lw_p137 : lw_okq (⟨"BearsTwoModel", "ventures", "(III)V"⟩, 47) := ⟨nh0_X12, lq6 (List.mem_of_getElem? (i := 142) rfl), lq9 (List.mem_of_getElem? (i := 155) rfl), lq9 (List.mem_of_getElem? (i := 156) rfl)⟩
set_option maxRecDepth 100000 in
theorem lw_p138 : lw_okq (⟨"BearsTwoModel", "at", "(I)I"⟩, 47) := ⟨nh0_X12, lq6 (List.mem_of_getElem? (i := 142) rfl), lq9 (List.mem_of_getElem? (i := 168) rfl), lq9 (List.mem_of_getElem? (i := 169) rfl)⟩
def lw_privs_9 : List (MethodName × Nat) := [(⟨"BearsTwoModel", "treadOf", "(III)J"⟩, 47), (⟨"BearsTwoModel", "priceOf", "(III)I"⟩, 47), (⟨"BearsTwoModel", "lateOf", "(II)I"⟩, 47), (⟨"BearsTwoModel", "asksTwo", "(II)I"⟩, 47), (⟨"BearsTwoModel", "areStones", "(I)Z"⟩, 47), (⟨"BearsTwoModel", "meet", "(III)Z"⟩, 47), (⟨"BearsTwoModel", "setOf", "(I)I"⟩, 47), (⟨"BearsTwoModel", "runOf", "(JI)I"⟩, 47), (⟨"BearsTwoModel", "draw", "()I"⟩, 47), (⟨"BearsTwoModel", "ventures", "(III)V"⟩, 47), (⟨"BearsTwoModel", "at", "(I)I"⟩, 47)]
theorem lw_r9 : ∀ q ∈ lw_privs_9, lw_okq q := List.forall_mem_cons.mpr ⟨lw_p128, List.forall_mem_cons.mpr ⟨lw_p129, List.forall_mem_cons.mpr ⟨lw_p130, List.forall_mem_cons.mpr ⟨lw_p131, List.forall_mem_cons.mpr ⟨lw_p132, List.forall_mem_cons.mpr ⟨lw_p133, List.forall_mem_cons.mpr ⟨lw_p134, List.forall_mem_cons.mpr ⟨lw_p135, List.forall_mem_cons.mpr ⟨lw_p136, List.forall_mem_cons.mpr ⟨lw_p137, List.forall_mem_cons.mpr ⟨lw_p138, fun _ h => absurd h List.not_mem_nil⟩⟩⟩⟩⟩⟩⟩⟩⟩⟩⟩
def lw_privs : List (MethodName × Nat) := lw_privs_1 ++ (lw_privs_2 ++ (lw_privs_3 ++ (lw_privs_4 ++ (lw_privs_5 ++ (lw_privs_6 ++ (lw_privs_7 ++ (lw_privs_8 ++ (lw_privs_9))))))))
def lw_tbl : List Cond := k2_sels lw_privs ++ tables_1
theorem lw_privs_ok : ∀ q ∈ lw_privs, lw_okq q := by
  show ∀ q ∈ lw_privs_1 ++ (lw_privs_2 ++ (lw_privs_3 ++ (lw_privs_4 ++ (lw_privs_5 ++ (lw_privs_6 ++ (lw_privs_7 ++ (lw_privs_8 ++ (lw_privs_9)))))))), lw_okq q
  exact List.forall_mem_append.mpr ⟨lw_r1, List.forall_mem_append.mpr ⟨lw_r2, List.forall_mem_append.mpr ⟨lw_r3, List.forall_mem_append.mpr ⟨lw_r4, List.forall_mem_append.mpr ⟨lw_r5, List.forall_mem_append.mpr ⟨lw_r6, List.forall_mem_append.mpr ⟨lw_r7, List.forall_mem_append.mpr ⟨lw_r8, lw_r9⟩⟩⟩⟩⟩⟩⟩⟩

theorem lt1 {w : Cond} (h : w ∈ tables_1_1) : w ∈ lw_tbl := List.mem_append_right _ (show w ∈ tables_1 from List.mem_append_left _ h)
theorem lps1 {q : MethodName × Nat} (h : q ∈ lw_privs_1) : Cond.selects q.1.cls q.1 q.1 ∈ lw_tbl := List.mem_append_left _ (List.mem_map.mpr ⟨q, show q ∈ lw_privs from List.mem_append_left _ h, rfl⟩)
theorem lt2 {w : Cond} (h : w ∈ tables_1_2) : w ∈ lw_tbl := List.mem_append_right _ (show w ∈ tables_1 from List.mem_append_right _ (List.mem_append_left _ h))
theorem lps2 {q : MethodName × Nat} (h : q ∈ lw_privs_2) : Cond.selects q.1.cls q.1 q.1 ∈ lw_tbl := List.mem_append_left _ (List.mem_map.mpr ⟨q, show q ∈ lw_privs from List.mem_append_right _ (List.mem_append_left _ h), rfl⟩)
theorem lt3 {w : Cond} (h : w ∈ tables_1_3) : w ∈ lw_tbl := List.mem_append_right _ (show w ∈ tables_1 from List.mem_append_right _ (List.mem_append_right _ (List.mem_append_left _ h)))
theorem lps3 {q : MethodName × Nat} (h : q ∈ lw_privs_3) : Cond.selects q.1.cls q.1 q.1 ∈ lw_tbl := List.mem_append_left _ (List.mem_map.mpr ⟨q, show q ∈ lw_privs from List.mem_append_right _ (List.mem_append_right _ (List.mem_append_left _ h)), rfl⟩)
theorem lt4 {w : Cond} (h : w ∈ tables_1_4) : w ∈ lw_tbl := List.mem_append_right _ (show w ∈ tables_1 from List.mem_append_right _ (List.mem_append_right _ (List.mem_append_right _ (List.mem_append_left _ h))))
theorem lps4 {q : MethodName × Nat} (h : q ∈ lw_privs_4) : Cond.selects q.1.cls q.1 q.1 ∈ lw_tbl := List.mem_append_left _ (List.mem_map.mpr ⟨q, show q ∈ lw_privs from List.mem_append_right _ (List.mem_append_right _ (List.mem_append_right _ (List.mem_append_left _ h))), rfl⟩)
theorem lt5 {w : Cond} (h : w ∈ tables_1_5) : w ∈ lw_tbl := List.mem_append_right _ (show w ∈ tables_1 from List.mem_append_right _ (List.mem_append_right _ (List.mem_append_right _ (List.mem_append_right _ (List.mem_append_left _ h)))))
theorem lps5 {q : MethodName × Nat} (h : q ∈ lw_privs_5) : Cond.selects q.1.cls q.1 q.1 ∈ lw_tbl := List.mem_append_left _ (List.mem_map.mpr ⟨q, show q ∈ lw_privs from List.mem_append_right _ (List.mem_append_right _ (List.mem_append_right _ (List.mem_append_right _ (List.mem_append_left _ h)))), rfl⟩)
theorem lt6 {w : Cond} (h : w ∈ tables_1_6) : w ∈ lw_tbl := List.mem_append_right _ (show w ∈ tables_1 from List.mem_append_right _ (List.mem_append_right _ (List.mem_append_right _ (List.mem_append_right _ (List.mem_append_right _ (List.mem_append_left _ h))))))
theorem lps6 {q : MethodName × Nat} (h : q ∈ lw_privs_6) : Cond.selects q.1.cls q.1 q.1 ∈ lw_tbl := List.mem_append_left _ (List.mem_map.mpr ⟨q, show q ∈ lw_privs from List.mem_append_right _ (List.mem_append_right _ (List.mem_append_right _ (List.mem_append_right _ (List.mem_append_right _ (List.mem_append_left _ h))))), rfl⟩)
theorem lt7 {w : Cond} (h : w ∈ tables_1_7) : w ∈ lw_tbl := List.mem_append_right _ (show w ∈ tables_1 from List.mem_append_right _ (List.mem_append_right _ (List.mem_append_right _ (List.mem_append_right _ (List.mem_append_right _ (List.mem_append_right _ (List.mem_append_left _ h)))))))
theorem lps7 {q : MethodName × Nat} (h : q ∈ lw_privs_7) : Cond.selects q.1.cls q.1 q.1 ∈ lw_tbl := List.mem_append_left _ (List.mem_map.mpr ⟨q, show q ∈ lw_privs from List.mem_append_right _ (List.mem_append_right _ (List.mem_append_right _ (List.mem_append_right _ (List.mem_append_right _ (List.mem_append_right _ (List.mem_append_left _ h)))))), rfl⟩)
theorem lt8 {w : Cond} (h : w ∈ tables_1_8) : w ∈ lw_tbl := List.mem_append_right _ (show w ∈ tables_1 from List.mem_append_right _ (List.mem_append_right _ (List.mem_append_right _ (List.mem_append_right _ (List.mem_append_right _ (List.mem_append_right _ (List.mem_append_right _ (List.mem_append_left _ h))))))))
theorem lps8 {q : MethodName × Nat} (h : q ∈ lw_privs_8) : Cond.selects q.1.cls q.1 q.1 ∈ lw_tbl := List.mem_append_left _ (List.mem_map.mpr ⟨q, show q ∈ lw_privs from List.mem_append_right _ (List.mem_append_right _ (List.mem_append_right _ (List.mem_append_right _ (List.mem_append_right _ (List.mem_append_right _ (List.mem_append_right _ (List.mem_append_left _ h))))))), rfl⟩)
theorem lt9 {w : Cond} (h : w ∈ tables_1_9) : w ∈ lw_tbl := List.mem_append_right _ (show w ∈ tables_1 from List.mem_append_right _ (List.mem_append_right _ (List.mem_append_right _ (List.mem_append_right _ (List.mem_append_right _ (List.mem_append_right _ (List.mem_append_right _ (List.mem_append_right _ (h)))))))))
theorem lps9 {q : MethodName × Nat} (h : q ∈ lw_privs_9) : Cond.selects q.1.cls q.1 q.1 ∈ lw_tbl := List.mem_append_left _ (List.mem_map.mpr ⟨q, show q ∈ lw_privs from List.mem_append_right _ (List.mem_append_right _ (List.mem_append_right _ (List.mem_append_right _ (List.mem_append_right _ (List.mem_append_right _ (List.mem_append_right _ (List.mem_append_right _ (h)))))))), rfl⟩)
/-- the words that stay true as the machine goes on -/
def lw_w : List Cond := lw_tbl.filter goodWord
theorem lw_m {w : Cond} (h : w ∈ lw_tbl) (g : goodWord w = true) : w ∈ lw_w := List.mem_filter.mpr ⟨h, g⟩
theorem lw_m1 {w : Cond} (h : w ∈ lw_w) : w ∈ lw_tbl := (List.mem_filter.mp h).1
theorem lw_good {big : List Cond} (hb : ∀ w ∈ lw_w, w ∈ big) : GoodIn big lw_w := fun w hw => ⟨hb w hw, good_of_word (List.mem_filter.mp hw).2⟩
def RX0 : String := "BearsTwo$Crossing"
def TX0 : u_T := fun k => match k with
  | _ => ("BearsTwo$Crossing", "ways", "LBearsTwo$Ways;", true)
def tyX0 : Nat → FieldType := fun k => match k with
  | _ => .object "BearsTwo$Ways"
theorem nmX0 : ∀ a, a < 1 → ∀ b, b < 1 → a ≠ b → (TX0 a).2.1 ≠ (TX0 b).2.1 := by decide +kernel
theorem tyX0_ok : ∀ k, k < 1 → parseFieldDescriptor (TX0 k).2.2.1 = some (tyX0 k) := by decide +kernel
theorem inX0 : ∀ w ∈ u_ws RX0 TX0 1, w ∈ lw_w := fun w hw => lw_m ((show ∀ w ∈ u_ws RX0 TX0 1, w ∈ lw_tbl by decide +kernel) w hw) ((show ∀ w ∈ u_ws RX0 TX0 1, goodWord w = true by decide +kernel) w hw)
def RX1 : String := "BearsTwo$Doubts"
def TX1 : u_T := fun k => match k with
  | 0 => ("BearsTwo$Doubts", "links", "LBearsTwo$Links;", true)
  | 1 => ("BearsTwo$Doubts", "risky", "[I", true)
  | _ => ("BearsTwo$Doubts", "size", "I", false)
def tyX1 : Nat → FieldType := fun k => match k with
  | 0 => .object "BearsTwo$Links"
  | 1 => .array .int
  | _ => .int
theorem nmX1 : ∀ a, a < 3 → ∀ b, b < 3 → a ≠ b → (TX1 a).2.1 ≠ (TX1 b).2.1 := by decide +kernel
theorem tyX1_ok : ∀ k, k < 3 → parseFieldDescriptor (TX1 k).2.2.1 = some (tyX1 k) := by decide +kernel
theorem inX1 : ∀ w ∈ u_ws RX1 TX1 3, w ∈ lw_w := fun w hw => lw_m ((show ∀ w ∈ u_ws RX1 TX1 3, w ∈ lw_tbl by decide +kernel) w hw) ((show ∀ w ∈ u_ws RX1 TX1 3, goodWord w = true by decide +kernel) w hw)
def RX2 : String := "BearsTwo$Flow"
def TX2 : u_T := fun k => match k with
  | 0 => ("BearsTwo$Flow", "links", "LBearsTwo$Links;", true)
  | 1 => ("BearsTwo$Flow", "net", "LBearsTwo$Net;", true)
  | 2 => ("BearsTwo$Flow", "saved", "LBearsTwo$Net;", true)
  | 3 => ("BearsTwo$Flow", "entryFrom", "[I", true)
  | 4 => ("BearsTwo$Flow", "exitFrom", "[I", true)
  | 5 => ("BearsTwo$Flow", "queue", "[I", true)
  | 6 => ("BearsTwo$Flow", "queued", "I", false)
  | _ => ("BearsTwo$Flow", "stride", "I", false)
def tyX2 : Nat → FieldType := fun k => match k with
  | 0 => .object "BearsTwo$Links"
  | 1 => .object "BearsTwo$Net"
  | 2 => .object "BearsTwo$Net"
  | 3 => .array .int
  | 4 => .array .int
  | 5 => .array .int
  | 6 => .int
  | _ => .int
theorem nmX2 : ∀ a, a < 8 → ∀ b, b < 8 → a ≠ b → (TX2 a).2.1 ≠ (TX2 b).2.1 := by decide +kernel
theorem tyX2_ok : ∀ k, k < 8 → parseFieldDescriptor (TX2 k).2.2.1 = some (tyX2 k) := by decide +kernel
theorem inX2 : ∀ w ∈ u_ws RX2 TX2 8, w ∈ lw_w := fun w hw => lw_m ((show ∀ w ∈ u_ws RX2 TX2 8, w ∈ lw_tbl by decide +kernel) w hw) ((show ∀ w ∈ u_ws RX2 TX2 8, goodWord w = true by decide +kernel) w hw)
def RX3 : String := "BearsTwo$Links"
def TX3 : u_T := fun k => match k with
  | 0 => ("BearsTwo$Links", "near", "[I", true)
  | 1 => ("BearsTwo$Links", "far", "[I", true)
  | _ => ("BearsTwo$Links", "next", "[I", true)
def tyX3 : Nat → FieldType := fun k => match k with
  | 0 => .array .int
  | 1 => .array .int
  | _ => .array .int
theorem nmX3 : ∀ a, a < 3 → ∀ b, b < 3 → a ≠ b → (TX3 a).2.1 ≠ (TX3 b).2.1 := by decide +kernel
theorem tyX3_ok : ∀ k, k < 3 → parseFieldDescriptor (TX3 k).2.2.1 = some (tyX3 k) := by decide +kernel
theorem inX3 : ∀ w ∈ u_ws RX3 TX3 3, w ∈ lw_w := fun w hw => lw_m ((show ∀ w ∈ u_ws RX3 TX3 3, w ∈ lw_tbl by decide +kernel) w hw) ((show ∀ w ∈ u_ws RX3 TX3 3, goodWord w = true by decide +kernel) w hw)
def RX4 : String := "BearsTwo$Net"
def TX4 : u_T := fun k => match k with
  | 0 => ("BearsTwo$Net", "near", "I", false)
  | 1 => ("BearsTwo$Net", "far", "I", false)
  | 2 => ("BearsTwo$Net", "most", "I", false)
  | 3 => ("BearsTwo$Net", "entered", "I", false)
  | 4 => ("BearsTwo$Net", "left", "I", false)
  | 5 => ("BearsTwo$Net", "next", "[I", true)
  | 6 => ("BearsTwo$Net", "bears", "[I", true)
  | 7 => ("BearsTwo$Net", "through", "[I", true)
  | 8 => ("BearsTwo$Net", "between", "[I", true)
  | _ => ("BearsTwo$Net", "givers", "[I", true)
def tyX4 : Nat → FieldType := fun k => match k with
  | 0 => .int
  | 1 => .int
  | 2 => .int
  | 3 => .int
  | 4 => .int
  | 5 => .array .int
  | 6 => .array .int
  | 7 => .array .int
  | 8 => .array .int
  | _ => .array .int
theorem nmX4 : ∀ a, a < 10 → ∀ b, b < 10 → a ≠ b → (TX4 a).2.1 ≠ (TX4 b).2.1 := by decide +kernel
theorem tyX4_ok : ∀ k, k < 10 → parseFieldDescriptor (TX4 k).2.2.1 = some (tyX4 k) := by decide +kernel
theorem inX4 : ∀ w ∈ u_ws RX4 TX4 10, w ∈ lw_w := fun w hw => lw_m ((show ∀ w ∈ u_ws RX4 TX4 10, w ∈ lw_tbl by decide +kernel) w hw) ((show ∀ w ∈ u_ws RX4 TX4 10, goodWord w = true by decide +kernel) w hw)
def RX5 : String := "BearsTwo$Orders"
def TX5 : u_T := fun k => match k with
  | 0 => ("BearsTwo$Orders", "bestMust", "I", false)
  | 1 => ("BearsTwo$Orders", "bestWorth", "I", false)
  | 2 => ("BearsTwo$Orders", "told", "LBearsTwo$River;", true)
  | 3 => ("BearsTwo$Orders", "crossing", "LBearsTwo$Crossing;", true)
  | 4 => ("BearsTwo$Orders", "scenes", "[LBearsTwo$Scene;", true)
  | 5 => ("BearsTwo$Orders", "row", "[I", true)
  | 6 => ("BearsTwo$Orders", "bestRow", "[I", true)
  | 7 => ("BearsTwo$Orders", "size", "I", false)
  | _ => ("BearsTwo$Orders", "heldWay", "I", false)
def tyX5 : Nat → FieldType := fun k => match k with
  | 0 => .int
  | 1 => .int
  | 2 => .object "BearsTwo$River"
  | 3 => .object "BearsTwo$Crossing"
  | 4 => .array (.object "BearsTwo$Scene")
  | 5 => .array .int
  | 6 => .array .int
  | 7 => .int
  | _ => .int
theorem nmX5 : ∀ a, a < 9 → ∀ b, b < 9 → a ≠ b → (TX5 a).2.1 ≠ (TX5 b).2.1 := by decide +kernel
theorem tyX5_ok : ∀ k, k < 9 → parseFieldDescriptor (TX5 k).2.2.1 = some (tyX5 k) := by decide +kernel
theorem inX5 : ∀ w ∈ u_ws RX5 TX5 9, w ∈ lw_w := fun w hw => lw_m ((show ∀ w ∈ u_ws RX5 TX5 9, w ∈ lw_tbl by decide +kernel) w hw) ((show ∀ w ∈ u_ws RX5 TX5 9, goodWord w = true by decide +kernel) w hw)
def RX6 : String := "BearsTwo$Reader"
def TX6 : u_T := fun k => match k with
  | 0 => ("BearsTwo$Reader", "told", "LBearsTwo$River;", true)
  | 1 => ("BearsTwo$Reader", "fault", "I", false)
  | 2 => ("BearsTwo$Reader", "place", "I", false)
  | 3 => ("BearsTwo$Reader", "text", "[B", false)
  | 4 => ("BearsTwo$Reader", "size", "I", false)
  | 5 => ("BearsTwo$Reader", "begin", "I", false)
  | 6 => ("BearsTwo$Reader", "stop", "I", false)
  | 7 => ("BearsTwo$Reader", "kind", "I", false)
  | 8 => ("BearsTwo$Reader", "value", "I", false)
  | 9 => ("BearsTwo$Reader", "doubts", "I", false)
  | _ => ("BearsTwo$Reader", "hasPlank", "Z", false)
def tyX6 : Nat → FieldType := fun k => match k with
  | 0 => .object "BearsTwo$River"
  | 1 => .int
  | 2 => .int
  | 3 => .array .byte
  | 4 => .int
  | 5 => .int
  | 6 => .int
  | 7 => .int
  | 8 => .int
  | 9 => .int
  | _ => .boolean
theorem nmX6 : ∀ a, a < 11 → ∀ b, b < 11 → a ≠ b → (TX6 a).2.1 ≠ (TX6 b).2.1 := by decide +kernel
theorem tyX6_ok : ∀ k, k < 11 → parseFieldDescriptor (TX6 k).2.2.1 = some (tyX6 k) := by decide +kernel
theorem inX6 : ∀ w ∈ u_ws RX6 TX6 11, w ∈ lw_w := fun w hw => lw_m ((show ∀ w ∈ u_ws RX6 TX6 11, w ∈ lw_tbl by decide +kernel) w hw) ((show ∀ w ∈ u_ws RX6 TX6 11, goodWord w = true by decide +kernel) w hw)
def RX7 : String := "BearsTwo$River"
def TX7 : u_T := fun k => match k with
  | 0 => ("BearsTwo$River", "lines", "I", false)
  | 1 => ("BearsTwo$River", "wide", "I", false)
  | 2 => ("BearsTwo$River", "span", "I", false)
  | 3 => ("BearsTwo$River", "plank", "I", false)
  | 4 => ("BearsTwo$River", "stones", "I", false)
  | 5 => ("BearsTwo$River", "people", "I", false)
  | 6 => ("BearsTwo$River", "must", "I", false)
  | 7 => ("BearsTwo$River", "returns", "I", false)
  | 8 => ("BearsTwo$River", "x", "[I", true)
  | 9 => ("BearsTwo$River", "y", "[I", true)
  | 10 => ("BearsTwo$River", "bears", "[I", true)
  | 11 => ("BearsTwo$River", "sinks", "[I", true)
  | 12 => ("BearsTwo$River", "doubt", "[I", true)
  | 13 => ("BearsTwo$River", "stride", "[I", true)
  | 14 => ("BearsTwo$River", "weight", "[I", true)
  | 15 => ("BearsTwo$River", "worth", "[I", true)
  | _ => ("BearsTwo$River", "hand", "[I", true)
def tyX7 : Nat → FieldType := fun k => match k with
  | 0 => .int
  | 1 => .int
  | 2 => .int
  | 3 => .int
  | 4 => .int
  | 5 => .int
  | 6 => .int
  | 7 => .int
  | 8 => .array .int
  | 9 => .array .int
  | 10 => .array .int
  | 11 => .array .int
  | 12 => .array .int
  | 13 => .array .int
  | 14 => .array .int
  | 15 => .array .int
  | _ => .array .int
theorem nmX7 : ∀ a, a < 17 → ∀ b, b < 17 → a ≠ b → (TX7 a).2.1 ≠ (TX7 b).2.1 := by decide +kernel
theorem tyX7_ok : ∀ k, k < 17 → parseFieldDescriptor (TX7 k).2.2.1 = some (tyX7 k) := by decide +kernel
theorem inX7 : ∀ w ∈ u_ws RX7 TX7 17, w ∈ lw_w := fun w hw => lw_m ((show ∀ w ∈ u_ws RX7 TX7 17, w ∈ lw_tbl by decide +kernel) w hw) ((show ∀ w ∈ u_ws RX7 TX7 17, goodWord w = true by decide +kernel) w hw)
def RX8 : String := "BearsTwo$Row"
def TX8 : u_T := fun k => match k with
  | 0 => ("BearsTwo$Row", "there", "Z", false)
  | 1 => ("BearsTwo$Row", "width", "I", false)
  | 2 => ("BearsTwo$Row", "size", "I", false)
  | _ => ("BearsTwo$Row", "numbers", "[J", true)
def tyX8 : Nat → FieldType := fun k => match k with
  | 0 => .boolean
  | 1 => .int
  | 2 => .int
  | _ => .array .long
theorem nmX8 : ∀ a, a < 4 → ∀ b, b < 4 → a ≠ b → (TX8 a).2.1 ≠ (TX8 b).2.1 := by decide +kernel
theorem tyX8_ok : ∀ k, k < 4 → parseFieldDescriptor (TX8 k).2.2.1 = some (tyX8 k) := by decide +kernel
theorem inX8 : ∀ w ∈ u_ws RX8 TX8 4, w ∈ lw_w := fun w hw => lw_m ((show ∀ w ∈ u_ws RX8 TX8 4, w ∈ lw_tbl by decide +kernel) w hw) ((show ∀ w ∈ u_ws RX8 TX8 4, goodWord w = true by decide +kernel) w hw)
def RX9 : String := "BearsTwo$Scene"
def TX9 : u_T := fun k => match k with
  | 0 => ("BearsTwo$Scene", "told", "LBearsTwo$River;", true)
  | 1 => ("BearsTwo$Scene", "hour", "I", false)
  | 2 => ("BearsTwo$Scene", "borne", "[I", true)
  | 3 => ("BearsTwo$Scene", "known", "[I", true)
  | _ => ("BearsTwo$Scene", "place", "[I", true)
def tyX9 : Nat → FieldType := fun k => match k with
  | 0 => .object "BearsTwo$River"
  | 1 => .int
  | 2 => .array .int
  | 3 => .array .int
  | _ => .array .int
theorem nmX9 : ∀ a, a < 5 → ∀ b, b < 5 → a ≠ b → (TX9 a).2.1 ≠ (TX9 b).2.1 := by decide +kernel
theorem tyX9_ok : ∀ k, k < 5 → parseFieldDescriptor (TX9 k).2.2.1 = some (tyX9 k) := by decide +kernel
theorem inX9 : ∀ w ∈ u_ws RX9 TX9 5, w ∈ lw_w := fun w hw => lw_m ((show ∀ w ∈ u_ws RX9 TX9 5, w ∈ lw_tbl by decide +kernel) w hw) ((show ∀ w ∈ u_ws RX9 TX9 5, goodWord w = true by decide +kernel) w hw)
def RX10 : String := "BearsTwo$Ways"
def TX10 : u_T := fun k => match k with
  | 0 => ("BearsTwo$Ways", "row", "[I", true)
  | 1 => ("BearsTwo$Ways", "size", "I", false)
  | 2 => ("BearsTwo$Ways", "links", "LBearsTwo$Links;", true)
  | 3 => ("BearsTwo$Ways", "cost", "[I", true)
  | 4 => ("BearsTwo$Ways", "tail", "[I", true)
  | _ => ("BearsTwo$Ways", "reached", "[I", true)
def tyX10 : Nat → FieldType := fun k => match k with
  | 0 => .array .int
  | 1 => .int
  | 2 => .object "BearsTwo$Links"
  | 3 => .array .int
  | 4 => .array .int
  | _ => .array .int
theorem nmX10 : ∀ a, a < 6 → ∀ b, b < 6 → a ≠ b → (TX10 a).2.1 ≠ (TX10 b).2.1 := by decide +kernel
theorem tyX10_ok : ∀ k, k < 6 → parseFieldDescriptor (TX10 k).2.2.1 = some (tyX10 k) := by decide +kernel
theorem inX10 : ∀ w ∈ u_ws RX10 TX10 6, w ∈ lw_w := fun w hw => lw_m ((show ∀ w ∈ u_ws RX10 TX10 6, w ∈ lw_tbl by decide +kernel) w hw) ((show ∀ w ∈ u_ws RX10 TX10 6, goodWord w = true by decide +kernel) w hw)
def RX11 : String := "BearsTwo"
def TX11 : u_T := fun k => match k with
  | 0 => ("BearsTwo", "tape", "[B", true)
  | 1 => ("BearsTwo", "tapeSize", "I", false)
  | 2 => ("BearsTwo", "faultKind", "I", false)
  | 3 => ("BearsTwo", "faultPlace", "I", false)
  | 4 => ("BearsTwo", "reader", "LBearsTwo$Reader;", true)
  | 5 => ("BearsTwo", "told", "LBearsTwo$River;", true)
  | 6 => ("BearsTwo", "now", "LBearsTwo$Scene;", true)
  | 7 => ("BearsTwo", "thought", "LBearsTwo$Scene;", true)
  | 8 => ("BearsTwo", "links", "LBearsTwo$Links;", true)
  | 9 => ("BearsTwo", "ways", "LBearsTwo$Ways;", true)
  | 10 => ("BearsTwo", "crossing", "LBearsTwo$Crossing;", true)
  | 11 => ("BearsTwo", "orders", "LBearsTwo$Orders;", true)
  | 12 => ("BearsTwo", "doubts", "LBearsTwo$Doubts;", true)
  | 13 => ("BearsTwo", "flow", "LBearsTwo$Flow;", true)
  | 14 => ("BearsTwo", "slots", "[LBearsTwo$Row;", true)
  | 15 => ("BearsTwo", "keptRivers", "[LBearsTwo$River;", true)
  | 16 => ("BearsTwo", "keptScenes", "[LBearsTwo$Scene;", true)
  | _ => ("BearsTwo", "kept", "[Z", true)
def tyX11 : Nat → FieldType := fun k => match k with
  | 0 => .array .byte
  | 1 => .int
  | 2 => .int
  | 3 => .int
  | 4 => .object "BearsTwo$Reader"
  | 5 => .object "BearsTwo$River"
  | 6 => .object "BearsTwo$Scene"
  | 7 => .object "BearsTwo$Scene"
  | 8 => .object "BearsTwo$Links"
  | 9 => .object "BearsTwo$Ways"
  | 10 => .object "BearsTwo$Crossing"
  | 11 => .object "BearsTwo$Orders"
  | 12 => .object "BearsTwo$Doubts"
  | 13 => .object "BearsTwo$Flow"
  | 14 => .array (.object "BearsTwo$Row")
  | 15 => .array (.object "BearsTwo$River")
  | 16 => .array (.object "BearsTwo$Scene")
  | _ => .array .boolean
theorem nmX11 : ∀ a, a < 18 → ∀ b, b < 18 → a ≠ b → (TX11 a).2.1 ≠ (TX11 b).2.1 := by decide +kernel
theorem tyX11_ok : ∀ k, k < 18 → parseFieldDescriptor (TX11 k).2.2.1 = some (tyX11 k) := by decide +kernel
theorem inX11 : ∀ w ∈ u_ws RX11 TX11 18, w ∈ lw_w := fun w hw => lw_m ((show ∀ w ∈ u_ws RX11 TX11 18, w ∈ lw_tbl by decide +kernel) w hw) ((show ∀ w ∈ u_ws RX11 TX11 18, goodWord w = true by decide +kernel) w hw)
def RX12 : String := "BearsTwoModel"
def TX12 : u_T := fun k => match k with
  | 0 => ("BearsTwoModel", "thrown", "I", false)
  | 1 => ("BearsTwoModel", "world", "[I", true)
  | 2 => ("BearsTwoModel", "images", "[I", true)
  | 3 => ("BearsTwoModel", "hasImage", "[Z", true)
  | 4 => ("BearsTwoModel", "tape", "[B", true)
  | 5 => ("BearsTwoModel", "taped", "I", false)
  | 6 => ("BearsTwoModel", "five", "[I", true)
  | 7 => ("BearsTwoModel", "size", "I", false)
  | 8 => ("BearsTwoModel", "at", "I", false)
  | 9 => ("BearsTwoModel", "from", "I", false)
  | 10 => ("BearsTwoModel", "token", "I", false)
  | 11 => ("BearsTwoModel", "value", "I", false)
  | 12 => ("BearsTwoModel", "faultKind", "I", false)
  | 13 => ("BearsTwoModel", "faultPlace", "I", false)
  | 14 => ("BearsTwoModel", "fresh", "[I", true)
  | 15 => ("BearsTwoModel", "costs", "[I", true)
  | 16 => ("BearsTwoModel", "leftCost", "[I", true)
  | 17 => ("BearsTwoModel", "leftMany", "[I", true)
  | 18 => ("BearsTwoModel", "row", "[I", true)
  | 19 => ("BearsTwoModel", "rowMany", "I", false)
  | 20 => ("BearsTwoModel", "kept", "[I", true)
  | 21 => ("BearsTwoModel", "deep", "I", false)
  | 22 => ("BearsTwoModel", "overMany", "I", false)
  | 23 => ("BearsTwoModel", "overWorth", "I", false)
  | 24 => ("BearsTwoModel", "overBits", "I", false)
  | 25 => ("BearsTwoModel", "overMust", "I", false)
  | 26 => ("BearsTwoModel", "waiting", "[I", true)
  | 27 => ("BearsTwoModel", "waitingMany", "I", false)
  | 28 => ("BearsTwoModel", "order", "[I", true)
  | 29 => ("BearsTwoModel", "bestOrder", "[I", true)
  | 30 => ("BearsTwoModel", "bestWorth", "I", false)
  | 31 => ("BearsTwoModel", "bestMust", "I", false)
  | 32 => ("BearsTwoModel", "nodeX", "[I", true)
  | 33 => ("BearsTwoModel", "nodeY", "[I", true)
  | 34 => ("BearsTwoModel", "holds", "[I", true)
  | 35 => ("BearsTwoModel", "nodes", "I", false)
  | 36 => ("BearsTwoModel", "room", "[I", true)
  | 37 => ("BearsTwoModel", "cameBy", "[I", true)
  | 38 => ("BearsTwoModel", "queue", "[I", true)
  | 39 => ("BearsTwoModel", "plankA", "I", false)
  | 40 => ("BearsTwoModel", "plankB", "I", false)
  | 41 => ("BearsTwoModel", "chance", "[J", true)
  | 42 => ("BearsTwoModel", "drawn", "J", false)
  | 43 => ("BearsTwoModel", "many", "[I", true)
  | 44 => ("BearsTwoModel", "width", "[I", true)
  | 45 => ("BearsTwoModel", "numbers", "[J", true)
  | _ => ("BearsTwoModel", "moving", "[J", true)
def tyX12 : Nat → FieldType := fun k => match k with
  | 0 => .int
  | 1 => .array .int
  | 2 => .array .int
  | 3 => .array .boolean
  | 4 => .array .byte
  | 5 => .int
  | 6 => .array .int
  | 7 => .int
  | 8 => .int
  | 9 => .int
  | 10 => .int
  | 11 => .int
  | 12 => .int
  | 13 => .int
  | 14 => .array .int
  | 15 => .array .int
  | 16 => .array .int
  | 17 => .array .int
  | 18 => .array .int
  | 19 => .int
  | 20 => .array .int
  | 21 => .int
  | 22 => .int
  | 23 => .int
  | 24 => .int
  | 25 => .int
  | 26 => .array .int
  | 27 => .int
  | 28 => .array .int
  | 29 => .array .int
  | 30 => .int
  | 31 => .int
  | 32 => .array .int
  | 33 => .array .int
  | 34 => .array .int
  | 35 => .int
  | 36 => .array .int
  | 37 => .array .int
  | 38 => .array .int
  | 39 => .int
  | 40 => .int
  | 41 => .array .long
  | 42 => .long
  | 43 => .array .int
  | 44 => .array .int
  | 45 => .array .long
  | _ => .array .long
theorem nmX12 : ∀ a, a < 47 → ∀ b, b < 47 → a ≠ b → (TX12 a).2.1 ≠ (TX12 b).2.1 := by decide +kernel
theorem tyX12_ok : ∀ k, k < 47 → parseFieldDescriptor (TX12 k).2.2.1 = some (tyX12 k) := by decide +kernel
theorem inX12 : ∀ w ∈ u_ws RX12 TX12 47, w ∈ lw_w := fun w hw => lw_m ((show ∀ w ∈ u_ws RX12 TX12 47, w ∈ lw_tbl by decide +kernel) w hw) ((show ∀ w ∈ u_ws RX12 TX12 47, goodWord w = true by decide +kernel) w hw)
abbrev classes : List vw_C := [(RX0, TX0, 1), (RX1, TX1, 3), (RX2, TX2, 8), (RX3, TX3, 3), (RX4, TX4, 10), (RX5, TX5, 9), (RX6, TX6, 11), (RX7, TX7, 17), (RX8, TX8, 4), (RX9, TX9, 5), (RX10, TX10, 6), (RX11, TX11, 18), (RX12, TX12, 47)]
