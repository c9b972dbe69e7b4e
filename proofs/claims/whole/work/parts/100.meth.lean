def fnJ6_bitCount_0f7a4 (v0 : Int32) : sm_M Int32 := m_nm (v0 - (((v0.toUInt32 >>> ((1 : Int32).toUInt32 &&& Int32.toUInt32 31)).toInt32) &&& (1431655765 : Int32))) fun y9 => m_nm ((y9 &&& (858993459 : Int32)) + (((y9.toUInt32 >>> ((2 : Int32).toUInt32 &&& Int32.toUInt32 31)).toInt32) &&& (858993459 : Int32))) fun y23 => m_nm ((y23 + ((y23.toUInt32 >>> ((4 : Int32).toUInt32 &&& Int32.toUInt32 31)).toInt32)) &&& (252645135 : Int32)) fun y33 => m_nm (y33 + ((y33.toUInt32 >>> ((8 : Int32).toUInt32 &&& Int32.toUInt32 31)).toInt32)) fun y40 => m_nm (y40 + ((y40.toUInt32 >>> ((16 : Int32).toUInt32 &&& Int32.toUInt32 31)).toInt32)) fun y47 => m_ret (y47 &&& (63 : Int32))
set_option maxHeartbeats 4000000 in
set_option maxRecDepth 100000 in
theorem slJ6_bitCount_0f7a4 {κ : sm_X} (C : sm_C κ "java/lang/Integer" cJ6_bitCount_0f7a4 1 1) (v0 : Int32)  : sm_S κ (fun r : Int32 => .inr (some (.int r))) (.inl (0, [some (.int v0)], [])) (fnJ6_bitCount_0f7a4 v0) := by
  unfold fnJ6_bitCount_0f7a4
  refine sr_iload_n (i := 0) (q := 1) C (show decode cJ6_bitCount_0f7a4 0 = .ok (.iload_n 0, 1) from by decide +kernel) rfl rfl rfl ?_
  refine sr_iload_n (i := 0) (q := 2) C (show decode cJ6_bitCount_0f7a4 1 = .ok (.iload_n 0, 1) from by decide +kernel) rfl rfl rfl ?_
  refine sr_iconst (v := (1 : Int32)) (q := 3) C (show decode cJ6_bitCount_0f7a4 2 = .ok (.iconst 1, 1) from by decide +kernel) (by decide) rfl ?_
  refine sr_iushr (q := 4) C (show decode cJ6_bitCount_0f7a4 3 = .ok (.iushr, 1) from by decide +kernel) rfl ?_
  refine sr_ldcw (q := 7) C co_J6_265 (show decode cJ6_bitCount_0f7a4 4 = .ok (.ldc_w 265, 3) from by decide +kernel) rfl ?_
  refine sr_iand (q := 8) C (show decode cJ6_bitCount_0f7a4 7 = .ok (.iand, 1) from by decide +kernel) rfl ?_
  refine sr_isub (q := 9) C (show decode cJ6_bitCount_0f7a4 8 = .ok (.isub, 1) from by decide +kernel) rfl ?_
  refine sr_nmi (fun y9 => ?_)
  refine sr_istore_n (i := 0) (L' := [some (.int y9)]) (q := 10) C (show decode cJ6_bitCount_0f7a4 9 = .ok (.istore_n 0, 1) from by decide +kernel) rfl (by decide) rfl rfl ?_
  refine sr_iload_n (i := 0) (q := 11) C (show decode cJ6_bitCount_0f7a4 10 = .ok (.iload_n 0, 1) from by decide +kernel) rfl rfl rfl ?_
  refine sr_ldcw (q := 14) C co_J6_266 (show decode cJ6_bitCount_0f7a4 11 = .ok (.ldc_w 266, 3) from by decide +kernel) rfl ?_
  refine sr_iand (q := 15) C (show decode cJ6_bitCount_0f7a4 14 = .ok (.iand, 1) from by decide +kernel) rfl ?_
  refine sr_iload_n (i := 0) (q := 16) C (show decode cJ6_bitCount_0f7a4 15 = .ok (.iload_n 0, 1) from by decide +kernel) rfl rfl rfl ?_
  refine sr_iconst (v := (2 : Int32)) (q := 17) C (show decode cJ6_bitCount_0f7a4 16 = .ok (.iconst 2, 1) from by decide +kernel) (by decide) rfl ?_
  refine sr_iushr (q := 18) C (show decode cJ6_bitCount_0f7a4 17 = .ok (.iushr, 1) from by decide +kernel) rfl ?_
  refine sr_ldcw (q := 21) C co_J6_266 (show decode cJ6_bitCount_0f7a4 18 = .ok (.ldc_w 266, 3) from by decide +kernel) rfl ?_
  refine sr_iand (q := 22) C (show decode cJ6_bitCount_0f7a4 21 = .ok (.iand, 1) from by decide +kernel) rfl ?_
  refine sr_iadd (q := 23) C (show decode cJ6_bitCount_0f7a4 22 = .ok (.iadd, 1) from by decide +kernel) rfl ?_
  refine sr_nmi (fun y23 => ?_)
  refine sr_istore_n (i := 0) (L' := [some (.int y23)]) (q := 24) C (show decode cJ6_bitCount_0f7a4 23 = .ok (.istore_n 0, 1) from by decide +kernel) rfl (by decide) rfl rfl ?_
  refine sr_iload_n (i := 0) (q := 25) C (show decode cJ6_bitCount_0f7a4 24 = .ok (.iload_n 0, 1) from by decide +kernel) rfl rfl rfl ?_
  refine sr_iload_n (i := 0) (q := 26) C (show decode cJ6_bitCount_0f7a4 25 = .ok (.iload_n 0, 1) from by decide +kernel) rfl rfl rfl ?_
  refine sr_iconst (v := (4 : Int32)) (q := 27) C (show decode cJ6_bitCount_0f7a4 26 = .ok (.iconst 4, 1) from by decide +kernel) (by decide) rfl ?_
  refine sr_iushr (q := 28) C (show decode cJ6_bitCount_0f7a4 27 = .ok (.iushr, 1) from by decide +kernel) rfl ?_
  refine sr_iadd (q := 29) C (show decode cJ6_bitCount_0f7a4 28 = .ok (.iadd, 1) from by decide +kernel) rfl ?_
  refine sr_ldcw (q := 32) C co_J6_267 (show decode cJ6_bitCount_0f7a4 29 = .ok (.ldc_w 267, 3) from by decide +kernel) rfl ?_
  refine sr_iand (q := 33) C (show decode cJ6_bitCount_0f7a4 32 = .ok (.iand, 1) from by decide +kernel) rfl ?_
  refine sr_nmi (fun y33 => ?_)
  refine sr_istore_n (i := 0) (L' := [some (.int y33)]) (q := 34) C (show decode cJ6_bitCount_0f7a4 33 = .ok (.istore_n 0, 1) from by decide +kernel) rfl (by decide) rfl rfl ?_
  refine sr_iload_n (i := 0) (q := 35) C (show decode cJ6_bitCount_0f7a4 34 = .ok (.iload_n 0, 1) from by decide +kernel) rfl rfl rfl ?_
  refine sr_iload_n (i := 0) (q := 36) C (show decode cJ6_bitCount_0f7a4 35 = .ok (.iload_n 0, 1) from by decide +kernel) rfl rfl rfl ?_
  refine sr_bipush (v := (8 : Int32)) (q := 38) C (show decode cJ6_bitCount_0f7a4 36 = .ok (.bipush 8, 2) from by decide +kernel) (by decide) rfl ?_
  refine sr_iushr (q := 39) C (show decode cJ6_bitCount_0f7a4 38 = .ok (.iushr, 1) from by decide +kernel) rfl ?_
  refine sr_iadd (q := 40) C (show decode cJ6_bitCount_0f7a4 39 = .ok (.iadd, 1) from by decide +kernel) rfl ?_
  refine sr_nmi (fun y40 => ?_)
  refine sr_istore_n (i := 0) (L' := [some (.int y40)]) (q := 41) C (show decode cJ6_bitCount_0f7a4 40 = .ok (.istore_n 0, 1) from by decide +kernel) rfl (by decide) rfl rfl ?_
  refine sr_iload_n (i := 0) (q := 42) C (show decode cJ6_bitCount_0f7a4 41 = .ok (.iload_n 0, 1) from by decide +kernel) rfl rfl rfl ?_
  refine sr_iload_n (i := 0) (q := 43) C (show decode cJ6_bitCount_0f7a4 42 = .ok (.iload_n 0, 1) from by decide +kernel) rfl rfl rfl ?_
  refine sr_bipush (v := (16 : Int32)) (q := 45) C (show decode cJ6_bitCount_0f7a4 43 = .ok (.bipush 16, 2) from by decide +kernel) (by decide) rfl ?_
  refine sr_iushr (q := 46) C (show decode cJ6_bitCount_0f7a4 45 = .ok (.iushr, 1) from by decide +kernel) rfl ?_
  refine sr_iadd (q := 47) C (show decode cJ6_bitCount_0f7a4 46 = .ok (.iadd, 1) from by decide +kernel) rfl ?_
  refine sr_nmi (fun y47 => ?_)
  refine sr_istore_n (i := 0) (L' := [some (.int y47)]) (q := 48) C (show decode cJ6_bitCount_0f7a4 47 = .ok (.istore_n 0, 1) from by decide +kernel) rfl (by decide) rfl rfl ?_
  refine sr_iload_n (i := 0) (q := 49) C (show decode cJ6_bitCount_0f7a4 48 = .ok (.iload_n 0, 1) from by decide +kernel) rfl rfl rfl ?_
  refine sr_bipush (v := (63 : Int32)) (q := 51) C (show decode cJ6_bitCount_0f7a4 49 = .ok (.bipush 63, 2) from by decide +kernel) (by decide) rfl ?_
  refine sr_iand (q := 52) C (show decode cJ6_bitCount_0f7a4 51 = .ok (.iand, 1) from by decide +kernel) rfl ?_
  exact sr_ireturn C _ rfl (show decode cJ6_bitCount_0f7a4 52 = .ok (.ireturn, 1) from by decide +kernel)
theorem cnJ6_bitCount_0f7a4 (ω : sm_O) (v0 : Int32)  : sm_Mt 1 yJ6_bitCount_0f7a4 cJ6_bitCount_0f7a4 1 (some .int) ω [.int v0] (fun a => some (.int a)) (fnJ6_bitCount_0f7a4 v0) := by
  refine sm_conI (r := fun a => a) (by decide) (fun _ => rfl) (Nat.le_of_ble_eq_true rfl) ?_
  intro κ hκ C
  subst hκ
  exact slJ6_bitCount_0f7a4 C v0
def fnJ6_numberOfTrailingZeros_0f7a4_J74 (v0 : Int32) (v1 : Int32) : sm_M Int32 := m_ret (v1 + ((v0.toUInt32 >>> ((1 : Int32).toUInt32 &&& Int32.toUInt32 31)).toInt32))
set_option maxHeartbeats 4000000 in
set_option maxRecDepth 100000 in
theorem slJ6_numberOfTrailingZeros_0f7a4_J74 {κ : sm_X} (C : sm_C κ "java/lang/Integer" cJ6_numberOfTrailingZeros_0f7a4 2 1) (v0 : Int32) (v1 : Int32)  : sm_S κ (fun r : Int32 => .inr (some (.int r))) (.inl (74, [some (.int v0), some (.int v1)], [])) (fnJ6_numberOfTrailingZeros_0f7a4_J74 v0 v1) := by
  unfold fnJ6_numberOfTrailingZeros_0f7a4_J74
  refine sr_iload_n (i := 1) (q := 75) C (show decode cJ6_numberOfTrailingZeros_0f7a4 74 = .ok (.iload_n 1, 1) from by decide +kernel) rfl rfl rfl ?_
  refine sr_iload_n (i := 0) (q := 76) C (show decode cJ6_numberOfTrailingZeros_0f7a4 75 = .ok (.iload_n 0, 1) from by decide +kernel) rfl rfl rfl ?_
  refine sr_iconst (v := (1 : Int32)) (q := 77) C (show decode cJ6_numberOfTrailingZeros_0f7a4 76 = .ok (.iconst 1, 1) from by decide +kernel) (by decide) rfl ?_
  refine sr_iushr (q := 78) C (show decode cJ6_numberOfTrailingZeros_0f7a4 77 = .ok (.iushr, 1) from by decide +kernel) rfl ?_
  refine sr_iadd (q := 79) C (show decode cJ6_numberOfTrailingZeros_0f7a4 78 = .ok (.iadd, 1) from by decide +kernel) rfl ?_
  exact sr_ireturn C _ rfl (show decode cJ6_numberOfTrailingZeros_0f7a4 79 = .ok (.ireturn, 1) from by decide +kernel)
def fnJ6_numberOfTrailingZeros_0f7a4_J62 (v0 : Int32) (v1 : Int32) : sm_M Int32 := m_br (v0 ≤ (4 : Int32))
    (fnJ6_numberOfTrailingZeros_0f7a4_J74 v0 v1)
    (m_nm ((v0.toUInt32 >>> ((2 : Int32).toUInt32 &&& Int32.toUInt32 31)).toInt32) fun y73 => fnJ6_numberOfTrailingZeros_0f7a4_J74 y73 (v1 + (2 : Int32)))
set_option maxHeartbeats 4000000 in
set_option maxRecDepth 100000 in
theorem slJ6_numberOfTrailingZeros_0f7a4_J62 {κ : sm_X} (C : sm_C κ "java/lang/Integer" cJ6_numberOfTrailingZeros_0f7a4 2 1) (v0 : Int32) (v1 : Int32)  : sm_S κ (fun r : Int32 => .inr (some (.int r))) (.inl (62, [some (.int v0), some (.int v1)], [])) (fnJ6_numberOfTrailingZeros_0f7a4_J62 v0 v1) := by
  unfold fnJ6_numberOfTrailingZeros_0f7a4_J62
  refine sr_iload_n (i := 0) (q := 63) C (show decode cJ6_numberOfTrailingZeros_0f7a4 62 = .ok (.iload_n 0, 1) from by decide +kernel) rfl rfl rfl ?_
  refine sr_iconst (v := (4 : Int32)) (q := 64) C (show decode cJ6_numberOfTrailingZeros_0f7a4 63 = .ok (.iconst 4, 1) from by decide +kernel) (by decide) rfl ?_
  refine sr_icmp_le (q := 67) C 74 (show decode cJ6_numberOfTrailingZeros_0f7a4 64 = .ok (.if_icmp .le 10, 3) from by decide +kernel) (by decide) rfl ?_ ?_
  · exact slJ6_numberOfTrailingZeros_0f7a4_J74 C v0 v1
  · refine sr_iinc (v := v1 + (2 : Int32)) (L' := [some (.int v0), some (.int (v1 + (2 : Int32)))]) (q := 70) C (show decode cJ6_numberOfTrailingZeros_0f7a4 67 = .ok (.iinc 1 2, 3) from by decide +kernel) rfl rfl (by decide) rfl rfl ?_
    refine sr_iload_n (i := 0) (q := 71) C (show decode cJ6_numberOfTrailingZeros_0f7a4 70 = .ok (.iload_n 0, 1) from by decide +kernel) rfl rfl rfl ?_
    refine sr_iconst (v := (2 : Int32)) (q := 72) C (show decode cJ6_numberOfTrailingZeros_0f7a4 71 = .ok (.iconst 2, 1) from by decide +kernel) (by decide) rfl ?_
    refine sr_iushr (q := 73) C (show decode cJ6_numberOfTrailingZeros_0f7a4 72 = .ok (.iushr, 1) from by decide +kernel) rfl ?_
    refine sr_nmi (fun y73 => ?_)
    refine sr_istore_n (i := 0) (L' := [some (.int y73), some (.int (v1 + (2 : Int32)))]) (q := 74) C (show decode cJ6_numberOfTrailingZeros_0f7a4 73 = .ok (.istore_n 0, 1) from by decide +kernel) rfl (by decide) rfl rfl ?_
    exact slJ6_numberOfTrailingZeros_0f7a4_J74 C y73 (v1 + (2 : Int32))
def fnJ6_numberOfTrailingZeros_0f7a4_J49 (v0 : Int32) (v1 : Int32) : sm_M Int32 := m_br (v0 ≤ (16 : Int32))
    (fnJ6_numberOfTrailingZeros_0f7a4_J62 v0 v1)
    (m_nm ((v0.toUInt32 >>> ((4 : Int32).toUInt32 &&& Int32.toUInt32 31)).toInt32) fun y61 => fnJ6_numberOfTrailingZeros_0f7a4_J62 y61 (v1 + (4 : Int32)))
set_option maxHeartbeats 4000000 in
set_option maxRecDepth 100000 in
theorem slJ6_numberOfTrailingZeros_0f7a4_J49 {κ : sm_X} (C : sm_C κ "java/lang/Integer" cJ6_numberOfTrailingZeros_0f7a4 2 1) (v0 : Int32) (v1 : Int32)  : sm_S κ (fun r : Int32 => .inr (some (.int r))) (.inl (49, [some (.int v0), some (.int v1)], [])) (fnJ6_numberOfTrailingZeros_0f7a4_J49 v0 v1) := by
  unfold fnJ6_numberOfTrailingZeros_0f7a4_J49
  refine sr_iload_n (i := 0) (q := 50) C (show decode cJ6_numberOfTrailingZeros_0f7a4 49 = .ok (.iload_n 0, 1) from by decide +kernel) rfl rfl rfl ?_
  refine sr_bipush (v := (16 : Int32)) (q := 52) C (show decode cJ6_numberOfTrailingZeros_0f7a4 50 = .ok (.bipush 16, 2) from by decide +kernel) (by decide) rfl ?_
  refine sr_icmp_le (q := 55) C 62 (show decode cJ6_numberOfTrailingZeros_0f7a4 52 = .ok (.if_icmp .le 10, 3) from by decide +kernel) (by decide) rfl ?_ ?_
  · exact slJ6_numberOfTrailingZeros_0f7a4_J62 C v0 v1
  · refine sr_iinc (v := v1 + (4 : Int32)) (L' := [some (.int v0), some (.int (v1 + (4 : Int32)))]) (q := 58) C (show decode cJ6_numberOfTrailingZeros_0f7a4 55 = .ok (.iinc 1 4, 3) from by decide +kernel) rfl rfl (by decide) rfl rfl ?_
    refine sr_iload_n (i := 0) (q := 59) C (show decode cJ6_numberOfTrailingZeros_0f7a4 58 = .ok (.iload_n 0, 1) from by decide +kernel) rfl rfl rfl ?_
    refine sr_iconst (v := (4 : Int32)) (q := 60) C (show decode cJ6_numberOfTrailingZeros_0f7a4 59 = .ok (.iconst 4, 1) from by decide +kernel) (by decide) rfl ?_
    refine sr_iushr (q := 61) C (show decode cJ6_numberOfTrailingZeros_0f7a4 60 = .ok (.iushr, 1) from by decide +kernel) rfl ?_
    refine sr_nmi (fun y61 => ?_)
    refine sr_istore_n (i := 0) (L' := [some (.int y61), some (.int (v1 + (4 : Int32)))]) (q := 62) C (show decode cJ6_numberOfTrailingZeros_0f7a4 61 = .ok (.istore_n 0, 1) from by decide +kernel) rfl (by decide) rfl rfl ?_
    exact slJ6_numberOfTrailingZeros_0f7a4_J62 C y61 (v1 + (4 : Int32))
def fnJ6_numberOfTrailingZeros_0f7a4_J34 (v0 : Int32) (v1 : Int32) : sm_M Int32 := m_br (v0 ≤ (256 : Int32))
    (fnJ6_numberOfTrailingZeros_0f7a4_J49 v0 v1)
    (m_nm ((v0.toUInt32 >>> ((8 : Int32).toUInt32 &&& Int32.toUInt32 31)).toInt32) fun y48 => fnJ6_numberOfTrailingZeros_0f7a4_J49 y48 (v1 + (8 : Int32)))
set_option maxHeartbeats 4000000 in
set_option maxRecDepth 100000 in
theorem slJ6_numberOfTrailingZeros_0f7a4_J34 {κ : sm_X} (C : sm_C κ "java/lang/Integer" cJ6_numberOfTrailingZeros_0f7a4 2 1) (v0 : Int32) (v1 : Int32)  : sm_S κ (fun r : Int32 => .inr (some (.int r))) (.inl (34, [some (.int v0), some (.int v1)], [])) (fnJ6_numberOfTrailingZeros_0f7a4_J34 v0 v1) := by
  unfold fnJ6_numberOfTrailingZeros_0f7a4_J34
  refine sr_iload_n (i := 0) (q := 35) C (show decode cJ6_numberOfTrailingZeros_0f7a4 34 = .ok (.iload_n 0, 1) from by decide +kernel) rfl rfl rfl ?_
  refine sr_sipush (v := (256 : Int32)) (q := 38) C (show decode cJ6_numberOfTrailingZeros_0f7a4 35 = .ok (.sipush 256, 3) from by decide +kernel) (by decide) rfl ?_
  refine sr_icmp_le (q := 41) C 49 (show decode cJ6_numberOfTrailingZeros_0f7a4 38 = .ok (.if_icmp .le 11, 3) from by decide +kernel) (by decide) rfl ?_ ?_
  · exact slJ6_numberOfTrailingZeros_0f7a4_J49 C v0 v1
  · refine sr_iinc (v := v1 + (8 : Int32)) (L' := [some (.int v0), some (.int (v1 + (8 : Int32)))]) (q := 44) C (show decode cJ6_numberOfTrailingZeros_0f7a4 41 = .ok (.iinc 1 8, 3) from by decide +kernel) rfl rfl (by decide) rfl rfl ?_
    refine sr_iload_n (i := 0) (q := 45) C (show decode cJ6_numberOfTrailingZeros_0f7a4 44 = .ok (.iload_n 0, 1) from by decide +kernel) rfl rfl rfl ?_
    refine sr_bipush (v := (8 : Int32)) (q := 47) C (show decode cJ6_numberOfTrailingZeros_0f7a4 45 = .ok (.bipush 8, 2) from by decide +kernel) (by decide) rfl ?_
    refine sr_iushr (q := 48) C (show decode cJ6_numberOfTrailingZeros_0f7a4 47 = .ok (.iushr, 1) from by decide +kernel) rfl ?_
    refine sr_nmi (fun y48 => ?_)
    refine sr_istore_n (i := 0) (L' := [some (.int y48), some (.int (v1 + (8 : Int32)))]) (q := 49) C (show decode cJ6_numberOfTrailingZeros_0f7a4 48 = .ok (.istore_n 0, 1) from by decide +kernel) rfl (by decide) rfl rfl ?_
    exact slJ6_numberOfTrailingZeros_0f7a4_J49 C y48 (v1 + (8 : Int32))
def fnJ6_numberOfTrailingZeros_0f7a4 (v0 : Int32) : sm_M Int32 := m_nm ((v0 ^^^ (-1 : Int32)) &&& (v0 - (1 : Int32))) fun y7 => m_br (0 < y7)
    (m_br (y7 ≤ (65536 : Int32))
    (fnJ6_numberOfTrailingZeros_0f7a4_J34 y7 (1 : Int32))
    (m_nm ((y7.toUInt32 >>> ((16 : Int32).toUInt32 &&& Int32.toUInt32 31)).toInt32) fun y33 => fnJ6_numberOfTrailingZeros_0f7a4_J34 y33 ((1 : Int32) + (16 : Int32))))
    (m_ret (y7 &&& (32 : Int32)))
set_option maxHeartbeats 4000000 in
set_option maxRecDepth 100000 in
theorem slJ6_numberOfTrailingZeros_0f7a4 {κ : sm_X} (C : sm_C κ "java/lang/Integer" cJ6_numberOfTrailingZeros_0f7a4 2 1) (v0 : Int32)  : sm_S κ (fun r : Int32 => .inr (some (.int r))) (.inl (0, [some (.int v0), none], [])) (fnJ6_numberOfTrailingZeros_0f7a4 v0) := by
  unfold fnJ6_numberOfTrailingZeros_0f7a4
  refine sr_iload_n (i := 0) (q := 1) C (show decode cJ6_numberOfTrailingZeros_0f7a4 0 = .ok (.iload_n 0, 1) from by decide +kernel) rfl rfl rfl ?_
  refine sr_iconst (v := (-1 : Int32)) (q := 2) C (show decode cJ6_numberOfTrailingZeros_0f7a4 1 = .ok (.iconst (-1), 1) from by decide +kernel) (by decide) rfl ?_
  refine sr_ixor (q := 3) C (show decode cJ6_numberOfTrailingZeros_0f7a4 2 = .ok (.ixor, 1) from by decide +kernel) rfl ?_
  refine sr_iload_n (i := 0) (q := 4) C (show decode cJ6_numberOfTrailingZeros_0f7a4 3 = .ok (.iload_n 0, 1) from by decide +kernel) rfl rfl rfl ?_
  refine sr_iconst (v := (1 : Int32)) (q := 5) C (show decode cJ6_numberOfTrailingZeros_0f7a4 4 = .ok (.iconst 1, 1) from by decide +kernel) (by decide) rfl ?_
  refine sr_isub (q := 6) C (show decode cJ6_numberOfTrailingZeros_0f7a4 5 = .ok (.isub, 1) from by decide +kernel) rfl ?_
  refine sr_iand (q := 7) C (show decode cJ6_numberOfTrailingZeros_0f7a4 6 = .ok (.iand, 1) from by decide +kernel) rfl ?_
  refine sr_nmi (fun y7 => ?_)
  refine sr_istore_n (i := 0) (L' := [some (.int y7), none]) (q := 8) C (show decode cJ6_numberOfTrailingZeros_0f7a4 7 = .ok (.istore_n 0, 1) from by decide +kernel) rfl (by decide) rfl rfl ?_
  refine sr_iload_n (i := 0) (q := 9) C (show decode cJ6_numberOfTrailingZeros_0f7a4 8 = .ok (.iload_n 0, 1) from by decide +kernel) rfl rfl rfl ?_
  refine sr_if_gt (q := 12) C 17 (show decode cJ6_numberOfTrailingZeros_0f7a4 9 = .ok (.ifCond .gt 8, 3) from by decide +kernel) (by decide) rfl ?_ ?_
  · refine sr_iconst (v := (1 : Int32)) (q := 18) C (show decode cJ6_numberOfTrailingZeros_0f7a4 17 = .ok (.iconst 1, 1) from by decide +kernel) (by decide) rfl ?_
    refine sr_istore_n (i := 1) (L' := [some (.int y7), some (.int (1 : Int32))]) (q := 19) C (show decode cJ6_numberOfTrailingZeros_0f7a4 18 = .ok (.istore_n 1, 1) from by decide +kernel) rfl (by decide) rfl rfl ?_
    refine sr_iload_n (i := 0) (q := 20) C (show decode cJ6_numberOfTrailingZeros_0f7a4 19 = .ok (.iload_n 0, 1) from by decide +kernel) rfl rfl rfl ?_
    refine sr_ldcw (q := 23) C co_J6_264 (show decode cJ6_numberOfTrailingZeros_0f7a4 20 = .ok (.ldc_w 264, 3) from by decide +kernel) rfl ?_
    refine sr_icmp_le (q := 26) C 34 (show decode cJ6_numberOfTrailingZeros_0f7a4 23 = .ok (.if_icmp .le 11, 3) from by decide +kernel) (by decide) rfl ?_ ?_
    · exact slJ6_numberOfTrailingZeros_0f7a4_J34 C y7 (1 : Int32)
    · refine sr_iinc (v := (1 : Int32) + (16 : Int32)) (L' := [some (.int y7), some (.int ((1 : Int32) + (16 : Int32)))]) (q := 29) C (show decode cJ6_numberOfTrailingZeros_0f7a4 26 = .ok (.iinc 1 16, 3) from by decide +kernel) rfl rfl (by decide) rfl rfl ?_
      refine sr_iload_n (i := 0) (q := 30) C (show decode cJ6_numberOfTrailingZeros_0f7a4 29 = .ok (.iload_n 0, 1) from by decide +kernel) rfl rfl rfl ?_
      refine sr_bipush (v := (16 : Int32)) (q := 32) C (show decode cJ6_numberOfTrailingZeros_0f7a4 30 = .ok (.bipush 16, 2) from by decide +kernel) (by decide) rfl ?_
      refine sr_iushr (q := 33) C (show decode cJ6_numberOfTrailingZeros_0f7a4 32 = .ok (.iushr, 1) from by decide +kernel) rfl ?_
      refine sr_nmi (fun y33 => ?_)
      refine sr_istore_n (i := 0) (L' := [some (.int y33), some (.int ((1 : Int32) + (16 : Int32)))]) (q := 34) C (show decode cJ6_numberOfTrailingZeros_0f7a4 33 = .ok (.istore_n 0, 1) from by decide +kernel) rfl (by decide) rfl rfl ?_
      exact slJ6_numberOfTrailingZeros_0f7a4_J34 C y33 ((1 : Int32) + (16 : Int32))
  · refine sr_iload_n (i := 0) (q := 13) C (show decode cJ6_numberOfTrailingZeros_0f7a4 12 = .ok (.iload_n 0, 1) from by decide +kernel) rfl rfl rfl ?_
    refine sr_bipush (v := (32 : Int32)) (q := 15) C (show decode cJ6_numberOfTrailingZeros_0f7a4 13 = .ok (.bipush 32, 2) from by decide +kernel) (by decide) rfl ?_
    refine sr_iand (q := 16) C (show decode cJ6_numberOfTrailingZeros_0f7a4 15 = .ok (.iand, 1) from by decide +kernel) rfl ?_
    exact sr_ireturn C _ rfl (show decode cJ6_numberOfTrailingZeros_0f7a4 16 = .ok (.ireturn, 1) from by decide +kernel)
theorem cnJ6_numberOfTrailingZeros_0f7a4 (ω : sm_O) (v0 : Int32)  : sm_Mt 1 yJ6_numberOfTrailingZeros_0f7a4 cJ6_numberOfTrailingZeros_0f7a4 2 (some .int) ω [.int v0] (fun a => some (.int a)) (fnJ6_numberOfTrailingZeros_0f7a4 v0) := by
  refine sm_conI (r := fun a => a) (by decide) (fun _ => rfl) (Nat.le_of_ble_eq_true rfl) ?_
  intro κ hκ C
  subst hκ
  exact slJ6_numberOfTrailingZeros_0f7a4 C v0
def fnJ7_fill_53178_L5 : Nat → Nat → Int32 → Int32 → Int32 → sm_M Unit
  | 0, _, _, _, _ => m_fail
  | n + 1, v0, v1, v2, v3 => m_br (v3 ≤ v2)
    (m_ret ())
    (m_sai v0 v2 v1 <| (fnJ7_fill_53178_L5 n) v0 v1 (v2 + (1 : Int32)) v3)
set_option maxHeartbeats 4000000 in
set_option maxRecDepth 100000 in
theorem slJ7_fill_53178_L5 {κ : sm_X} (C : sm_C κ "java/util/Arrays" cJ7_fill_53178 4 1) : ∀ (n : Nat) (v0 : Nat) (v1 : Int32) (v2 : Int32) (v3 : Int32) (hv0 : kd v0 = 20), sm_S κ (fun _ : Unit => .inr none) (.inl (5, [some (xad κ v0), some (.int v1), some (.int v2), some (.int v3)], [])) (fnJ7_fill_53178_L5 n v0 v1 v2 v3) := by
  intro n
  induction n with
  | zero =>
    intros
    exact sr_fail
  | succ n K5 =>
    intro v0 v1 v2 v3 hv0
    unfold fnJ7_fill_53178_L5
    refine sr_iload_n (i := 2) (q := 6) C (show decode cJ7_fill_53178 5 = .ok (.iload_n 2, 1) from by decide +kernel) rfl rfl rfl ?_
    refine sr_iload_n (i := 3) (q := 7) C (show decode cJ7_fill_53178 6 = .ok (.iload_n 3, 1) from by decide +kernel) rfl rfl rfl ?_
    refine sr_icmp_ge (q := 10) C 20 (show decode cJ7_fill_53178 7 = .ok (.if_icmp .ge 13, 3) from by decide +kernel) (by decide) rfl ?_ ?_
    · exact sr_vreturn C _ rfl (show decode cJ7_fill_53178 20 = .ok (.return_, 1) from by decide +kernel)
    · refine sr_aload_n (i := 0) (q := 11) C (show decode cJ7_fill_53178 10 = .ok (.aload_n 0, 1) from by decide +kernel) rfl rfl rfl ?_
      refine sr_iload_n (i := 2) (q := 12) C (show decode cJ7_fill_53178 11 = .ok (.iload_n 2, 1) from by decide +kernel) rfl rfl rfl ?_
      refine sr_iload_n (i := 1) (q := 13) C (show decode cJ7_fill_53178 12 = .ok (.iload_n 1, 1) from by decide +kernel) rfl rfl rfl ?_
      refine sr_iastore (q := 14) C hv0 (show decode cJ7_fill_53178 13 = .ok (.iastore, 1) from by decide +kernel) rfl ?_
      refine sr_iinc (v := v2 + (1 : Int32)) (L' := [some (xad κ v0), some (.int v1), some (.int (v2 + (1 : Int32))), some (.int v3)]) (q := 17) C (show decode cJ7_fill_53178 14 = .ok (.iinc 2 1, 3) from by decide +kernel) rfl rfl (by decide) rfl rfl ?_
      refine sr_goto (q := 5) C (show decode cJ7_fill_53178 17 = .ok (.goto (-12), 3) from by decide +kernel) (by decide) ?_
      exact K5 v0 v1 (v2 + (1 : Int32)) v3 hv0
def fnJ7_fill_53178 (v0 : Nat) (v1 : Int32) : sm_M Unit := m_nm (nI (ln v0)) fun y4 => fnJ7_fill_53178_L5 4096 v0 v1 (0 : Int32) y4
set_option maxHeartbeats 4000000 in
set_option maxRecDepth 100000 in
theorem slJ7_fill_53178 {κ : sm_X} (C : sm_C κ "java/util/Arrays" cJ7_fill_53178 4 1) (v0 : Nat) (v1 : Int32) (hv0 : kd v0 = 20) : sm_S κ (fun _ : Unit => .inr none) (.inl (0, [some (xad κ v0), some (.int v1), none, none], [])) (fnJ7_fill_53178 v0 v1) := by
  unfold fnJ7_fill_53178
  refine sr_iconst (v := (0 : Int32)) (q := 1) C (show decode cJ7_fill_53178 0 = .ok (.iconst 0, 1) from by decide +kernel) (by decide) rfl ?_
  refine sr_istore_n (i := 2) (L' := [some (xad κ v0), some (.int v1), some (.int (0 : Int32)), none]) (q := 2) C (show decode cJ7_fill_53178 1 = .ok (.istore_n 2, 1) from by decide +kernel) rfl (by decide) rfl rfl ?_
  refine sr_aload_n (i := 0) (q := 3) C (show decode cJ7_fill_53178 2 = .ok (.aload_n 0, 1) from by decide +kernel) rfl rfl rfl ?_
  refine sr_alen (q := 4) C hv0 (Or.inl rfl) (show decode cJ7_fill_53178 3 = .ok (.arraylength, 1) from by decide +kernel) rfl ?_
  refine sr_nmi (fun y4 => ?_)
  refine sr_istore_n (i := 3) (L' := [some (xad κ v0), some (.int v1), some (.int (0 : Int32)), some (.int y4)]) (q := 5) C (show decode cJ7_fill_53178 4 = .ok (.istore_n 3, 1) from by decide +kernel) rfl (by decide) rfl rfl ?_
  exact slJ7_fill_53178_L5 C 4096 v0 v1 (0 : Int32) y4 hv0
theorem cnJ7_fill_53178 (ω : sm_O) (v0 : Nat) (v1 : Int32) (hv0 : kd v0 = 20) : sm_Mt 1 yJ7_fill_53178 cJ7_fill_53178 4 none ω [.ref (ω.1 + v0), .int v1] (fun _ => none) (fnJ7_fill_53178 v0 v1) := by
  refine sm_conV (by decide) (Nat.le_of_ble_eq_true rfl) ?_
  intro κ hκ C
  subst hκ
  exact slJ7_fill_53178 C v0 v1 hv0
def fnJ7_fill_d0a16_L6 : Nat → Nat → Int64 → Int32 → Int32 → sm_M Unit
  | 0, _, _, _, _ => m_fail
  | n + 1, v0, v1, v3, v4 => m_br (v4 ≤ v3)
    (m_ret ())
    (m_sal v0 v3 v1 <| (fnJ7_fill_d0a16_L6 n) v0 v1 (v3 + (1 : Int32)) v4)
set_option maxHeartbeats 4000000 in
set_option maxRecDepth 100000 in
theorem slJ7_fill_d0a16_L6 {κ : sm_X} (C : sm_C κ "java/util/Arrays" cJ7_fill_d0a16 5 1) : ∀ (n : Nat) (v0 : Nat) (v1 : Int64) (v3 : Int32) (v4 : Int32) (hv0 : kd v0 = 23), sm_S κ (fun _ : Unit => .inr none) (.inl (6, [some (xad κ v0), some (.long v1), none, some (.int v3), some (.int v4)], [])) (fnJ7_fill_d0a16_L6 n v0 v1 v3 v4) := by
  intro n
  induction n with
  | zero =>
    intros
    exact sr_fail
  | succ n K6 =>
    intro v0 v1 v3 v4 hv0
    unfold fnJ7_fill_d0a16_L6
    refine sr_iload_n (i := 3) (q := 7) C (show decode cJ7_fill_d0a16 6 = .ok (.iload_n 3, 1) from by decide +kernel) rfl rfl rfl ?_
    refine sr_iload (i := 4) (q := 9) C (show decode cJ7_fill_d0a16 7 = .ok (.iload 4, 2) from by decide +kernel) rfl rfl ?_
    refine sr_icmp_ge (q := 12) C 22 (show decode cJ7_fill_d0a16 9 = .ok (.if_icmp .ge 13, 3) from by decide +kernel) (by decide) rfl ?_ ?_
    · exact sr_vreturn C _ rfl (show decode cJ7_fill_d0a16 22 = .ok (.return_, 1) from by decide +kernel)
    · refine sr_aload_n (i := 0) (q := 13) C (show decode cJ7_fill_d0a16 12 = .ok (.aload_n 0, 1) from by decide +kernel) rfl rfl rfl ?_
      refine sr_iload_n (i := 3) (q := 14) C (show decode cJ7_fill_d0a16 13 = .ok (.iload_n 3, 1) from by decide +kernel) rfl rfl rfl ?_
      refine sr_lload_n (i := 1) (q := 15) C (show decode cJ7_fill_d0a16 14 = .ok (.lload_n 1, 1) from by decide +kernel) rfl rfl rfl ?_
      refine sr_lastore (q := 16) C hv0 (show decode cJ7_fill_d0a16 15 = .ok (.lastore, 1) from by decide +kernel) rfl ?_
      refine sr_iinc (v := v3 + (1 : Int32)) (L' := [some (xad κ v0), some (.long v1), none, some (.int (v3 + (1 : Int32))), some (.int v4)]) (q := 19) C (show decode cJ7_fill_d0a16 16 = .ok (.iinc 3 1, 3) from by decide +kernel) rfl rfl (by decide) rfl rfl ?_
      refine sr_goto (q := 6) C (show decode cJ7_fill_d0a16 19 = .ok (.goto (-13), 3) from by decide +kernel) (by decide) ?_
      exact K6 v0 v1 (v3 + (1 : Int32)) v4 hv0
def fnJ7_fill_d0a16 (v0 : Nat) (v1 : Int64) : sm_M Unit := m_nm (nI (ln v0)) fun y4 => fnJ7_fill_d0a16_L6 4096 v0 v1 (0 : Int32) y4
set_option maxHeartbeats 4000000 in
set_option maxRecDepth 100000 in
theorem slJ7_fill_d0a16 {κ : sm_X} (C : sm_C κ "java/util/Arrays" cJ7_fill_d0a16 5 1) (v0 : Nat) (v1 : Int64) (hv0 : kd v0 = 23) : sm_S κ (fun _ : Unit => .inr none) (.inl (0, [some (xad κ v0), some (.long v1), none, none, none], [])) (fnJ7_fill_d0a16 v0 v1) := by
  unfold fnJ7_fill_d0a16
  refine sr_iconst (v := (0 : Int32)) (q := 1) C (show decode cJ7_fill_d0a16 0 = .ok (.iconst 0, 1) from by decide +kernel) (by decide) rfl ?_
  refine sr_istore_n (i := 3) (L' := [some (xad κ v0), some (.long v1), none, some (.int (0 : Int32)), none]) (q := 2) C (show decode cJ7_fill_d0a16 1 = .ok (.istore_n 3, 1) from by decide +kernel) rfl (by decide) rfl rfl ?_
  refine sr_aload_n (i := 0) (q := 3) C (show decode cJ7_fill_d0a16 2 = .ok (.aload_n 0, 1) from by decide +kernel) rfl rfl rfl ?_
  refine sr_alenL (q := 4) C hv0 (show decode cJ7_fill_d0a16 3 = .ok (.arraylength, 1) from by decide +kernel) rfl ?_
  refine sr_nmi (fun y4 => ?_)
  refine sr_istore (i := 4) (L' := [some (xad κ v0), some (.long v1), none, some (.int (0 : Int32)), some (.int y4)]) (q := 6) C (show decode cJ7_fill_d0a16 4 = .ok (.istore 4, 2) from by decide +kernel) (by decide) rfl rfl ?_
  exact slJ7_fill_d0a16_L6 C 4096 v0 v1 (0 : Int32) y4 hv0
theorem cnJ7_fill_d0a16 (ω : sm_O) (v0 : Nat) (v1 : Int64) (hv0 : kd v0 = 23) : sm_Mt 1 yJ7_fill_d0a16 cJ7_fill_d0a16 5 none ω [.ref (ω.1 + v0), .long v1] (fun _ => none) (fnJ7_fill_d0a16 v0 v1) := by
  refine sm_conV (by decide) (Nat.le_of_ble_eq_true rfl) ?_
  intro κ hκ C
  subst hκ
  exact slJ7_fill_d0a16 C v0 v1 hv0
def fnX3_flood_L15 : Nat → Nat → Int32 → Int32 → Int32 → Int32 → Int32 → sm_M Int32
  | 0, _, _, _, _, _, _ => m_fail
  | n + 1, v0, v1, v2, v3, v4, v5 => m_br ((24 : Int32) ≤ v5)
    (m_ret v3)
    (m_br (v4 = 0)
    (m_ret v3)
    (m_bnd (fnJ6_numberOfTrailingZeros_0f7a4 v4) fun x29 => m_ai (lk v0 2) ((v2 * (24 : Int32)) + x29) fun x45 => m_nm ((x45 &&& v1) &&& (v3 ^^^ (-1 : Int32))) fun y52 => m_nm (v3 ||| y52) fun y58 => m_nm ((v4 &&& (v4 - (1 : Int32))) ||| y52) fun y69 => (fnX3_flood_L15 n) v0 v1 v2 y58 y69 (v5 + (1 : Int32))))
set_option maxHeartbeats 4000000 in
set_option maxRecDepth 100000 in
theorem slX3_flood_L15 {κ : sm_X} (C : sm_C κ RX3 cX3_flood 8 2) : ∀ (n : Nat) (v0 : Nat) (v1 : Int32) (v2 : Int32) (v3 : Int32) (v4 : Int32) (v5 : Int32) (hv0 : kd v0 = 3), sm_S κ (fun r : Int32 => .inr (some (.int r))) (.inl (15, [some (xad κ v0), some (.int v1), some (.int v2), some (.int v3), some (.int v4), some (.int v5), none, none], [])) (fnX3_flood_L15 n v0 v1 v2 v3 v4 v5) := by
  intro n
  induction n with
  | zero =>
    intros
    exact sr_fail
  | succ n K15 =>
    intro v0 v1 v2 v3 v4 v5 hv0
    unfold fnX3_flood_L15
    refine sr_iload (i := 5) (q := 17) C (show decode cX3_flood 15 = .ok (.iload 5, 2) from by decide +kernel) rfl rfl ?_
    refine sr_bipush (v := (24 : Int32)) (q := 19) C (show decode cX3_flood 17 = .ok (.bipush 24, 2) from by decide +kernel) (by decide) rfl ?_
    refine sr_icmp_ge (q := 22) C 77 (show decode cX3_flood 19 = .ok (.if_icmp .ge 58, 3) from by decide +kernel) (by decide) rfl ?_ ?_
    · refine sr_iload_n (i := 3) (q := 78) C (show decode cX3_flood 77 = .ok (.iload_n 3, 1) from by decide +kernel) rfl rfl rfl ?_
      exact sr_ireturn C _ rfl (show decode cX3_flood 78 = .ok (.ireturn, 1) from by decide +kernel)
    · refine sr_iload (i := 4) (q := 24) C (show decode cX3_flood 22 = .ok (.iload 4, 2) from by decide +kernel) rfl rfl ?_
      refine sr_if_eq (q := 27) C 77 (show decode cX3_flood 24 = .ok (.ifCond .eq 53, 3) from by decide +kernel) (by decide) rfl ?_ ?_
      · refine sr_iload_n (i := 3) (q := 78) C (show decode cX3_flood 77 = .ok (.iload_n 3, 1) from by decide +kernel) rfl rfl rfl ?_
        exact sr_ireturn C _ rfl (show decode cX3_flood 78 = .ok (.ireturn, 1) from by decide +kernel)
      · refine sr_iload (i := 4) (q := 29) C (show decode cX3_flood 27 = .ok (.iload 4, 2) from by decide +kernel) rfl rfl ?_
        refine sr_cSi (As := [.int v4]) (st := []) (q := 32) C ysJ6_numberOfTrailingZeros_0f7a4 ml_X3_47 (cnJ6_numberOfTrailingZeros_0f7a4 (xo κ) v4) rfl (by decide) (by decide) (Nat.le_of_ble_eq_true rfl) rfl (show decode cX3_flood 29 = .ok (.invokestatic 47, 3) from by decide +kernel) rfl (fun x29 => ?_)
        refine sr_istore (i := 6) (L' := [some (xad κ v0), some (.int v1), some (.int v2), some (.int v3), some (.int v4), some (.int v5), some (.int x29), none]) (q := 34) C (show decode cX3_flood 32 = .ok (.istore 6, 2) from by decide +kernel) (by decide) rfl rfl ?_
        refine sr_aload_n (i := 0) (q := 35) C (show decode cX3_flood 34 = .ok (.aload_n 0, 1) from by decide +kernel) rfl rfl rfl ?_
        refine sr_getr (q := 38) C fl_X3_18 hv0 (show decode cX3_flood 35 = .ok (.getfield 18, 3) from by decide +kernel) rfl ?_
        refine sr_iload_n (i := 2) (q := 39) C (show decode cX3_flood 38 = .ok (.iload_n 2, 1) from by decide +kernel) rfl rfl rfl ?_
        refine sr_bipush (v := (24 : Int32)) (q := 41) C (show decode cX3_flood 39 = .ok (.bipush 24, 2) from by decide +kernel) (by decide) rfl ?_
        refine sr_imul (q := 42) C (show decode cX3_flood 41 = .ok (.imul, 1) from by decide +kernel) rfl ?_
        refine sr_iload (i := 6) (q := 44) C (show decode cX3_flood 42 = .ok (.iload 6, 2) from by decide +kernel) rfl rfl ?_
        refine sr_iadd (q := 45) C (show decode cX3_flood 44 = .ok (.iadd, 1) from by decide +kernel) rfl ?_
        refine sr_iaload (q := 46) C (kt hv0 kp_3_2) (show decode cX3_flood 45 = .ok (.iaload, 1) from by decide +kernel) rfl (fun x45 => ?_)
        refine sr_iload_n (i := 1) (q := 47) C (show decode cX3_flood 46 = .ok (.iload_n 1, 1) from by decide +kernel) rfl rfl rfl ?_
        refine sr_iand (q := 48) C (show decode cX3_flood 47 = .ok (.iand, 1) from by decide +kernel) rfl ?_
        refine sr_iload_n (i := 3) (q := 49) C (show decode cX3_flood 48 = .ok (.iload_n 3, 1) from by decide +kernel) rfl rfl rfl ?_
        refine sr_iconst (v := (-1 : Int32)) (q := 50) C (show decode cX3_flood 49 = .ok (.iconst (-1), 1) from by decide +kernel) (by decide) rfl ?_
        refine sr_ixor (q := 51) C (show decode cX3_flood 50 = .ok (.ixor, 1) from by decide +kernel) rfl ?_
        refine sr_iand (q := 52) C (show decode cX3_flood 51 = .ok (.iand, 1) from by decide +kernel) rfl ?_
        refine sr_nmi (fun y52 => ?_)
        refine sr_istore (i := 7) (L' := [some (xad κ v0), some (.int v1), some (.int v2), some (.int v3), some (.int v4), some (.int v5), some (.int x29), some (.int y52)]) (q := 54) C (show decode cX3_flood 52 = .ok (.istore 7, 2) from by decide +kernel) (by decide) rfl rfl ?_
        refine sr_iload_n (i := 3) (q := 55) C (show decode cX3_flood 54 = .ok (.iload_n 3, 1) from by decide +kernel) rfl rfl rfl ?_
        refine sr_iload (i := 7) (q := 57) C (show decode cX3_flood 55 = .ok (.iload 7, 2) from by decide +kernel) rfl rfl ?_
        refine sr_ior (q := 58) C (show decode cX3_flood 57 = .ok (.ior, 1) from by decide +kernel) rfl ?_
        refine sr_nmi (fun y58 => ?_)
        refine sr_istore_n (i := 3) (L' := [some (xad κ v0), some (.int v1), some (.int v2), some (.int y58), some (.int v4), some (.int v5), some (.int x29), some (.int y52)]) (q := 59) C (show decode cX3_flood 58 = .ok (.istore_n 3, 1) from by decide +kernel) rfl (by decide) rfl rfl ?_
        refine sr_iload (i := 4) (q := 61) C (show decode cX3_flood 59 = .ok (.iload 4, 2) from by decide +kernel) rfl rfl ?_
        refine sr_iload (i := 4) (q := 63) C (show decode cX3_flood 61 = .ok (.iload 4, 2) from by decide +kernel) rfl rfl ?_
        refine sr_iconst (v := (1 : Int32)) (q := 64) C (show decode cX3_flood 63 = .ok (.iconst 1, 1) from by decide +kernel) (by decide) rfl ?_
        refine sr_isub (q := 65) C (show decode cX3_flood 64 = .ok (.isub, 1) from by decide +kernel) rfl ?_
        refine sr_iand (q := 66) C (show decode cX3_flood 65 = .ok (.iand, 1) from by decide +kernel) rfl ?_
        refine sr_iload (i := 7) (q := 68) C (show decode cX3_flood 66 = .ok (.iload 7, 2) from by decide +kernel) rfl rfl ?_
        refine sr_ior (q := 69) C (show decode cX3_flood 68 = .ok (.ior, 1) from by decide +kernel) rfl ?_
        refine sr_nmi (fun y69 => ?_)
        refine sr_istore (i := 4) (L' := [some (xad κ v0), some (.int v1), some (.int v2), some (.int y58), some (.int y69), some (.int v5), some (.int x29), some (.int y52)]) (q := 71) C (show decode cX3_flood 69 = .ok (.istore 4, 2) from by decide +kernel) (by decide) rfl rfl ?_
        refine sr_iinc (v := v5 + (1 : Int32)) (L' := [some (xad κ v0), some (.int v1), some (.int v2), some (.int y58), some (.int y69), some (.int (v5 + (1 : Int32))), some (.int x29), some (.int y52)]) (q := 74) C (show decode cX3_flood 71 = .ok (.iinc 5 1, 3) from by decide +kernel) rfl rfl (by decide) rfl rfl ?_
        refine sr_goto (q := 15) C (show decode cX3_flood 74 = .ok (.goto (-59), 3) from by decide +kernel) (by decide) ?_
        refine sr_weak (L' := [some (xad κ v0), some (.int v1), some (.int v2), some (.int y58), some (.int y69), some (.int (v5 + (1 : Int32))), none, none]) ⟨rfl, rfl, rfl, rfl, rfl, rfl, trivial⟩ ?_
        exact K15 v0 v1 v2 y58 y69 (v5 + (1 : Int32)) hv0
def fnX3_flood (v0 : Nat) (v1 : Int32) (v2 : Int32) : sm_M Int32 := m_ai (lk v0 0) v2 fun x5 => m_nm (x5 &&& v1) fun y8 => fnX3_flood_L15 4096 v0 v1 v2 y8 y8 (0 : Int32)
set_option maxHeartbeats 4000000 in
set_option maxRecDepth 100000 in
theorem slX3_flood {κ : sm_X} (C : sm_C κ RX3 cX3_flood 8 2) (v0 : Nat) (v1 : Int32) (v2 : Int32) (hv0 : kd v0 = 3) : sm_S κ (fun r : Int32 => .inr (some (.int r))) (.inl (0, [some (xad κ v0), some (.int v1), some (.int v2), none, none, none, none, none], [])) (fnX3_flood v0 v1 v2) := by
  unfold fnX3_flood
  refine sr_aload_n (i := 0) (q := 1) C (show decode cX3_flood 0 = .ok (.aload_n 0, 1) from by decide +kernel) rfl rfl rfl ?_
  refine sr_getr (q := 4) C fl_X3_9 hv0 (show decode cX3_flood 1 = .ok (.getfield 9, 3) from by decide +kernel) rfl ?_
  refine sr_iload_n (i := 2) (q := 5) C (show decode cX3_flood 4 = .ok (.iload_n 2, 1) from by decide +kernel) rfl rfl rfl ?_
  refine sr_iaload (q := 6) C (kt hv0 kp_3_0) (show decode cX3_flood 5 = .ok (.iaload, 1) from by decide +kernel) rfl (fun x5 => ?_)
  refine sr_iload_n (i := 1) (q := 7) C (show decode cX3_flood 6 = .ok (.iload_n 1, 1) from by decide +kernel) rfl rfl rfl ?_
  refine sr_iand (q := 8) C (show decode cX3_flood 7 = .ok (.iand, 1) from by decide +kernel) rfl ?_
  refine sr_nmi (fun y8 => ?_)
  refine sr_istore_n (i := 3) (L' := [some (xad κ v0), some (.int v1), some (.int v2), some (.int y8), none, none, none, none]) (q := 9) C (show decode cX3_flood 8 = .ok (.istore_n 3, 1) from by decide +kernel) rfl (by decide) rfl rfl ?_
  refine sr_iload_n (i := 3) (q := 10) C (show decode cX3_flood 9 = .ok (.iload_n 3, 1) from by decide +kernel) rfl rfl rfl ?_
  refine sr_istore (i := 4) (L' := [some (xad κ v0), some (.int v1), some (.int v2), some (.int y8), some (.int y8), none, none, none]) (q := 12) C (show decode cX3_flood 10 = .ok (.istore 4, 2) from by decide +kernel) (by decide) rfl rfl ?_
  refine sr_iconst (v := (0 : Int32)) (q := 13) C (show decode cX3_flood 12 = .ok (.iconst 0, 1) from by decide +kernel) (by decide) rfl ?_
  refine sr_istore (i := 5) (L' := [some (xad κ v0), some (.int v1), some (.int v2), some (.int y8), some (.int y8), some (.int (0 : Int32)), none, none]) (q := 15) C (show decode cX3_flood 13 = .ok (.istore 5, 2) from by decide +kernel) (by decide) rfl rfl ?_
  exact slX3_flood_L15 C 4096 v0 v1 v2 y8 y8 (0 : Int32) hv0
theorem cnX3_flood (ω : sm_O) (v0 : Nat) (v1 : Int32) (v2 : Int32) (hv0 : kd v0 = 3) : sm_Mt 2 yX3_flood cX3_flood 8 (some .int) ω [.ref (ω.1 + v0), .int v1, .int v2] (fun a => some (.int a)) (fnX3_flood v0 v1 v2) := by
  refine sm_conI (r := fun a => a) (by decide) (fun _ => rfl) (Nat.le_of_ble_eq_true rfl) ?_
  intro κ hκ C
  subst hκ
  exact slX3_flood C v0 v1 v2 hv0
def fnX3_crosses (v0 : Nat) (v1 : Int32) (v2 : Int32) : sm_M Bool := m_bnd (fnX3_flood v0 v1 v2) fun x3 => m_ai (lk v0 1) v2 fun x11 => m_br ((x3 &&& x11) = 0)
    (m_ret false)
    (m_ret true)
set_option maxHeartbeats 4000000 in
set_option maxRecDepth 100000 in
theorem slX3_crosses {κ : sm_X} (C : sm_C κ RX3 cX3_crosses 3 3) (v0 : Nat) (v1 : Int32) (v2 : Int32) (hv0 : kd v0 = 3) : sm_S κ (fun r : Bool => .inr (some (.int (bI r)))) (.inl (0, [some (xad κ v0), some (.int v1), some (.int v2)], [])) (fnX3_crosses v0 v1 v2) := by
  unfold fnX3_crosses
  refine sr_aload_n (i := 0) (q := 1) C (show decode cX3_crosses 0 = .ok (.aload_n 0, 1) from by decide +kernel) rfl rfl rfl ?_
  refine sr_iload_n (i := 1) (q := 2) C (show decode cX3_crosses 1 = .ok (.iload_n 1, 1) from by decide +kernel) rfl rfl rfl ?_
  refine sr_iload_n (i := 2) (q := 3) C (show decode cX3_crosses 2 = .ok (.iload_n 2, 1) from by decide +kernel) rfl rfl rfl ?_
  refine sr_cVi (As := [.int v1, .int v2]) (st := []) (b := v0) (q := 6) C yvX3_flood ml_X3_53 (cnX3_flood (xo κ) v0 v1 v2 hv0) hv0 (by decide) rfl rfl rfl (by decide) (by decide) (Nat.le_of_ble_eq_true rfl) rfl (show decode cX3_crosses 3 = .ok (.invokevirtual 53, 3) from by decide +kernel) rfl (fun x3 => ?_)
  refine sr_aload_n (i := 0) (q := 7) C (show decode cX3_crosses 6 = .ok (.aload_n 0, 1) from by decide +kernel) rfl rfl rfl ?_
  refine sr_getr (q := 10) C fl_X3_15 hv0 (show decode cX3_crosses 7 = .ok (.getfield 15, 3) from by decide +kernel) rfl ?_
  refine sr_iload_n (i := 2) (q := 11) C (show decode cX3_crosses 10 = .ok (.iload_n 2, 1) from by decide +kernel) rfl rfl rfl ?_
  refine sr_iaload (q := 12) C (kt hv0 kp_3_1) (show decode cX3_crosses 11 = .ok (.iaload, 1) from by decide +kernel) rfl (fun x11 => ?_)
  refine sr_iand (q := 13) C (show decode cX3_crosses 12 = .ok (.iand, 1) from by decide +kernel) rfl ?_
  refine sr_if_eq (q := 16) C 20 (show decode cX3_crosses 13 = .ok (.ifCond .eq 7, 3) from by decide +kernel) (by decide) rfl ?_ ?_
  · refine sr_iconst (v := (0 : Int32)) (q := 21) C (show decode cX3_crosses 20 = .ok (.iconst 0, 1) from by decide +kernel) (by decide) rfl ?_
    exact sr_ireturn C false rfl (show decode cX3_crosses 21 = .ok (.ireturn, 1) from by decide +kernel)
  · refine sr_iconst (v := (1 : Int32)) (q := 17) C (show decode cX3_crosses 16 = .ok (.iconst 1, 1) from by decide +kernel) (by decide) rfl ?_
    refine sr_goto (q := 21) C (show decode cX3_crosses 17 = .ok (.goto 4, 3) from by decide +kernel) (by decide) ?_
    exact sr_ireturn C true rfl (show decode cX3_crosses 21 = .ok (.ireturn, 1) from by decide +kernel)
theorem cnX3_crosses (ω : sm_O) (v0 : Nat) (v1 : Int32) (v2 : Int32) (hv0 : kd v0 = 3) : sm_Mt 3 yX3_crosses cX3_crosses 3 (some .boolean) ω [.ref (ω.1 + v0), .int v1, .int v2] (fun a => some (.int (bI a))) (fnX3_crosses v0 v1 v2) := by
  refine sm_conI (r := bI) (by decide) bI_nar (Nat.le_of_ble_eq_true rfl) ?_
  intro κ hκ C
  subst hκ
  exact slX3_crosses C v0 v1 v2 hv0
def fnX7_strideOf (v0 : Nat) (v1 : Int32) : sm_M Int32 := m_ai (lk v0 16) v1 fun x5 => m_br (x5 = (-1 : Int32))
    (m_ai (lk v0 13) v1 fun x15 => m_ret x15)
    (m_ai (lk v0 13) v1 fun x24 => m_ai (lk v0 16) v1 fun x34 => m_ai (lk v0 13) x34 fun x35 => m_ret (jmin x24 x35))
set_option maxHeartbeats 4000000 in
set_option maxRecDepth 100000 in
theorem slX7_strideOf {κ : sm_X} (C : sm_C κ RX7 cX7_strideOf 2 1) (v0 : Nat) (v1 : Int32) (hv0 : kd v0 = 7) : sm_S κ (fun r : Int32 => .inr (some (.int r))) (.inl (0, [some (xad κ v0), some (.int v1)], [])) (fnX7_strideOf v0 v1) := by
  unfold fnX7_strideOf
  refine sr_aload_n (i := 0) (q := 1) C (show decode cX7_strideOf 0 = .ok (.aload_n 0, 1) from by decide +kernel) rfl rfl rfl ?_
  refine sr_getr (q := 4) C fl_X7_36 hv0 (show decode cX7_strideOf 1 = .ok (.getfield 36, 3) from by decide +kernel) rfl ?_
  refine sr_iload_n (i := 1) (q := 5) C (show decode cX7_strideOf 4 = .ok (.iload_n 1, 1) from by decide +kernel) rfl rfl rfl ?_
  refine sr_iaload (q := 6) C (kt hv0 kp_7_16) (show decode cX7_strideOf 5 = .ok (.iaload, 1) from by decide +kernel) rfl (fun x5 => ?_)
  refine sr_iconst (v := (-1 : Int32)) (q := 7) C (show decode cX7_strideOf 6 = .ok (.iconst (-1), 1) from by decide +kernel) (by decide) rfl ?_
  refine sr_icmp_ne (q := 10) C 19 (show decode cX7_strideOf 7 = .ok (.if_icmp .ne 12, 3) from by decide +kernel) (by decide) rfl ?_ ?_
  · refine sr_aload_n (i := 0) (q := 20) C (show decode cX7_strideOf 19 = .ok (.aload_n 0, 1) from by decide +kernel) rfl rfl rfl ?_
    refine sr_getr (q := 23) C fl_X7_27 hv0 (show decode cX7_strideOf 20 = .ok (.getfield 27, 3) from by decide +kernel) rfl ?_
    refine sr_iload_n (i := 1) (q := 24) C (show decode cX7_strideOf 23 = .ok (.iload_n 1, 1) from by decide +kernel) rfl rfl rfl ?_
    refine sr_iaload (q := 25) C (kt hv0 kp_7_13) (show decode cX7_strideOf 24 = .ok (.iaload, 1) from by decide +kernel) rfl (fun x24 => ?_)
    refine sr_aload_n (i := 0) (q := 26) C (show decode cX7_strideOf 25 = .ok (.aload_n 0, 1) from by decide +kernel) rfl rfl rfl ?_
    refine sr_getr (q := 29) C fl_X7_27 hv0 (show decode cX7_strideOf 26 = .ok (.getfield 27, 3) from by decide +kernel) rfl ?_
    refine sr_aload_n (i := 0) (q := 30) C (show decode cX7_strideOf 29 = .ok (.aload_n 0, 1) from by decide +kernel) rfl rfl rfl ?_
    refine sr_getr (q := 33) C fl_X7_36 hv0 (show decode cX7_strideOf 30 = .ok (.getfield 36, 3) from by decide +kernel) rfl ?_
    refine sr_iload_n (i := 1) (q := 34) C (show decode cX7_strideOf 33 = .ok (.iload_n 1, 1) from by decide +kernel) rfl rfl rfl ?_
    refine sr_iaload (q := 35) C (kt hv0 kp_7_16) (show decode cX7_strideOf 34 = .ok (.iaload, 1) from by decide +kernel) rfl (fun x34 => ?_)
    refine sr_iaload (q := 36) C (kt hv0 kp_7_13) (show decode cX7_strideOf 35 = .ok (.iaload, 1) from by decide +kernel) rfl (fun x35 => ?_)
    refine sr_jmin (st := []) (q := 39) C ml_X7_78 (by decide) (Nat.le_of_ble_eq_true rfl) (show decode cX7_strideOf 36 = .ok (.invokestatic 78, 3) from by decide +kernel) rfl ?_
    exact sr_ireturn C _ rfl (show decode cX7_strideOf 39 = .ok (.ireturn, 1) from by decide +kernel)
  · refine sr_aload_n (i := 0) (q := 11) C (show decode cX7_strideOf 10 = .ok (.aload_n 0, 1) from by decide +kernel) rfl rfl rfl ?_
    refine sr_getr (q := 14) C fl_X7_27 hv0 (show decode cX7_strideOf 11 = .ok (.getfield 27, 3) from by decide +kernel) rfl ?_
    refine sr_iload_n (i := 1) (q := 15) C (show decode cX7_strideOf 14 = .ok (.iload_n 1, 1) from by decide +kernel) rfl rfl rfl ?_
    refine sr_iaload (q := 16) C (kt hv0 kp_7_13) (show decode cX7_strideOf 15 = .ok (.iaload, 1) from by decide +kernel) rfl (fun x15 => ?_)
    refine sr_goto (q := 39) C (show decode cX7_strideOf 16 = .ok (.goto 23, 3) from by decide +kernel) (by decide) ?_
    exact sr_ireturn C _ rfl (show decode cX7_strideOf 39 = .ok (.ireturn, 1) from by decide +kernel)
theorem cnX7_strideOf (ω : sm_O) (v0 : Nat) (v1 : Int32) (hv0 : kd v0 = 7) : sm_Mt 1 yX7_strideOf cX7_strideOf 2 (some .int) ω [.ref (ω.1 + v0), .int v1] (fun a => some (.int a)) (fnX7_strideOf v0 v1) := by
  refine sm_conI (r := fun a => a) (by decide) (fun _ => rfl) (Nat.le_of_ble_eq_true rfl) ?_
  intro κ hκ C
  subst hκ
  exact slX7_strideOf C v0 v1 hv0
def fnX7_weightOf (v0 : Nat) (v1 : Int32) : sm_M Int32 := m_ai (lk v0 16) v1 fun x5 => m_br (x5 = (-1 : Int32))
    (m_ai (lk v0 14) v1 fun x15 => m_ret x15)
    (m_ai (lk v0 14) v1 fun x24 => m_ai (lk v0 16) v1 fun x34 => m_ai (lk v0 14) x34 fun x35 => m_ret (x24 + x35))
set_option maxHeartbeats 4000000 in
set_option maxRecDepth 100000 in
theorem slX7_weightOf {κ : sm_X} (C : sm_C κ RX7 cX7_weightOf 2 1) (v0 : Nat) (v1 : Int32) (hv0 : kd v0 = 7) : sm_S κ (fun r : Int32 => .inr (some (.int r))) (.inl (0, [some (xad κ v0), some (.int v1)], [])) (fnX7_weightOf v0 v1) := by
  unfold fnX7_weightOf
  refine sr_aload_n (i := 0) (q := 1) C (show decode cX7_weightOf 0 = .ok (.aload_n 0, 1) from by decide +kernel) rfl rfl rfl ?_
  refine sr_getr (q := 4) C fl_X7_36 hv0 (show decode cX7_weightOf 1 = .ok (.getfield 36, 3) from by decide +kernel) rfl ?_
  refine sr_iload_n (i := 1) (q := 5) C (show decode cX7_weightOf 4 = .ok (.iload_n 1, 1) from by decide +kernel) rfl rfl rfl ?_
  refine sr_iaload (q := 6) C (kt hv0 kp_7_16) (show decode cX7_weightOf 5 = .ok (.iaload, 1) from by decide +kernel) rfl (fun x5 => ?_)
  refine sr_iconst (v := (-1 : Int32)) (q := 7) C (show decode cX7_weightOf 6 = .ok (.iconst (-1), 1) from by decide +kernel) (by decide) rfl ?_
  refine sr_icmp_ne (q := 10) C 19 (show decode cX7_weightOf 7 = .ok (.if_icmp .ne 12, 3) from by decide +kernel) (by decide) rfl ?_ ?_
  · refine sr_aload_n (i := 0) (q := 20) C (show decode cX7_weightOf 19 = .ok (.aload_n 0, 1) from by decide +kernel) rfl rfl rfl ?_
    refine sr_getr (q := 23) C fl_X7_30 hv0 (show decode cX7_weightOf 20 = .ok (.getfield 30, 3) from by decide +kernel) rfl ?_
    refine sr_iload_n (i := 1) (q := 24) C (show decode cX7_weightOf 23 = .ok (.iload_n 1, 1) from by decide +kernel) rfl rfl rfl ?_
    refine sr_iaload (q := 25) C (kt hv0 kp_7_14) (show decode cX7_weightOf 24 = .ok (.iaload, 1) from by decide +kernel) rfl (fun x24 => ?_)
    refine sr_aload_n (i := 0) (q := 26) C (show decode cX7_weightOf 25 = .ok (.aload_n 0, 1) from by decide +kernel) rfl rfl rfl ?_
    refine sr_getr (q := 29) C fl_X7_30 hv0 (show decode cX7_weightOf 26 = .ok (.getfield 30, 3) from by decide +kernel) rfl ?_
    refine sr_aload_n (i := 0) (q := 30) C (show decode cX7_weightOf 29 = .ok (.aload_n 0, 1) from by decide +kernel) rfl rfl rfl ?_
    refine sr_getr (q := 33) C fl_X7_36 hv0 (show decode cX7_weightOf 30 = .ok (.getfield 36, 3) from by decide +kernel) rfl ?_
    refine sr_iload_n (i := 1) (q := 34) C (show decode cX7_weightOf 33 = .ok (.iload_n 1, 1) from by decide +kernel) rfl rfl rfl ?_
    refine sr_iaload (q := 35) C (kt hv0 kp_7_16) (show decode cX7_weightOf 34 = .ok (.iaload, 1) from by decide +kernel) rfl (fun x34 => ?_)
    refine sr_iaload (q := 36) C (kt hv0 kp_7_14) (show decode cX7_weightOf 35 = .ok (.iaload, 1) from by decide +kernel) rfl (fun x35 => ?_)
    refine sr_iadd (q := 37) C (show decode cX7_weightOf 36 = .ok (.iadd, 1) from by decide +kernel) rfl ?_
    exact sr_ireturn C _ rfl (show decode cX7_weightOf 37 = .ok (.ireturn, 1) from by decide +kernel)
  · refine sr_aload_n (i := 0) (q := 11) C (show decode cX7_weightOf 10 = .ok (.aload_n 0, 1) from by decide +kernel) rfl rfl rfl ?_
    refine sr_getr (q := 14) C fl_X7_30 hv0 (show decode cX7_weightOf 11 = .ok (.getfield 30, 3) from by decide +kernel) rfl ?_
    refine sr_iload_n (i := 1) (q := 15) C (show decode cX7_weightOf 14 = .ok (.iload_n 1, 1) from by decide +kernel) rfl rfl rfl ?_
    refine sr_iaload (q := 16) C (kt hv0 kp_7_14) (show decode cX7_weightOf 15 = .ok (.iaload, 1) from by decide +kernel) rfl (fun x15 => ?_)
    refine sr_goto (q := 37) C (show decode cX7_weightOf 16 = .ok (.goto 21, 3) from by decide +kernel) (by decide) ?_
    exact sr_ireturn C _ rfl (show decode cX7_weightOf 37 = .ok (.ireturn, 1) from by decide +kernel)
theorem cnX7_weightOf (ω : sm_O) (v0 : Nat) (v1 : Int32) (hv0 : kd v0 = 7) : sm_Mt 1 yX7_weightOf cX7_weightOf 2 (some .int) ω [.ref (ω.1 + v0), .int v1] (fun a => some (.int a)) (fnX7_weightOf v0 v1) := by
  refine sm_conI (r := fun a => a) (by decide) (fun _ => rfl) (Nat.le_of_ble_eq_true rfl) ?_
  intro κ hκ C
  subst hκ
  exact slX7_weightOf C v0 v1 hv0
def fnX9_leftOf_J53 (v0 : Nat) (v1 : Int32) (s0 : Int32) : sm_M Int32 := m_ai (lk v0 2) v1 fun x58 => m_nm (s0 - x58) fun y60 => m_br (y60 ≤ 0)
    (m_ret (0 : Int32))
    (m_ret y60)
set_option maxHeartbeats 4000000 in
set_option maxRecDepth 100000 in
theorem slX9_leftOf_J53 {κ : sm_X} (C : sm_C κ RX9 cX9_leftOf 3 1) (v0 : Nat) (v1 : Int32) (s0 : Int32) (hv0 : kd v0 = 9) : sm_S κ (fun r : Int32 => .inr (some (.int r))) (.inl (53, [some (xad κ v0), some (.int v1), none], [.int s0])) (fnX9_leftOf_J53 v0 v1 s0) := by
  unfold fnX9_leftOf_J53
  refine sr_aload_n (i := 0) (q := 54) C (show decode cX9_leftOf 53 = .ok (.aload_n 0, 1) from by decide +kernel) rfl rfl rfl ?_
  refine sr_getr (q := 57) C fl_X9_9 hv0 (show decode cX9_leftOf 54 = .ok (.getfield 9, 3) from by decide +kernel) rfl ?_
  refine sr_iload_n (i := 1) (q := 58) C (show decode cX9_leftOf 57 = .ok (.iload_n 1, 1) from by decide +kernel) rfl rfl rfl ?_
  refine sr_iaload (q := 59) C (kt hv0 kp_9_2) (show decode cX9_leftOf 58 = .ok (.iaload, 1) from by decide +kernel) rfl (fun x58 => ?_)
  refine sr_isub (q := 60) C (show decode cX9_leftOf 59 = .ok (.isub, 1) from by decide +kernel) rfl ?_
  refine sr_nmi (fun y60 => ?_)
  refine sr_istore_n (i := 2) (L' := [some (xad κ v0), some (.int v1), some (.int y60)]) (q := 61) C (show decode cX9_leftOf 60 = .ok (.istore_n 2, 1) from by decide +kernel) rfl (by decide) rfl rfl ?_
  refine sr_iload_n (i := 2) (q := 62) C (show decode cX9_leftOf 61 = .ok (.iload_n 2, 1) from by decide +kernel) rfl rfl rfl ?_
  refine sr_if_le (q := 65) C 69 (show decode cX9_leftOf 62 = .ok (.ifCond .le 7, 3) from by decide +kernel) (by decide) rfl ?_ ?_
  · refine sr_iconst (v := (0 : Int32)) (q := 70) C (show decode cX9_leftOf 69 = .ok (.iconst 0, 1) from by decide +kernel) (by decide) rfl ?_
    exact sr_ireturn C _ rfl (show decode cX9_leftOf 70 = .ok (.ireturn, 1) from by decide +kernel)
  · refine sr_iload_n (i := 2) (q := 66) C (show decode cX9_leftOf 65 = .ok (.iload_n 2, 1) from by decide +kernel) rfl rfl rfl ?_
    refine sr_goto (q := 70) C (show decode cX9_leftOf 66 = .ok (.goto 4, 3) from by decide +kernel) (by decide) ?_
    exact sr_ireturn C _ rfl (show decode cX9_leftOf 70 = .ok (.ireturn, 1) from by decide +kernel)
def fnX9_leftOf_J30 (v0 : Nat) (v1 : Int32) : sm_M Int32 := m_ai (lk v0 3) v1 fun x35 => m_br (x35 = (1 : Int32))
    (fnX9_leftOf_J53 v0 v1 (1 : Int32))
    (m_ai (lk (lk v0 0) 10) v1 fun x52 => fnX9_leftOf_J53 v0 v1 x52)
set_option maxHeartbeats 4000000 in
set_option maxRecDepth 100000 in
theorem slX9_leftOf_J30 {κ : sm_X} (C : sm_C κ RX9 cX9_leftOf 3 1) (v0 : Nat) (v1 : Int32) (hv0 : kd v0 = 9) : sm_S κ (fun r : Int32 => .inr (some (.int r))) (.inl (30, [some (xad κ v0), some (.int v1), none], [])) (fnX9_leftOf_J30 v0 v1) := by
  unfold fnX9_leftOf_J30
  refine sr_aload_n (i := 0) (q := 31) C (show decode cX9_leftOf 30 = .ok (.aload_n 0, 1) from by decide +kernel) rfl rfl rfl ?_
  refine sr_getr (q := 34) C fl_X9_15 hv0 (show decode cX9_leftOf 31 = .ok (.getfield 15, 3) from by decide +kernel) rfl ?_
  refine sr_iload_n (i := 1) (q := 35) C (show decode cX9_leftOf 34 = .ok (.iload_n 1, 1) from by decide +kernel) rfl rfl rfl ?_
  refine sr_iaload (q := 36) C (kt hv0 kp_9_3) (show decode cX9_leftOf 35 = .ok (.iaload, 1) from by decide +kernel) rfl (fun x35 => ?_)
  refine sr_iconst (v := (1 : Int32)) (q := 37) C (show decode cX9_leftOf 36 = .ok (.iconst 1, 1) from by decide +kernel) (by decide) rfl ?_
  refine sr_icmp_ne (q := 40) C 44 (show decode cX9_leftOf 37 = .ok (.if_icmp .ne 7, 3) from by decide +kernel) (by decide) rfl ?_ ?_
  · refine sr_aload_n (i := 0) (q := 45) C (show decode cX9_leftOf 44 = .ok (.aload_n 0, 1) from by decide +kernel) rfl rfl rfl ?_
    refine sr_getr (q := 48) C fl_X9_21 hv0 (show decode cX9_leftOf 45 = .ok (.getfield 21, 3) from by decide +kernel) rfl ?_
    refine sr_getr (q := 51) C fl_X9_46 (kt hv0 kp_9_0) (show decode cX9_leftOf 48 = .ok (.getfield 46, 3) from by decide +kernel) rfl ?_
    refine sr_iload_n (i := 1) (q := 52) C (show decode cX9_leftOf 51 = .ok (.iload_n 1, 1) from by decide +kernel) rfl rfl rfl ?_
    refine sr_iaload (q := 53) C (kt (kt hv0 kp_9_0) kp_7_10) (show decode cX9_leftOf 52 = .ok (.iaload, 1) from by decide +kernel) rfl (fun x52 => ?_)
    exact slX9_leftOf_J53 C v0 v1 x52 hv0
  · refine sr_iconst (v := (1 : Int32)) (q := 41) C (show decode cX9_leftOf 40 = .ok (.iconst 1, 1) from by decide +kernel) (by decide) rfl ?_
    refine sr_goto (q := 53) C (show decode cX9_leftOf 41 = .ok (.goto 12, 3) from by decide +kernel) (by decide) ?_
    exact slX9_leftOf_J53 C v0 v1 (1 : Int32) hv0
def fnX9_leftOf (v0 : Nat) (v1 : Int32) : sm_M Int32 := m_ai (lk (lk v0 0) 11) v1 fun x8 => m_br (x8 ≤ 0)
    (fnX9_leftOf_J30 v0 v1)
    (m_gi v0 1 fun x13 => m_ai (lk (lk v0 0) 11) v1 fun x24 => m_br (x13 < x24)
    (fnX9_leftOf_J30 v0 v1)
    (m_ret (0 : Int32)))
set_option maxHeartbeats 4000000 in
set_option maxRecDepth 100000 in
theorem slX9_leftOf {κ : sm_X} (C : sm_C κ RX9 cX9_leftOf 3 1) (v0 : Nat) (v1 : Int32) (hv0 : kd v0 = 9) : sm_S κ (fun r : Int32 => .inr (some (.int r))) (.inl (0, [some (xad κ v0), some (.int v1), none], [])) (fnX9_leftOf v0 v1) := by
  unfold fnX9_leftOf
  refine sr_aload_n (i := 0) (q := 1) C (show decode cX9_leftOf 0 = .ok (.aload_n 0, 1) from by decide +kernel) rfl rfl rfl ?_
  refine sr_getr (q := 4) C fl_X9_21 hv0 (show decode cX9_leftOf 1 = .ok (.getfield 21, 3) from by decide +kernel) rfl ?_
  refine sr_getr (q := 7) C fl_X9_41 (kt hv0 kp_9_0) (show decode cX9_leftOf 4 = .ok (.getfield 41, 3) from by decide +kernel) rfl ?_
  refine sr_iload_n (i := 1) (q := 8) C (show decode cX9_leftOf 7 = .ok (.iload_n 1, 1) from by decide +kernel) rfl rfl rfl ?_
  refine sr_iaload (q := 9) C (kt (kt hv0 kp_9_0) kp_7_11) (show decode cX9_leftOf 8 = .ok (.iaload, 1) from by decide +kernel) rfl (fun x8 => ?_)
  refine sr_if_le (q := 12) C 30 (show decode cX9_leftOf 9 = .ok (.ifCond .le 21, 3) from by decide +kernel) (by decide) rfl ?_ ?_
  · exact slX9_leftOf_J30 C v0 v1 hv0
  · refine sr_aload_n (i := 0) (q := 13) C (show decode cX9_leftOf 12 = .ok (.aload_n 0, 1) from by decide +kernel) rfl rfl rfl ?_
    refine sr_geti (q := 16) C fl_X9_31 (Or.inl rfl) hv0 (show decode cX9_leftOf 13 = .ok (.getfield 31, 3) from by decide +kernel) rfl (fun x13 => ?_)
    refine sr_aload_n (i := 0) (q := 17) C (show decode cX9_leftOf 16 = .ok (.aload_n 0, 1) from by decide +kernel) rfl rfl rfl ?_
    refine sr_getr (q := 20) C fl_X9_21 hv0 (show decode cX9_leftOf 17 = .ok (.getfield 21, 3) from by decide +kernel) rfl ?_
    refine sr_getr (q := 23) C fl_X9_41 (kt hv0 kp_9_0) (show decode cX9_leftOf 20 = .ok (.getfield 41, 3) from by decide +kernel) rfl ?_
    refine sr_iload_n (i := 1) (q := 24) C (show decode cX9_leftOf 23 = .ok (.iload_n 1, 1) from by decide +kernel) rfl rfl rfl ?_
    refine sr_iaload (q := 25) C (kt (kt hv0 kp_9_0) kp_7_11) (show decode cX9_leftOf 24 = .ok (.iaload, 1) from by decide +kernel) rfl (fun x24 => ?_)
    refine sr_icmp_lt (q := 28) C 30 (show decode cX9_leftOf 25 = .ok (.if_icmp .lt 5, 3) from by decide +kernel) (by decide) rfl ?_ ?_
    · exact slX9_leftOf_J30 C v0 v1 hv0
    · refine sr_iconst (v := (0 : Int32)) (q := 29) C (show decode cX9_leftOf 28 = .ok (.iconst 0, 1) from by decide +kernel) (by decide) rfl ?_
      exact sr_ireturn C _ rfl (show decode cX9_leftOf 29 = .ok (.ireturn, 1) from by decide +kernel)
theorem cnX9_leftOf (ω : sm_O) (v0 : Nat) (v1 : Int32) (hv0 : kd v0 = 9) : sm_Mt 1 yX9_leftOf cX9_leftOf 3 (some .int) ω [.ref (ω.1 + v0), .int v1] (fun a => some (.int a)) (fnX9_leftOf v0 v1) := by
  refine sm_conI (r := fun a => a) (by decide) (fun _ => rfl) (Nat.le_of_ble_eq_true rfl) ?_
  intro κ hκ C
  subst hκ
  exact slX9_leftOf C v0 v1 hv0
def fnX9_openFor_J30 (k4 : Nat → Int32 → Int32 → Int32 → sm_M Int32) (v0 : Nat) (v1 : Int32) (v2 : Int32) (v3 : Int32) : sm_M Int32 := k4 v0 v1 v2 (v3 + (1 : Int32))
set_option maxHeartbeats 4000000 in
set_option maxRecDepth 100000 in
theorem slX9_openFor_J30 {κ : sm_X} (C : sm_C κ RX9 cX9_openFor 4 2) {k4 : Nat → Int32 → Int32 → Int32 → sm_M Int32} (K4 : ∀ (v0 : Nat) (v1 : Int32) (v2 : Int32) (v3 : Int32) (hv0 : kd v0 = 9), sm_S κ (fun r : Int32 => .inr (some (.int r))) (.inl (4, [some (xad κ v0), some (.int v1), some (.int v2), some (.int v3)], [])) (k4 v0 v1 v2 v3)) (v0 : Nat) (v1 : Int32) (v2 : Int32) (v3 : Int32) (hv0 : kd v0 = 9) : sm_S κ (fun r : Int32 => .inr (some (.int r))) (.inl (30, [some (xad κ v0), some (.int v1), some (.int v2), some (.int v3)], [])) (fnX9_openFor_J30 k4 v0 v1 v2 v3) := by
  unfold fnX9_openFor_J30
  refine sr_iinc (v := v3 + (1 : Int32)) (L' := [some (xad κ v0), some (.int v1), some (.int v2), some (.int (v3 + (1 : Int32)))]) (q := 33) C (show decode cX9_openFor 30 = .ok (.iinc 3 1, 3) from by decide +kernel) rfl rfl (by decide) rfl rfl ?_
  refine sr_goto (q := 4) C (show decode cX9_openFor 33 = .ok (.goto (-29), 3) from by decide +kernel) (by decide) ?_
  exact K4 v0 v1 v2 (v3 + (1 : Int32)) hv0
def fnX9_openFor_L4 : Nat → Nat → Int32 → Int32 → Int32 → sm_M Int32
  | 0, _, _, _, _ => m_fail
  | n + 1, v0, v1, v2, v3 => m_gi (lk v0 0) 4 fun x9 => m_br (x9 ≤ v3)
    (m_ret v2)
    (m_bnd (fnX9_leftOf v0 v3) fun x17 => m_br (x17 < v1)
    (fnX9_openFor_J30 (fnX9_openFor_L4 n) v0 v1 v2 v3)
    (m_nm (v2 ||| ((1 : Int32) <<< (v3 &&& 31))) fun y29 => fnX9_openFor_J30 (fnX9_openFor_L4 n) v0 v1 y29 v3))
set_option maxHeartbeats 4000000 in
set_option maxRecDepth 100000 in
theorem slX9_openFor_L4 {κ : sm_X} (C : sm_C κ RX9 cX9_openFor 4 2) : ∀ (n : Nat) (v0 : Nat) (v1 : Int32) (v2 : Int32) (v3 : Int32) (hv0 : kd v0 = 9), sm_S κ (fun r : Int32 => .inr (some (.int r))) (.inl (4, [some (xad κ v0), some (.int v1), some (.int v2), some (.int v3)], [])) (fnX9_openFor_L4 n v0 v1 v2 v3) := by
  intro n
  induction n with
  | zero =>
    intros
    exact sr_fail
  | succ n K4 =>
    intro v0 v1 v2 v3 hv0
    unfold fnX9_openFor_L4
    refine sr_iload_n (i := 3) (q := 5) C (show decode cX9_openFor 4 = .ok (.iload_n 3, 1) from by decide +kernel) rfl rfl rfl ?_
    refine sr_aload_n (i := 0) (q := 6) C (show decode cX9_openFor 5 = .ok (.aload_n 0, 1) from by decide +kernel) rfl rfl rfl ?_
    refine sr_getr (q := 9) C fl_X9_21 hv0 (show decode cX9_openFor 6 = .ok (.getfield 21, 3) from by decide +kernel) rfl ?_
    refine sr_geti (q := 12) C fl_X9_49 (Or.inl rfl) (kt hv0 kp_9_0) (show decode cX9_openFor 9 = .ok (.getfield 49, 3) from by decide +kernel) rfl (fun x9 => ?_)
    refine sr_icmp_ge (q := 15) C 36 (show decode cX9_openFor 12 = .ok (.if_icmp .ge 24, 3) from by decide +kernel) (by decide) rfl ?_ ?_
    · refine sr_iload_n (i := 2) (q := 37) C (show decode cX9_openFor 36 = .ok (.iload_n 2, 1) from by decide +kernel) rfl rfl rfl ?_
      exact sr_ireturn C _ rfl (show decode cX9_openFor 37 = .ok (.ireturn, 1) from by decide +kernel)
    · refine sr_aload_n (i := 0) (q := 16) C (show decode cX9_openFor 15 = .ok (.aload_n 0, 1) from by decide +kernel) rfl rfl rfl ?_
      refine sr_iload_n (i := 3) (q := 17) C (show decode cX9_openFor 16 = .ok (.iload_n 3, 1) from by decide +kernel) rfl rfl rfl ?_
      refine sr_cVi (As := [.int v3]) (st := []) (b := v0) (q := 20) C yvX9_leftOf ml_X9_52 (cnX9_leftOf (xo κ) v0 v3 hv0) hv0 (by decide) rfl rfl rfl (by decide) (by decide) (Nat.le_of_ble_eq_true rfl) rfl (show decode cX9_openFor 17 = .ok (.invokevirtual 52, 3) from by decide +kernel) rfl (fun x17 => ?_)
      refine sr_iload_n (i := 1) (q := 21) C (show decode cX9_openFor 20 = .ok (.iload_n 1, 1) from by decide +kernel) rfl rfl rfl ?_
      refine sr_icmp_lt (q := 24) C 30 (show decode cX9_openFor 21 = .ok (.if_icmp .lt 9, 3) from by decide +kernel) (by decide) rfl ?_ ?_
      · exact slX9_openFor_J30 C K4 v0 v1 v2 v3 hv0
      · refine sr_iload_n (i := 2) (q := 25) C (show decode cX9_openFor 24 = .ok (.iload_n 2, 1) from by decide +kernel) rfl rfl rfl ?_
        refine sr_iconst (v := (1 : Int32)) (q := 26) C (show decode cX9_openFor 25 = .ok (.iconst 1, 1) from by decide +kernel) (by decide) rfl ?_
        refine sr_iload_n (i := 3) (q := 27) C (show decode cX9_openFor 26 = .ok (.iload_n 3, 1) from by decide +kernel) rfl rfl rfl ?_
        refine sr_ishl (q := 28) C (show decode cX9_openFor 27 = .ok (.ishl, 1) from by decide +kernel) rfl ?_
        refine sr_ior (q := 29) C (show decode cX9_openFor 28 = .ok (.ior, 1) from by decide +kernel) rfl ?_
        refine sr_nmi (fun y29 => ?_)
        refine sr_istore_n (i := 2) (L' := [some (xad κ v0), some (.int v1), some (.int y29), some (.int v3)]) (q := 30) C (show decode cX9_openFor 29 = .ok (.istore_n 2, 1) from by decide +kernel) rfl (by decide) rfl rfl ?_
        exact slX9_openFor_J30 C K4 v0 v1 y29 v3 hv0
def fnX9_openFor (v0 : Nat) (v1 : Int32) : sm_M Int32 := fnX9_openFor_L4 4096 v0 v1 (0 : Int32) (0 : Int32)
set_option maxHeartbeats 4000000 in
set_option maxRecDepth 100000 in
theorem slX9_openFor {κ : sm_X} (C : sm_C κ RX9 cX9_openFor 4 2) (v0 : Nat) (v1 : Int32) (hv0 : kd v0 = 9) : sm_S κ (fun r : Int32 => .inr (some (.int r))) (.inl (0, [some (xad κ v0), some (.int v1), none, none], [])) (fnX9_openFor v0 v1) := by
  unfold fnX9_openFor
  refine sr_iconst (v := (0 : Int32)) (q := 1) C (show decode cX9_openFor 0 = .ok (.iconst 0, 1) from by decide +kernel) (by decide) rfl ?_
  refine sr_istore_n (i := 2) (L' := [some (xad κ v0), some (.int v1), some (.int (0 : Int32)), none]) (q := 2) C (show decode cX9_openFor 1 = .ok (.istore_n 2, 1) from by decide +kernel) rfl (by decide) rfl rfl ?_
  refine sr_iconst (v := (0 : Int32)) (q := 3) C (show decode cX9_openFor 2 = .ok (.iconst 0, 1) from by decide +kernel) (by decide) rfl ?_
  refine sr_istore_n (i := 3) (L' := [some (xad κ v0), some (.int v1), some (.int (0 : Int32)), some (.int (0 : Int32))]) (q := 4) C (show decode cX9_openFor 3 = .ok (.istore_n 3, 1) from by decide +kernel) rfl (by decide) rfl rfl ?_
  exact slX9_openFor_L4 C 4096 v0 v1 (0 : Int32) (0 : Int32) hv0
theorem cnX9_openFor (ω : sm_O) (v0 : Nat) (v1 : Int32) (hv0 : kd v0 = 9) : sm_Mt 2 yX9_openFor cX9_openFor 4 (some .int) ω [.ref (ω.1 + v0), .int v1] (fun a => some (.int a)) (fnX9_openFor v0 v1) := by
  refine sm_conI (r := fun a => a) (by decide) (fun _ => rfl) (Nat.le_of_ble_eq_true rfl) ?_
  intro κ hκ C
  subst hκ
  exact slX9_openFor C v0 v1 hv0
def fnX0_couldGo (v0 : Nat) (v1 : Nat) (v2 : Int32) : sm_M Bool := m_bnd (fnX7_strideOf (lk v1 0) v2) fun x5 => m_gi (lk v1 0) 1 fun x14 => m_br (x14 ≤ x5)
    (m_ret true)
    (m_bnd (fnX7_weightOf (lk v1 0) v2) fun x33 => m_bnd (fnX9_openFor v1 x33) fun x36 => m_bnd (fnX3_crosses (lk (lk v0 0) 2) x36 x5) fun x40 => m_br ((bI x40) = 0)
    (m_ret false)
    (m_ret true))
set_option maxHeartbeats 4000000 in
set_option maxRecDepth 100000 in
theorem slX0_couldGo {κ : sm_X} (C : sm_C κ RX0 cX0_couldGo 4 4) (v0 : Nat) (v1 : Nat) (v2 : Int32) (hv0 : kd v0 = 0) (hv1 : kd v1 = 9) : sm_S κ (fun r : Bool => .inr (some (.int (bI r)))) (.inl (0, [some (xad κ v0), some (xad κ v1), some (.int v2), none], [])) (fnX0_couldGo v0 v1 v2) := by
  unfold fnX0_couldGo
  refine sr_aload_n (i := 1) (q := 1) C (show decode cX0_couldGo 0 = .ok (.aload_n 1, 1) from by decide +kernel) rfl rfl rfl ?_
  refine sr_getr (q := 4) C fl_X0_21 hv1 (show decode cX0_couldGo 1 = .ok (.getfield 21, 3) from by decide +kernel) rfl ?_
  refine sr_iload_n (i := 2) (q := 5) C (show decode cX0_couldGo 4 = .ok (.iload_n 2, 1) from by decide +kernel) rfl rfl rfl ?_
  refine sr_cVi (As := [.int v2]) (st := []) (b := lk v1 0) (q := 8) C yvX7_strideOf ml_X0_31 (cnX7_strideOf (xo κ) (lk v1 0) v2 (kt hv1 kp_9_0)) (kt hv1 kp_9_0) (by decide) rfl rfl rfl (by decide) (by decide) (Nat.le_of_ble_eq_true rfl) rfl (show decode cX0_couldGo 5 = .ok (.invokevirtual 31, 3) from by decide +kernel) rfl (fun x5 => ?_)
  refine sr_istore_n (i := 3) (L' := [some (xad κ v0), some (xad κ v1), some (.int v2), some (.int x5)]) (q := 9) C (show decode cX0_couldGo 8 = .ok (.istore_n 3, 1) from by decide +kernel) rfl (by decide) rfl rfl ?_
  refine sr_iload_n (i := 3) (q := 10) C (show decode cX0_couldGo 9 = .ok (.iload_n 3, 1) from by decide +kernel) rfl rfl rfl ?_
  refine sr_aload_n (i := 1) (q := 11) C (show decode cX0_couldGo 10 = .ok (.aload_n 1, 1) from by decide +kernel) rfl rfl rfl ?_
  refine sr_getr (q := 14) C fl_X0_21 hv1 (show decode cX0_couldGo 11 = .ok (.getfield 21, 3) from by decide +kernel) rfl ?_
  refine sr_geti (q := 17) C fl_X0_80 (Or.inl rfl) (kt hv1 kp_9_0) (show decode cX0_couldGo 14 = .ok (.getfield 80, 3) from by decide +kernel) rfl (fun x14 => ?_)
  refine sr_icmp_ge (q := 20) C 46 (show decode cX0_couldGo 17 = .ok (.if_icmp .ge 29, 3) from by decide +kernel) (by decide) rfl ?_ ?_
  · refine sr_iconst (v := (1 : Int32)) (q := 47) C (show decode cX0_couldGo 46 = .ok (.iconst 1, 1) from by decide +kernel) (by decide) rfl ?_
    refine sr_goto (q := 51) C (show decode cX0_couldGo 47 = .ok (.goto 4, 3) from by decide +kernel) (by decide) ?_
    exact sr_ireturn C true rfl (show decode cX0_couldGo 51 = .ok (.ireturn, 1) from by decide +kernel)
  · refine sr_aload_n (i := 0) (q := 21) C (show decode cX0_couldGo 20 = .ok (.aload_n 0, 1) from by decide +kernel) rfl rfl rfl ?_
    refine sr_getr (q := 24) C fl_X0_9 hv0 (show decode cX0_couldGo 21 = .ok (.getfield 9, 3) from by decide +kernel) rfl ?_
    refine sr_getrN (q := 27) C (kt hv0 kp_0_0) (show decode cX0_couldGo 24 = .ok (.getfield 83, 3) from by decide +kernel) rfl ?_
    refine sr_aload_n (i := 1) (q := 28) C (show decode cX0_couldGo 27 = .ok (.aload_n 1, 1) from by decide +kernel) rfl rfl rfl ?_
    refine sr_aload_n (i := 1) (q := 29) C (show decode cX0_couldGo 28 = .ok (.aload_n 1, 1) from by decide +kernel) rfl rfl rfl ?_
    refine sr_getr (q := 32) C fl_X0_21 hv1 (show decode cX0_couldGo 29 = .ok (.getfield 21, 3) from by decide +kernel) rfl ?_
    refine sr_iload_n (i := 2) (q := 33) C (show decode cX0_couldGo 32 = .ok (.iload_n 2, 1) from by decide +kernel) rfl rfl rfl ?_
    refine sr_cVi (As := [.int v2]) (st := [xad κ v1, xad κ (lk (lk v0 0) 2)]) (b := lk v1 0) (q := 36) C yvX7_weightOf ml_X0_25 (cnX7_weightOf (xo κ) (lk v1 0) v2 (kt hv1 kp_9_0)) (kt hv1 kp_9_0) (by decide) rfl rfl rfl (by decide) (by decide) (Nat.le_of_ble_eq_true rfl) rfl (show decode cX0_couldGo 33 = .ok (.invokevirtual 25, 3) from by decide +kernel) rfl (fun x33 => ?_)
    refine sr_cVi (As := [.int x33]) (st := [xad κ (lk (lk v0 0) 2)]) (b := v1) (q := 39) C yvX9_openFor ml_X0_87 (cnX9_openFor (xo κ) v1 x33 hv1) hv1 (by decide) rfl rfl rfl (by decide) (by decide) (Nat.le_of_ble_eq_true rfl) rfl (show decode cX0_couldGo 36 = .ok (.invokevirtual 87, 3) from by decide +kernel) rfl (fun x36 => ?_)
    refine sr_iload_n (i := 3) (q := 40) C (show decode cX0_couldGo 39 = .ok (.iload_n 3, 1) from by decide +kernel) rfl rfl rfl ?_
    refine sr_cVz (As := [.int x36, .int x5]) (st := []) (b := lk (lk v0 0) 2) (q := 43) C yvX3_crosses ml_X0_90 (cnX3_crosses (xo κ) (lk (lk v0 0) 2) x36 x5 (kt (kt hv0 kp_0_0) kp_10_2)) (kt (kt hv0 kp_0_0) kp_10_2) (by decide) rfl rfl rfl (by decide) (by decide) (Nat.le_of_ble_eq_true rfl) rfl (show decode cX0_couldGo 40 = .ok (.invokevirtual 90, 3) from by decide +kernel) rfl (fun x40 => ?_)
    refine sr_if_eq (q := 46) C 50 (show decode cX0_couldGo 43 = .ok (.ifCond .eq 7, 3) from by decide +kernel) (by decide) rfl ?_ ?_
    · refine sr_iconst (v := (0 : Int32)) (q := 51) C (show decode cX0_couldGo 50 = .ok (.iconst 0, 1) from by decide +kernel) (by decide) rfl ?_
      exact sr_ireturn C false rfl (show decode cX0_couldGo 51 = .ok (.ireturn, 1) from by decide +kernel)
    · refine sr_iconst (v := (1 : Int32)) (q := 47) C (show decode cX0_couldGo 46 = .ok (.iconst 1, 1) from by decide +kernel) (by decide) rfl ?_
      refine sr_goto (q := 51) C (show decode cX0_couldGo 47 = .ok (.goto 4, 3) from by decide +kernel) (by decide) ?_
      exact sr_ireturn C true rfl (show decode cX0_couldGo 51 = .ok (.ireturn, 1) from by decide +kernel)
theorem cnX0_couldGo (ω : sm_O) (v0 : Nat) (v1 : Nat) (v2 : Int32) (hv0 : kd v0 = 0) (hv1 : kd v1 = 9) : sm_Mt 4 yX0_couldGo cX0_couldGo 4 (some .boolean) ω [.ref (ω.1 + v0), .ref (ω.1 + v1), .int v2] (fun a => some (.int (bI a))) (fnX0_couldGo v0 v1 v2) := by
  refine sm_conI (r := bI) (by decide) bI_nar (Nat.le_of_ble_eq_true rfl) ?_
  intro κ hκ C
  subst hκ
  exact slX0_couldGo C v0 v1 v2 hv0 hv1
def fnX10_crowd_L5 : Nat → Nat → Nat → Int32 → Int32 → Int32 → sm_M Int32
  | 0, _, _, _, _, _ => m_fail
  | n + 1, v0, v1, v2, v3, v4 => m_gi v1 5 fun x8 => m_br (x8 ≤ v4)
    (m_ret v3)
    (m_ai (lk v1 13) v4 fun x25 => m_ai (lk v0 5) x25 fun x26 => m_nm (v3 + ((x26 >>> (v2 &&& 31)) &&& (1 : Int32))) fun y32 => (fnX10_crowd_L5 n) v0 v1 v2 y32 (v4 + (1 : Int32)))
set_option maxHeartbeats 4000000 in
set_option maxRecDepth 100000 in
theorem slX10_crowd_L5 {κ : sm_X} (C : sm_C κ RX10 cX10_crowd 5 1) : ∀ (n : Nat) (v0 : Nat) (v1 : Nat) (v2 : Int32) (v3 : Int32) (v4 : Int32) (hv0 : kd v0 = 10) (hv1 : kd v1 = 7), sm_S κ (fun r : Int32 => .inr (some (.int r))) (.inl (5, [some (xad κ v0), some (xad κ v1), some (.int v2), some (.int v3), some (.int v4)], [])) (fnX10_crowd_L5 n v0 v1 v2 v3 v4) := by
  intro n
  induction n with
  | zero =>
    intros
    exact sr_fail
  | succ n K5 =>
    intro v0 v1 v2 v3 v4 hv0 hv1
    unfold fnX10_crowd_L5
    refine sr_iload (i := 4) (q := 7) C (show decode cX10_crowd 5 = .ok (.iload 4, 2) from by decide +kernel) rfl rfl ?_
    refine sr_aload_n (i := 1) (q := 8) C (show decode cX10_crowd 7 = .ok (.aload_n 1, 1) from by decide +kernel) rfl rfl rfl ?_
    refine sr_geti (q := 11) C fl_X10_87 (Or.inl rfl) hv1 (show decode cX10_crowd 8 = .ok (.getfield 87, 3) from by decide +kernel) rfl (fun x8 => ?_)
    refine sr_icmp_ge (q := 14) C 39 (show decode cX10_crowd 11 = .ok (.if_icmp .ge 28, 3) from by decide +kernel) (by decide) rfl ?_ ?_
    · refine sr_iload_n (i := 3) (q := 40) C (show decode cX10_crowd 39 = .ok (.iload_n 3, 1) from by decide +kernel) rfl rfl rfl ?_
      exact sr_ireturn C _ rfl (show decode cX10_crowd 40 = .ok (.ireturn, 1) from by decide +kernel)
    · refine sr_iload_n (i := 3) (q := 15) C (show decode cX10_crowd 14 = .ok (.iload_n 3, 1) from by decide +kernel) rfl rfl rfl ?_
      refine sr_aload_n (i := 0) (q := 16) C (show decode cX10_crowd 15 = .ok (.aload_n 0, 1) from by decide +kernel) rfl rfl rfl ?_
      refine sr_getr (q := 19) C fl_X10_21 hv0 (show decode cX10_crowd 16 = .ok (.getfield 21, 3) from by decide +kernel) rfl ?_
      refine sr_aload_n (i := 1) (q := 20) C (show decode cX10_crowd 19 = .ok (.aload_n 1, 1) from by decide +kernel) rfl rfl rfl ?_
      refine sr_getr (q := 23) C fl_X10_90 hv1 (show decode cX10_crowd 20 = .ok (.getfield 90, 3) from by decide +kernel) rfl ?_
      refine sr_iload (i := 4) (q := 25) C (show decode cX10_crowd 23 = .ok (.iload 4, 2) from by decide +kernel) rfl rfl ?_
      refine sr_iaload (q := 26) C (kt hv1 kp_7_13) (show decode cX10_crowd 25 = .ok (.iaload, 1) from by decide +kernel) rfl (fun x25 => ?_)
      refine sr_iaload (q := 27) C (kt hv0 kp_10_5) (show decode cX10_crowd 26 = .ok (.iaload, 1) from by decide +kernel) rfl (fun x26 => ?_)
      refine sr_iload_n (i := 2) (q := 28) C (show decode cX10_crowd 27 = .ok (.iload_n 2, 1) from by decide +kernel) rfl rfl rfl ?_
      refine sr_ishr (q := 29) C (show decode cX10_crowd 28 = .ok (.ishr, 1) from by decide +kernel) rfl ?_
      refine sr_iconst (v := (1 : Int32)) (q := 30) C (show decode cX10_crowd 29 = .ok (.iconst 1, 1) from by decide +kernel) (by decide) rfl ?_
      refine sr_iand (q := 31) C (show decode cX10_crowd 30 = .ok (.iand, 1) from by decide +kernel) rfl ?_
      refine sr_iadd (q := 32) C (show decode cX10_crowd 31 = .ok (.iadd, 1) from by decide +kernel) rfl ?_
      refine sr_nmi (fun y32 => ?_)
      refine sr_istore_n (i := 3) (L' := [some (xad κ v0), some (xad κ v1), some (.int v2), some (.int y32), some (.int v4)]) (q := 33) C (show decode cX10_crowd 32 = .ok (.istore_n 3, 1) from by decide +kernel) rfl (by decide) rfl rfl ?_
      refine sr_iinc (v := v4 + (1 : Int32)) (L' := [some (xad κ v0), some (xad κ v1), some (.int v2), some (.int y32), some (.int (v4 + (1 : Int32)))]) (q := 36) C (show decode cX10_crowd 33 = .ok (.iinc 4 1, 3) from by decide +kernel) rfl rfl (by decide) rfl rfl ?_
      refine sr_goto (q := 5) C (show decode cX10_crowd 36 = .ok (.goto (-31), 3) from by decide +kernel) (by decide) ?_
      exact K5 v0 v1 v2 y32 (v4 + (1 : Int32)) hv0 hv1
def fnX10_crowd (v0 : Nat) (v1 : Nat) (v2 : Int32) : sm_M Int32 := fnX10_crowd_L5 4096 v0 v1 v2 (0 : Int32) (0 : Int32)
set_option maxHeartbeats 4000000 in
set_option maxRecDepth 100000 in
theorem slX10_crowd {κ : sm_X} (C : sm_C κ RX10 cX10_crowd 5 1) (v0 : Nat) (v1 : Nat) (v2 : Int32) (hv0 : kd v0 = 10) (hv1 : kd v1 = 7) : sm_S κ (fun r : Int32 => .inr (some (.int r))) (.inl (0, [some (xad κ v0), some (xad κ v1), some (.int v2), none, none], [])) (fnX10_crowd v0 v1 v2) := by
  unfold fnX10_crowd
  refine sr_iconst (v := (0 : Int32)) (q := 1) C (show decode cX10_crowd 0 = .ok (.iconst 0, 1) from by decide +kernel) (by decide) rfl ?_
  refine sr_istore_n (i := 3) (L' := [some (xad κ v0), some (xad κ v1), some (.int v2), some (.int (0 : Int32)), none]) (q := 2) C (show decode cX10_crowd 1 = .ok (.istore_n 3, 1) from by decide +kernel) rfl (by decide) rfl rfl ?_
  refine sr_iconst (v := (0 : Int32)) (q := 3) C (show decode cX10_crowd 2 = .ok (.iconst 0, 1) from by decide +kernel) (by decide) rfl ?_
  refine sr_istore (i := 4) (L' := [some (xad κ v0), some (xad κ v1), some (.int v2), some (.int (0 : Int32)), some (.int (0 : Int32))]) (q := 5) C (show decode cX10_crowd 3 = .ok (.istore 4, 2) from by decide +kernel) (by decide) rfl rfl ?_
  exact slX10_crowd_L5 C 4096 v0 v1 v2 (0 : Int32) (0 : Int32) hv0 hv1
theorem cnX10_crowd (ω : sm_O) (v0 : Nat) (v1 : Nat) (v2 : Int32) (hv0 : kd v0 = 10) (hv1 : kd v1 = 7) : sm_Mt 1 yX10_crowd cX10_crowd 5 (some .int) ω [.ref (ω.1 + v0), .ref (ω.1 + v1), .int v2] (fun a => some (.int a)) (fnX10_crowd v0 v1 v2) := by
  refine sm_conI (r := fun a => a) (by decide) (fun _ => rfl) (Nat.le_of_ble_eq_true rfl) ?_
  intro κ hκ C
  subst hκ
  exact slX10_crowd C v0 v1 v2 hv0 hv1
def fnX10_putCosts_J67 (k2 : Nat → Nat → Int32 → Int32 → sm_M Unit) (v0 : Nat) (v1 : Nat) (v2 : Int32) (v3 : Int32) (v4 : Int32) : sm_M Unit := m_sai (lk v0 3) v3 (((32 : Int32) * v4) + (1 : Int32)) <| k2 v0 v1 v2 (v3 + (1 : Int32))
set_option maxHeartbeats 4000000 in
set_option maxRecDepth 100000 in
theorem slX10_putCosts_J67 {κ : sm_X} (C : sm_C κ RX10 cX10_putCosts 5 2) {k2 : Nat → Nat → Int32 → Int32 → sm_M Unit} (K2 : ∀ (v0 : Nat) (v1 : Nat) (v2 : Int32) (v3 : Int32) (hv0 : kd v0 = 10) (hv1 : kd v1 = 9), sm_S κ (fun _ : Unit => .inr none) (.inl (2, [some (xad κ v0), some (xad κ v1), some (.int v2), some (.int v3), none], [])) (k2 v0 v1 v2 v3)) (v0 : Nat) (v1 : Nat) (v2 : Int32) (v3 : Int32) (v4 : Int32) (hv0 : kd v0 = 10) (hv1 : kd v1 = 9) : sm_S κ (fun _ : Unit => .inr none) (.inl (67, [some (xad κ v0), some (xad κ v1), some (.int v2), some (.int v3), some (.int v4)], [])) (fnX10_putCosts_J67 k2 v0 v1 v2 v3 v4) := by
  unfold fnX10_putCosts_J67
  refine sr_aload_n (i := 0) (q := 68) C (show decode cX10_putCosts 67 = .ok (.aload_n 0, 1) from by decide +kernel) rfl rfl rfl ?_
  refine sr_getr (q := 71) C fl_X10_15 hv0 (show decode cX10_putCosts 68 = .ok (.getfield 15, 3) from by decide +kernel) rfl ?_
  refine sr_iload_n (i := 3) (q := 72) C (show decode cX10_putCosts 71 = .ok (.iload_n 3, 1) from by decide +kernel) rfl rfl rfl ?_
  refine sr_bipush (v := (32 : Int32)) (q := 74) C (show decode cX10_putCosts 72 = .ok (.bipush 32, 2) from by decide +kernel) (by decide) rfl ?_
  refine sr_iload (i := 4) (q := 76) C (show decode cX10_putCosts 74 = .ok (.iload 4, 2) from by decide +kernel) rfl rfl ?_
  refine sr_imul (q := 77) C (show decode cX10_putCosts 76 = .ok (.imul, 1) from by decide +kernel) rfl ?_
  refine sr_iconst (v := (1 : Int32)) (q := 78) C (show decode cX10_putCosts 77 = .ok (.iconst 1, 1) from by decide +kernel) (by decide) rfl ?_
  refine sr_iadd (q := 79) C (show decode cX10_putCosts 78 = .ok (.iadd, 1) from by decide +kernel) rfl ?_
  refine sr_iastore (q := 80) C (kt hv0 kp_10_3) (show decode cX10_putCosts 79 = .ok (.iastore, 1) from by decide +kernel) rfl ?_
  refine sr_iinc (v := v3 + (1 : Int32)) (L' := [some (xad κ v0), some (xad κ v1), some (.int v2), some (.int (v3 + (1 : Int32))), some (.int v4)]) (q := 83) C (show decode cX10_putCosts 80 = .ok (.iinc 3 1, 3) from by decide +kernel) rfl rfl (by decide) rfl rfl ?_
  refine sr_goto (q := 2) C (show decode cX10_putCosts 83 = .ok (.goto (-81), 3) from by decide +kernel) (by decide) ?_
  refine sr_weak (L' := [some (xad κ v0), some (xad κ v1), some (.int v2), some (.int (v3 + (1 : Int32))), none]) ⟨rfl, rfl, rfl, rfl, trivial⟩ ?_
  exact K2 v0 v1 v2 (v3 + (1 : Int32)) hv0 hv1
def fnX10_putCosts_L2 : Nat → Nat → Nat → Int32 → Int32 → sm_M Unit
  | 0, _, _, _, _ => m_fail
  | n + 1, v0, v1, v2, v3 => m_gi (lk v1 0) 4 fun x7 => m_br (x7 ≤ v3)
    (m_ret ())
    (m_br (v2 = (1 : Int32))
    (m_bnd (fnX10_crowd v0 (lk v1 0) v3) fun x28 => m_nm ((1 : Int32) + x28) fun y32 => fnX10_putCosts_J67 (fnX10_putCosts_L2 n) v0 v1 v2 v3 y32)
    (m_br (v2 = (2 : Int32))
    (m_bnd (fnX9_leftOf v1 v3) fun x44 => fnX10_putCosts_J67 (fnX10_putCosts_L2 n) v0 v1 v2 v3 x44)
    (m_br (v2 = (3 : Int32))
    (m_bnd (fnX9_leftOf v1 v3) fun x61 => m_nm ((10 : Int32) - x61) fun y65 => fnX10_putCosts_J67 (fnX10_putCosts_L2 n) v0 v1 v2 v3 y65)
    (fnX10_putCosts_J67 (fnX10_putCosts_L2 n) v0 v1 v2 v3 (1 : Int32)))))
set_option maxHeartbeats 4000000 in
set_option maxRecDepth 100000 in
theorem slX10_putCosts_L2 {κ : sm_X} (C : sm_C κ RX10 cX10_putCosts 5 2) : ∀ (n : Nat) (v0 : Nat) (v1 : Nat) (v2 : Int32) (v3 : Int32) (hv0 : kd v0 = 10) (hv1 : kd v1 = 9), sm_S κ (fun _ : Unit => .inr none) (.inl (2, [some (xad κ v0), some (xad κ v1), some (.int v2), some (.int v3), none], [])) (fnX10_putCosts_L2 n v0 v1 v2 v3) := by
  intro n
  induction n with
  | zero =>
    intros
    exact sr_fail
  | succ n K2 =>
    intro v0 v1 v2 v3 hv0 hv1
    unfold fnX10_putCosts_L2
    refine sr_iload_n (i := 3) (q := 3) C (show decode cX10_putCosts 2 = .ok (.iload_n 3, 1) from by decide +kernel) rfl rfl rfl ?_
    refine sr_aload_n (i := 1) (q := 4) C (show decode cX10_putCosts 3 = .ok (.aload_n 1, 1) from by decide +kernel) rfl rfl rfl ?_
    refine sr_getr (q := 7) C fl_X10_32 hv1 (show decode cX10_putCosts 4 = .ok (.getfield 32, 3) from by decide +kernel) rfl ?_
    refine sr_geti (q := 10) C fl_X10_71 (Or.inl rfl) (kt hv1 kp_9_0) (show decode cX10_putCosts 7 = .ok (.getfield 71, 3) from by decide +kernel) rfl (fun x7 => ?_)
    refine sr_icmp_ge (q := 13) C 86 (show decode cX10_putCosts 10 = .ok (.if_icmp .ge 76, 3) from by decide +kernel) (by decide) rfl ?_ ?_
    · exact sr_vreturn C _ rfl (show decode cX10_putCosts 86 = .ok (.return_, 1) from by decide +kernel)
    · refine sr_iconst (v := (1 : Int32)) (q := 14) C (show decode cX10_putCosts 13 = .ok (.iconst 1, 1) from by decide +kernel) (by decide) rfl ?_
      refine sr_istore (i := 4) (L' := [some (xad κ v0), some (xad κ v1), some (.int v2), some (.int v3), some (.int (1 : Int32))]) (q := 16) C (show decode cX10_putCosts 14 = .ok (.istore 4, 2) from by decide +kernel) (by decide) rfl rfl ?_
      refine sr_iload_n (i := 2) (q := 17) C (show decode cX10_putCosts 16 = .ok (.iload_n 2, 1) from by decide +kernel) rfl rfl rfl ?_
      refine sr_iconst (v := (1 : Int32)) (q := 18) C (show decode cX10_putCosts 17 = .ok (.iconst 1, 1) from by decide +kernel) (by decide) rfl ?_
      refine sr_icmp_ne (q := 21) C 37 (show decode cX10_putCosts 18 = .ok (.if_icmp .ne 19, 3) from by decide +kernel) (by decide) rfl ?_ ?_
      · refine sr_iload_n (i := 2) (q := 38) C (show decode cX10_putCosts 37 = .ok (.iload_n 2, 1) from by decide +kernel) rfl rfl rfl ?_
        refine sr_iconst (v := (2 : Int32)) (q := 39) C (show decode cX10_putCosts 38 = .ok (.iconst 2, 1) from by decide +kernel) (by decide) rfl ?_
        refine sr_icmp_ne (q := 42) C 52 (show decode cX10_putCosts 39 = .ok (.if_icmp .ne 13, 3) from by decide +kernel) (by decide) rfl ?_ ?_
        · refine sr_iload_n (i := 2) (q := 53) C (show decode cX10_putCosts 52 = .ok (.iload_n 2, 1) from by decide +kernel) rfl rfl rfl ?_
          refine sr_iconst (v := (3 : Int32)) (q := 54) C (show decode cX10_putCosts 53 = .ok (.iconst 3, 1) from by decide +kernel) (by decide) rfl ?_
          refine sr_icmp_ne (q := 57) C 67 (show decode cX10_putCosts 54 = .ok (.if_icmp .ne 13, 3) from by decide +kernel) (by decide) rfl ?_ ?_
          · exact slX10_putCosts_J67 C K2 v0 v1 v2 v3 (1 : Int32) hv0 hv1
          · refine sr_bipush (v := (10 : Int32)) (q := 59) C (show decode cX10_putCosts 57 = .ok (.bipush 10, 2) from by decide +kernel) (by decide) rfl ?_
            refine sr_aload_n (i := 1) (q := 60) C (show decode cX10_putCosts 59 = .ok (.aload_n 1, 1) from by decide +kernel) rfl rfl rfl ?_
            refine sr_iload_n (i := 3) (q := 61) C (show decode cX10_putCosts 60 = .ok (.iload_n 3, 1) from by decide +kernel) rfl rfl rfl ?_
            refine sr_cVi (As := [.int v3]) (st := [.int (10 : Int32)]) (b := v1) (q := 64) C yvX9_leftOf ml_X10_78 (cnX9_leftOf (xo κ) v1 v3 hv1) hv1 (by decide) rfl rfl rfl (by decide) (by decide) (Nat.le_of_ble_eq_true rfl) rfl (show decode cX10_putCosts 61 = .ok (.invokevirtual 78, 3) from by decide +kernel) rfl (fun x61 => ?_)
            refine sr_isub (q := 65) C (show decode cX10_putCosts 64 = .ok (.isub, 1) from by decide +kernel) rfl ?_
            refine sr_nmi (fun y65 => ?_)
            refine sr_istore (i := 4) (L' := [some (xad κ v0), some (xad κ v1), some (.int v2), some (.int v3), some (.int y65)]) (q := 67) C (show decode cX10_putCosts 65 = .ok (.istore 4, 2) from by decide +kernel) (by decide) rfl rfl ?_
            exact slX10_putCosts_J67 C K2 v0 v1 v2 v3 y65 hv0 hv1
        · refine sr_aload_n (i := 1) (q := 43) C (show decode cX10_putCosts 42 = .ok (.aload_n 1, 1) from by decide +kernel) rfl rfl rfl ?_
          refine sr_iload_n (i := 3) (q := 44) C (show decode cX10_putCosts 43 = .ok (.iload_n 3, 1) from by decide +kernel) rfl rfl rfl ?_
          refine sr_cVi (As := [.int v3]) (st := []) (b := v1) (q := 47) C yvX9_leftOf ml_X10_78 (cnX9_leftOf (xo κ) v1 v3 hv1) hv1 (by decide) rfl rfl rfl (by decide) (by decide) (Nat.le_of_ble_eq_true rfl) rfl (show decode cX10_putCosts 44 = .ok (.invokevirtual 78, 3) from by decide +kernel) rfl (fun x44 => ?_)
          refine sr_istore (i := 4) (L' := [some (xad κ v0), some (xad κ v1), some (.int v2), some (.int v3), some (.int x44)]) (q := 49) C (show decode cX10_putCosts 47 = .ok (.istore 4, 2) from by decide +kernel) (by decide) rfl rfl ?_
          refine sr_goto (q := 67) C (show decode cX10_putCosts 49 = .ok (.goto 18, 3) from by decide +kernel) (by decide) ?_
          exact slX10_putCosts_J67 C K2 v0 v1 v2 v3 x44 hv0 hv1
      · refine sr_iconst (v := (1 : Int32)) (q := 22) C (show decode cX10_putCosts 21 = .ok (.iconst 1, 1) from by decide +kernel) (by decide) rfl ?_
        refine sr_aload_n (i := 0) (q := 23) C (show decode cX10_putCosts 22 = .ok (.aload_n 0, 1) from by decide +kernel) rfl rfl rfl ?_
        refine sr_aload_n (i := 1) (q := 24) C (show decode cX10_putCosts 23 = .ok (.aload_n 1, 1) from by decide +kernel) rfl rfl rfl ?_
        refine sr_getr (q := 27) C fl_X10_32 hv1 (show decode cX10_putCosts 24 = .ok (.getfield 32, 3) from by decide +kernel) rfl ?_
        refine sr_iload_n (i := 3) (q := 28) C (show decode cX10_putCosts 27 = .ok (.iload_n 3, 1) from by decide +kernel) rfl rfl rfl ?_
        refine sr_cVi (As := [xad κ (lk v1 0), .int v3]) (st := [.int (1 : Int32)]) (b := v0) (q := 31) C yvX10_crowd ml_X10_74 (cnX10_crowd (xo κ) v0 (lk v1 0) v3 hv0 (kt hv1 kp_9_0)) hv0 (by decide) rfl rfl rfl (by decide) (by decide) (Nat.le_of_ble_eq_true rfl) rfl (show decode cX10_putCosts 28 = .ok (.invokevirtual 74, 3) from by decide +kernel) rfl (fun x28 => ?_)
        refine sr_iadd (q := 32) C (show decode cX10_putCosts 31 = .ok (.iadd, 1) from by decide +kernel) rfl ?_
        refine sr_nmi (fun y32 => ?_)
        refine sr_istore (i := 4) (L' := [some (xad κ v0), some (xad κ v1), some (.int v2), some (.int v3), some (.int y32)]) (q := 34) C (show decode cX10_putCosts 32 = .ok (.istore 4, 2) from by decide +kernel) (by decide) rfl rfl ?_
        refine sr_goto (q := 67) C (show decode cX10_putCosts 34 = .ok (.goto 33, 3) from by decide +kernel) (by decide) ?_
        exact slX10_putCosts_J67 C K2 v0 v1 v2 v3 y32 hv0 hv1
def fnX10_putCosts (v0 : Nat) (v1 : Nat) (v2 : Int32) : sm_M Unit := fnX10_putCosts_L2 4096 v0 v1 v2 (0 : Int32)
set_option maxHeartbeats 4000000 in
set_option maxRecDepth 100000 in
theorem slX10_putCosts {κ : sm_X} (C : sm_C κ RX10 cX10_putCosts 5 2) (v0 : Nat) (v1 : Nat) (v2 : Int32) (hv0 : kd v0 = 10) (hv1 : kd v1 = 9) : sm_S κ (fun _ : Unit => .inr none) (.inl (0, [some (xad κ v0), some (xad κ v1), some (.int v2), none, none], [])) (fnX10_putCosts v0 v1 v2) := by
  unfold fnX10_putCosts
  refine sr_iconst (v := (0 : Int32)) (q := 1) C (show decode cX10_putCosts 0 = .ok (.iconst 0, 1) from by decide +kernel) (by decide) rfl ?_
  refine sr_istore_n (i := 3) (L' := [some (xad κ v0), some (xad κ v1), some (.int v2), some (.int (0 : Int32)), none]) (q := 2) C (show decode cX10_putCosts 1 = .ok (.istore_n 3, 1) from by decide +kernel) rfl (by decide) rfl rfl ?_
  exact slX10_putCosts_L2 C 4096 v0 v1 v2 (0 : Int32) hv0 hv1
theorem cnX10_putCosts (ω : sm_O) (v0 : Nat) (v1 : Nat) (v2 : Int32) (hv0 : kd v0 = 10) (hv1 : kd v1 = 9) : sm_Mt 2 yX10_putCosts cX10_putCosts 5 none ω [.ref (ω.1 + v0), .ref (ω.1 + v1), .int v2] (fun _ => none) (fnX10_putCosts v0 v1 v2) := by
  refine sm_conV (by decide) (Nat.le_of_ble_eq_true rfl) ?_
  intro κ hκ C
  subst hκ
  exact slX10_putCosts C v0 v1 v2 hv0 hv1
def fnX10_putReached_J54 (k10 : Nat → Nat → Int32 → Int32 → sm_M Unit) (v0 : Nat) (v1 : Nat) (v2 : Int32) (v3 : Int32) : sm_M Unit := k10 v0 v1 v2 (v3 + (1 : Int32))
set_option maxHeartbeats 4000000 in
set_option maxRecDepth 100000 in
theorem slX10_putReached_J54 {κ : sm_X} (C : sm_C κ RX10 cX10_putReached 5 3) {k10 : Nat → Nat → Int32 → Int32 → sm_M Unit} (K10 : ∀ (v0 : Nat) (v1 : Nat) (v2 : Int32) (v3 : Int32) (hv0 : kd v0 = 10) (hv1 : kd v1 = 7), sm_S κ (fun _ : Unit => .inr none) (.inl (10, [some (xad κ v0), some (xad κ v1), some (.int v2), some (.int v3), none], [])) (k10 v0 v1 v2 v3)) (v0 : Nat) (v1 : Nat) (v2 : Int32) (v3 : Int32) (hv0 : kd v0 = 10) (hv1 : kd v1 = 7) : sm_S κ (fun _ : Unit => .inr none) (.inl (54, [some (xad κ v0), some (xad κ v1), some (.int v2), some (.int v3), none], [])) (fnX10_putReached_J54 k10 v0 v1 v2 v3) := by
  unfold fnX10_putReached_J54
  refine sr_iinc (v := v3 + (1 : Int32)) (L' := [some (xad κ v0), some (xad κ v1), some (.int v2), some (.int (v3 + (1 : Int32))), none]) (q := 57) C (show decode cX10_putReached 54 = .ok (.iinc 3 1, 3) from by decide +kernel) rfl rfl (by decide) rfl rfl ?_
  refine sr_goto (q := 10) C (show decode cX10_putReached 57 = .ok (.goto (-47), 3) from by decide +kernel) (by decide) ?_
  exact K10 v0 v1 v2 (v3 + (1 : Int32)) hv0 hv1
def fnX10_putReached_L10 : Nat → Nat → Nat → Int32 → Int32 → sm_M Unit
  | 0, _, _, _, _ => m_fail
  | n + 1, v0, v1, v2, v3 => m_gi v1 5 fun x12 => m_br (x12 ≤ v3)
    (m_ret ())
    (m_ai (lk v1 13) v3 fun x23 => m_ai (lk v0 5) x23 fun x32 => m_br (x32 = (-1 : Int32))
    (m_bnd (fnX3_flood (lk v0 2) v2 x23) fun x50 => m_sai (lk v0 5) x23 x50 <| fnX10_putReached_J54 (fnX10_putReached_L10 n) v0 v1 v2 v3)
    (fnX10_putReached_J54 (fnX10_putReached_L10 n) v0 v1 v2 v3))
set_option maxHeartbeats 4000000 in
set_option maxRecDepth 100000 in
theorem slX10_putReached_L10 {κ : sm_X} (C : sm_C κ RX10 cX10_putReached 5 3) : ∀ (n : Nat) (v0 : Nat) (v1 : Nat) (v2 : Int32) (v3 : Int32) (hv0 : kd v0 = 10) (hv1 : kd v1 = 7), sm_S κ (fun _ : Unit => .inr none) (.inl (10, [some (xad κ v0), some (xad κ v1), some (.int v2), some (.int v3), none], [])) (fnX10_putReached_L10 n v0 v1 v2 v3) := by
  intro n
  induction n with
  | zero =>
    intros
    exact sr_fail
  | succ n K10 =>
    intro v0 v1 v2 v3 hv0 hv1
    unfold fnX10_putReached_L10
    refine sr_iload_n (i := 3) (q := 11) C (show decode cX10_putReached 10 = .ok (.iload_n 3, 1) from by decide +kernel) rfl rfl rfl ?_
    refine sr_aload_n (i := 1) (q := 12) C (show decode cX10_putReached 11 = .ok (.aload_n 1, 1) from by decide +kernel) rfl rfl rfl ?_
    refine sr_geti (q := 15) C fl_X10_87 (Or.inl rfl) hv1 (show decode cX10_putReached 12 = .ok (.getfield 87, 3) from by decide +kernel) rfl (fun x12 => ?_)
    refine sr_icmp_ge (q := 18) C 60 (show decode cX10_putReached 15 = .ok (.if_icmp .ge 45, 3) from by decide +kernel) (by decide) rfl ?_ ?_
    · exact sr_vreturn C _ rfl (show decode cX10_putReached 60 = .ok (.return_, 1) from by decide +kernel)
    · refine sr_aload_n (i := 1) (q := 19) C (show decode cX10_putReached 18 = .ok (.aload_n 1, 1) from by decide +kernel) rfl rfl rfl ?_
      refine sr_getr (q := 22) C fl_X10_90 hv1 (show decode cX10_putReached 19 = .ok (.getfield 90, 3) from by decide +kernel) rfl ?_
      refine sr_iload_n (i := 3) (q := 23) C (show decode cX10_putReached 22 = .ok (.iload_n 3, 1) from by decide +kernel) rfl rfl rfl ?_
      refine sr_iaload (q := 24) C (kt hv1 kp_7_13) (show decode cX10_putReached 23 = .ok (.iaload, 1) from by decide +kernel) rfl (fun x23 => ?_)
      refine sr_istore (i := 4) (L' := [some (xad κ v0), some (xad κ v1), some (.int v2), some (.int v3), some (.int x23)]) (q := 26) C (show decode cX10_putReached 24 = .ok (.istore 4, 2) from by decide +kernel) (by decide) rfl rfl ?_
      refine sr_aload_n (i := 0) (q := 27) C (show decode cX10_putReached 26 = .ok (.aload_n 0, 1) from by decide +kernel) rfl rfl rfl ?_
      refine sr_getr (q := 30) C fl_X10_21 hv0 (show decode cX10_putReached 27 = .ok (.getfield 21, 3) from by decide +kernel) rfl ?_
      refine sr_iload (i := 4) (q := 32) C (show decode cX10_putReached 30 = .ok (.iload 4, 2) from by decide +kernel) rfl rfl ?_
      refine sr_iaload (q := 33) C (kt hv0 kp_10_5) (show decode cX10_putReached 32 = .ok (.iaload, 1) from by decide +kernel) rfl (fun x32 => ?_)
      refine sr_iconst (v := (-1 : Int32)) (q := 34) C (show decode cX10_putReached 33 = .ok (.iconst (-1), 1) from by decide +kernel) (by decide) rfl ?_
      refine sr_icmp_ne (q := 37) C 54 (show decode cX10_putReached 34 = .ok (.if_icmp .ne 20, 3) from by decide +kernel) (by decide) rfl ?_ ?_
      · refine sr_weak (L' := [some (xad κ v0), some (xad κ v1), some (.int v2), some (.int v3), none]) ⟨rfl, rfl, rfl, rfl, trivial⟩ ?_
        exact slX10_putReached_J54 C K10 v0 v1 v2 v3 hv0 hv1
      · refine sr_aload_n (i := 0) (q := 38) C (show decode cX10_putReached 37 = .ok (.aload_n 0, 1) from by decide +kernel) rfl rfl rfl ?_
        refine sr_getr (q := 41) C fl_X10_21 hv0 (show decode cX10_putReached 38 = .ok (.getfield 21, 3) from by decide +kernel) rfl ?_
        refine sr_iload (i := 4) (q := 43) C (show decode cX10_putReached 41 = .ok (.iload 4, 2) from by decide +kernel) rfl rfl ?_
        refine sr_aload_n (i := 0) (q := 44) C (show decode cX10_putReached 43 = .ok (.aload_n 0, 1) from by decide +kernel) rfl rfl rfl ?_
        refine sr_getr (q := 47) C fl_X10_24 hv0 (show decode cX10_putReached 44 = .ok (.getfield 24, 3) from by decide +kernel) rfl ?_
        refine sr_iload_n (i := 2) (q := 48) C (show decode cX10_putReached 47 = .ok (.iload_n 2, 1) from by decide +kernel) rfl rfl rfl ?_
        refine sr_iload (i := 4) (q := 50) C (show decode cX10_putReached 48 = .ok (.iload 4, 2) from by decide +kernel) rfl rfl ?_
        refine sr_cVi (As := [.int v2, .int x23]) (st := [.int x23, xad κ (lk v0 5)]) (b := lk v0 2) (q := 53) C yvX3_flood ml_X10_93 (cnX3_flood (xo κ) (lk v0 2) v2 x23 (kt hv0 kp_10_2)) (kt hv0 kp_10_2) (by decide) rfl rfl rfl (by decide) (by decide) (Nat.le_of_ble_eq_true rfl) rfl (show decode cX10_putReached 50 = .ok (.invokevirtual 93, 3) from by decide +kernel) rfl (fun x50 => ?_)
        refine sr_iastore (q := 54) C (kt hv0 kp_10_5) (show decode cX10_putReached 53 = .ok (.iastore, 1) from by decide +kernel) rfl ?_
        refine sr_weak (L' := [some (xad κ v0), some (xad κ v1), some (.int v2), some (.int v3), none]) ⟨rfl, rfl, rfl, rfl, trivial⟩ ?_
        exact slX10_putReached_J54 C K10 v0 v1 v2 v3 hv0 hv1
def fnX10_putReached (v0 : Nat) (v1 : Nat) (v2 : Int32) : sm_M Unit := m_bnd (fnJ7_fill_53178 (lk v0 5) (-1 : Int32)) fun _ => fnX10_putReached_L10 4096 v0 v1 v2 (0 : Int32)
set_option maxHeartbeats 4000000 in
set_option maxRecDepth 100000 in
theorem slX10_putReached {κ : sm_X} (C : sm_C κ RX10 cX10_putReached 5 3) (v0 : Nat) (v1 : Nat) (v2 : Int32) (hv0 : kd v0 = 10) (hv1 : kd v1 = 7) : sm_S κ (fun _ : Unit => .inr none) (.inl (0, [some (xad κ v0), some (xad κ v1), some (.int v2), none, none], [])) (fnX10_putReached v0 v1 v2) := by
  unfold fnX10_putReached
  refine sr_aload_n (i := 0) (q := 1) C (show decode cX10_putReached 0 = .ok (.aload_n 0, 1) from by decide +kernel) rfl rfl rfl ?_
  refine sr_getr (q := 4) C fl_X10_21 hv0 (show decode cX10_putReached 1 = .ok (.getfield 21, 3) from by decide +kernel) rfl ?_
  refine sr_iconst (v := (-1 : Int32)) (q := 5) C (show decode cX10_putReached 4 = .ok (.iconst (-1), 1) from by decide +kernel) (by decide) rfl ?_
  refine sr_cSv (As := [xad κ (lk v0 5), .int (-1 : Int32)]) (st := []) (q := 8) C ysJ7_fill_53178 ml_X10_81 (cnJ7_fill_53178 (xo κ) (lk v0 5) (-1 : Int32) (kt hv0 kp_10_5)) rfl (by decide) (by decide) (Nat.le_of_ble_eq_true rfl) rfl (show decode cX10_putReached 5 = .ok (.invokestatic 81, 3) from by decide +kernel) rfl (fun _ => ?_)
  refine sr_iconst (v := (0 : Int32)) (q := 9) C (show decode cX10_putReached 8 = .ok (.iconst 0, 1) from by decide +kernel) (by decide) rfl ?_
  refine sr_istore_n (i := 3) (L' := [some (xad κ v0), some (xad κ v1), some (.int v2), some (.int (0 : Int32)), none]) (q := 10) C (show decode cX10_putReached 9 = .ok (.istore_n 3, 1) from by decide +kernel) rfl (by decide) rfl rfl ?_
  exact slX10_putReached_L10 C 4096 v0 v1 v2 (0 : Int32) hv0 hv1
theorem cnX10_putReached (ω : sm_O) (v0 : Nat) (v1 : Nat) (v2 : Int32) (hv0 : kd v0 = 10) (hv1 : kd v1 = 7) : sm_Mt 3 yX10_putReached cX10_putReached 5 none ω [.ref (ω.1 + v0), .ref (ω.1 + v1), .int v2] (fun _ => none) (fnX10_putReached v0 v1 v2) := by
  refine sm_conV (by decide) (Nat.le_of_ble_eq_true rfl) ?_
  intro κ hκ C
  subst hκ
  exact slX10_putReached C v0 v1 v2 hv0 hv1
def fnX10_least_J42 (k8 : Nat → Int32 → Int32 → Int32 → sm_M Int32) (v0 : Nat) (v2 : Int32) (v3 : Int32) (v4 : Int32) : sm_M Int32 := m_nm (v4 &&& (v4 - (1 : Int32))) fun y49 => k8 v0 v2 v3 y49
set_option maxHeartbeats 4000000 in
set_option maxRecDepth 100000 in
theorem slX10_least_J42 {κ : sm_X} (C : sm_C κ RX10 cX10_least 6 2) {k8 : Nat → Int32 → Int32 → Int32 → sm_M Int32} (K8 : ∀ (v0 : Nat) (v2 : Int32) (v3 : Int32) (v4 : Int32) (hv0 : kd v0 = 10), sm_S κ (fun r : Int32 => .inr (some (.int r))) (.inl (8, [some (xad κ v0), none, some (.int v2), some (.int v3), some (.int v4), none], [])) (k8 v0 v2 v3 v4)) (v0 : Nat) (v2 : Int32) (v3 : Int32) (v4 : Int32) (hv0 : kd v0 = 10) : sm_S κ (fun r : Int32 => .inr (some (.int r))) (.inl (42, [some (xad κ v0), none, some (.int v2), some (.int v3), some (.int v4), none], [])) (fnX10_least_J42 k8 v0 v2 v3 v4) := by
  unfold fnX10_least_J42
  refine sr_iload (i := 4) (q := 44) C (show decode cX10_least 42 = .ok (.iload 4, 2) from by decide +kernel) rfl rfl ?_
  refine sr_iload (i := 4) (q := 46) C (show decode cX10_least 44 = .ok (.iload 4, 2) from by decide +kernel) rfl rfl ?_
  refine sr_iconst (v := (1 : Int32)) (q := 47) C (show decode cX10_least 46 = .ok (.iconst 1, 1) from by decide +kernel) (by decide) rfl ?_
  refine sr_isub (q := 48) C (show decode cX10_least 47 = .ok (.isub, 1) from by decide +kernel) rfl ?_
  refine sr_iand (q := 49) C (show decode cX10_least 48 = .ok (.iand, 1) from by decide +kernel) rfl ?_
  refine sr_nmi (fun y49 => ?_)
  refine sr_istore (i := 4) (L' := [some (xad κ v0), none, some (.int v2), some (.int v3), some (.int y49), none]) (q := 51) C (show decode cX10_least 49 = .ok (.istore 4, 2) from by decide +kernel) (by decide) rfl rfl ?_
  refine sr_goto (q := 8) C (show decode cX10_least 51 = .ok (.goto (-43), 3) from by decide +kernel) (by decide) ?_
  exact K8 v0 v2 v3 y49 hv0
def fnX10_least_L8 : Nat → Nat → Int32 → Int32 → Int32 → sm_M Int32
  | 0, _, _, _, _ => m_fail
  | n + 1, v0, v2, v3, v4 => m_br (v4 = 0)
    (m_ret v2)
    (m_bnd (fnJ6_numberOfTrailingZeros_0f7a4 v4) fun x15 => m_ai (lk v0 4) x15 fun x26 => m_br (v3 ≤ x26)
    (fnX10_least_J42 (fnX10_least_L8 n) v0 v2 v3 v4)
    (m_ai (lk v0 4) x15 fun x40 => fnX10_least_J42 (fnX10_least_L8 n) v0 x15 x40 v4))
set_option maxHeartbeats 4000000 in
set_option maxRecDepth 100000 in
theorem slX10_least_L8 {κ : sm_X} (C : sm_C κ RX10 cX10_least 6 2) : ∀ (n : Nat) (v0 : Nat) (v2 : Int32) (v3 : Int32) (v4 : Int32) (hv0 : kd v0 = 10), sm_S κ (fun r : Int32 => .inr (some (.int r))) (.inl (8, [some (xad κ v0), none, some (.int v2), some (.int v3), some (.int v4), none], [])) (fnX10_least_L8 n v0 v2 v3 v4) := by
  intro n
  induction n with
  | zero =>
    intros
    exact sr_fail
  | succ n K8 =>
    intro v0 v2 v3 v4 hv0
    unfold fnX10_least_L8
    refine sr_iload (i := 4) (q := 10) C (show decode cX10_least 8 = .ok (.iload 4, 2) from by decide +kernel) rfl rfl ?_
    refine sr_if_eq (q := 13) C 54 (show decode cX10_least 10 = .ok (.ifCond .eq 44, 3) from by decide +kernel) (by decide) rfl ?_ ?_
    · refine sr_iload_n (i := 2) (q := 55) C (show decode cX10_least 54 = .ok (.iload_n 2, 1) from by decide +kernel) rfl rfl rfl ?_
      exact sr_ireturn C _ rfl (show decode cX10_least 55 = .ok (.ireturn, 1) from by decide +kernel)
    · refine sr_iload (i := 4) (q := 15) C (show decode cX10_least 13 = .ok (.iload 4, 2) from by decide +kernel) rfl rfl ?_
      refine sr_cSi (As := [.int v4]) (st := []) (q := 18) C ysJ6_numberOfTrailingZeros_0f7a4 ml_X10_98 (cnJ6_numberOfTrailingZeros_0f7a4 (xo κ) v4) rfl (by decide) (by decide) (Nat.le_of_ble_eq_true rfl) rfl (show decode cX10_least 15 = .ok (.invokestatic 98, 3) from by decide +kernel) rfl (fun x15 => ?_)
      refine sr_istore (i := 5) (L' := [some (xad κ v0), none, some (.int v2), some (.int v3), some (.int v4), some (.int x15)]) (q := 20) C (show decode cX10_least 18 = .ok (.istore 5, 2) from by decide +kernel) (by decide) rfl rfl ?_
      refine sr_aload_n (i := 0) (q := 21) C (show decode cX10_least 20 = .ok (.aload_n 0, 1) from by decide +kernel) rfl rfl rfl ?_
      refine sr_getr (q := 24) C fl_X10_18 hv0 (show decode cX10_least 21 = .ok (.getfield 18, 3) from by decide +kernel) rfl ?_
      refine sr_iload (i := 5) (q := 26) C (show decode cX10_least 24 = .ok (.iload 5, 2) from by decide +kernel) rfl rfl ?_
      refine sr_iaload (q := 27) C (kt hv0 kp_10_4) (show decode cX10_least 26 = .ok (.iaload, 1) from by decide +kernel) rfl (fun x26 => ?_)
      refine sr_iload_n (i := 3) (q := 28) C (show decode cX10_least 27 = .ok (.iload_n 3, 1) from by decide +kernel) rfl rfl rfl ?_
      refine sr_icmp_ge (q := 31) C 42 (show decode cX10_least 28 = .ok (.if_icmp .ge 14, 3) from by decide +kernel) (by decide) rfl ?_ ?_
      · refine sr_weak (L' := [some (xad κ v0), none, some (.int v2), some (.int v3), some (.int v4), none]) ⟨rfl, rfl, rfl, rfl, trivial⟩ ?_
        exact slX10_least_J42 C K8 v0 v2 v3 v4 hv0
      · refine sr_iload (i := 5) (q := 33) C (show decode cX10_least 31 = .ok (.iload 5, 2) from by decide +kernel) rfl rfl ?_
        refine sr_istore_n (i := 2) (L' := [some (xad κ v0), none, some (.int x15), some (.int v3), some (.int v4), some (.int x15)]) (q := 34) C (show decode cX10_least 33 = .ok (.istore_n 2, 1) from by decide +kernel) rfl (by decide) rfl rfl ?_
        refine sr_aload_n (i := 0) (q := 35) C (show decode cX10_least 34 = .ok (.aload_n 0, 1) from by decide +kernel) rfl rfl rfl ?_
        refine sr_getr (q := 38) C fl_X10_18 hv0 (show decode cX10_least 35 = .ok (.getfield 18, 3) from by decide +kernel) rfl ?_
        refine sr_iload (i := 5) (q := 40) C (show decode cX10_least 38 = .ok (.iload 5, 2) from by decide +kernel) rfl rfl ?_
        refine sr_iaload (q := 41) C (kt hv0 kp_10_4) (show decode cX10_least 40 = .ok (.iaload, 1) from by decide +kernel) rfl (fun x40 => ?_)
        refine sr_istore_n (i := 3) (L' := [some (xad κ v0), none, some (.int x15), some (.int x40), some (.int v4), some (.int x15)]) (q := 42) C (show decode cX10_least 41 = .ok (.istore_n 3, 1) from by decide +kernel) rfl (by decide) rfl rfl ?_
        refine sr_weak (L' := [some (xad κ v0), none, some (.int x15), some (.int x40), some (.int v4), none]) ⟨rfl, rfl, rfl, rfl, trivial⟩ ?_
        exact slX10_least_J42 C K8 v0 x15 x40 v4 hv0
def fnX10_least (v0 : Nat) (v1 : Int32) : sm_M Int32 := fnX10_least_L8 4096 v0 (-1 : Int32) (1048576 : Int32) v1
set_option maxHeartbeats 4000000 in
set_option maxRecDepth 100000 in
theorem slX10_least {κ : sm_X} (C : sm_C κ RX10 cX10_least 6 2) (v0 : Nat) (v1 : Int32) (hv0 : kd v0 = 10) : sm_S κ (fun r : Int32 => .inr (some (.int r))) (.inl (0, [some (xad κ v0), some (.int v1), none, none, none, none], [])) (fnX10_least v0 v1) := by
  unfold fnX10_least
  refine sr_iconst (v := (-1 : Int32)) (q := 1) C (show decode cX10_least 0 = .ok (.iconst (-1), 1) from by decide +kernel) (by decide) rfl ?_
  refine sr_istore_n (i := 2) (L' := [some (xad κ v0), some (.int v1), some (.int (-1 : Int32)), none, none, none]) (q := 2) C (show decode cX10_least 1 = .ok (.istore_n 2, 1) from by decide +kernel) rfl (by decide) rfl rfl ?_
  refine sr_ldc (q := 4) C co_X10_97 (show decode cX10_least 2 = .ok (.ldc 97, 2) from by decide +kernel) rfl ?_
  refine sr_istore_n (i := 3) (L' := [some (xad κ v0), some (.int v1), some (.int (-1 : Int32)), some (.int (1048576 : Int32)), none, none]) (q := 5) C (show decode cX10_least 4 = .ok (.istore_n 3, 1) from by decide +kernel) rfl (by decide) rfl rfl ?_
  refine sr_iload_n (i := 1) (q := 6) C (show decode cX10_least 5 = .ok (.iload_n 1, 1) from by decide +kernel) rfl rfl rfl ?_
  refine sr_istore (i := 4) (L' := [some (xad κ v0), some (.int v1), some (.int (-1 : Int32)), some (.int (1048576 : Int32)), some (.int v1), none]) (q := 8) C (show decode cX10_least 6 = .ok (.istore 4, 2) from by decide +kernel) (by decide) rfl rfl ?_
  refine sr_weak (L' := [some (xad κ v0), none, some (.int (-1 : Int32)), some (.int (1048576 : Int32)), some (.int v1), none]) ⟨rfl, rfl, rfl, rfl, trivial⟩ ?_
  exact slX10_least_L8 C 4096 v0 (-1 : Int32) (1048576 : Int32) v1 hv0
theorem cnX10_least (ω : sm_O) (v0 : Nat) (v1 : Int32) (hv0 : kd v0 = 10) : sm_Mt 2 yX10_least cX10_least 6 (some .int) ω [.ref (ω.1 + v0), .int v1] (fun a => some (.int a)) (fnX10_least v0 v1) := by
  refine sm_conI (r := fun a => a) (by decide) (fun _ => rfl) (Nat.le_of_ble_eq_true rfl) ?_
  intro κ hκ C
  subst hκ
  exact slX10_least C v0 v1 hv0
