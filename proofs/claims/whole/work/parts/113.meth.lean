def fnX8_put (v0 : Nat) (v1 : Int32) (v2 : Int64) : sm_M Bool := m_br (v1 < 0)
    (m_ret false)
    (m_gi v0 2 fun x6 => m_br (v1 < x6)
    (m_gi v0 1 fun x19 => m_nm ((64 : Int32) - ((8 : Int32) <<< (x19 &&& 31))) fun y24 => m_sal (lk v0 3) v1 ((v2 <<< (y24.toInt64 &&& 63)) >>> (y24.toInt64 &&& 63)) <| m_ret true)
    (m_ret false))
set_option maxHeartbeats 4000000 in
set_option maxRecDepth 100000 in
theorem slX8_put {κ : sm_X} (C : sm_C κ RX8 cX8_put 5 1) (v0 : Nat) (v1 : Int32) (v2 : Int64) (hv0 : kd v0 = 8) : sm_S κ (fun r : Bool => .inr (some (.int (bI r)))) (.inl (0, [some (xad κ v0), some (.int v1), some (.long v2), none, none], [])) (fnX8_put v0 v1 v2) := by
  unfold fnX8_put
  refine sr_iload_n (i := 1) (q := 1) C (show decode cX8_put 0 = .ok (.iload_n 1, 1) from by decide +kernel) rfl rfl rfl ?_
  refine sr_if_lt (q := 4) C 12 (show decode cX8_put 1 = .ok (.ifCond .lt 11, 3) from by decide +kernel) (by decide) rfl ?_ ?_
  · refine sr_iconst (v := (0 : Int32)) (q := 13) C (show decode cX8_put 12 = .ok (.iconst 0, 1) from by decide +kernel) (by decide) rfl ?_
    exact sr_ireturn C false rfl (show decode cX8_put 13 = .ok (.ireturn, 1) from by decide +kernel)
  · refine sr_iload_n (i := 1) (q := 5) C (show decode cX8_put 4 = .ok (.iload_n 1, 1) from by decide +kernel) rfl rfl rfl ?_
    refine sr_aload_n (i := 0) (q := 6) C (show decode cX8_put 5 = .ok (.aload_n 0, 1) from by decide +kernel) rfl rfl rfl ?_
    refine sr_geti (q := 9) C fl_X8_23 (Or.inl rfl) hv0 (show decode cX8_put 6 = .ok (.getfield 23, 3) from by decide +kernel) rfl (fun x6 => ?_)
    refine sr_icmp_lt (q := 12) C 14 (show decode cX8_put 9 = .ok (.if_icmp .lt 5, 3) from by decide +kernel) (by decide) rfl ?_ ?_
    · refine sr_bipush (v := (64 : Int32)) (q := 16) C (show decode cX8_put 14 = .ok (.bipush 64, 2) from by decide +kernel) (by decide) rfl ?_
      refine sr_bipush (v := (8 : Int32)) (q := 18) C (show decode cX8_put 16 = .ok (.bipush 8, 2) from by decide +kernel) (by decide) rfl ?_
      refine sr_aload_n (i := 0) (q := 19) C (show decode cX8_put 18 = .ok (.aload_n 0, 1) from by decide +kernel) rfl rfl rfl ?_
      refine sr_geti (q := 22) C fl_X8_19 (Or.inl rfl) hv0 (show decode cX8_put 19 = .ok (.getfield 19, 3) from by decide +kernel) rfl (fun x19 => ?_)
      refine sr_ishl (q := 23) C (show decode cX8_put 22 = .ok (.ishl, 1) from by decide +kernel) rfl ?_
      refine sr_isub (q := 24) C (show decode cX8_put 23 = .ok (.isub, 1) from by decide +kernel) rfl ?_
      refine sr_nmi (fun y24 => ?_)
      refine sr_istore (i := 4) (L' := [some (xad κ v0), some (.int v1), some (.long v2), none, some (.int y24)]) (q := 26) C (show decode cX8_put 24 = .ok (.istore 4, 2) from by decide +kernel) (by decide) rfl rfl ?_
      refine sr_aload_n (i := 0) (q := 27) C (show decode cX8_put 26 = .ok (.aload_n 0, 1) from by decide +kernel) rfl rfl rfl ?_
      refine sr_getr (q := 30) C fl_X8_9 hv0 (show decode cX8_put 27 = .ok (.getfield 9, 3) from by decide +kernel) rfl ?_
      refine sr_iload_n (i := 1) (q := 31) C (show decode cX8_put 30 = .ok (.iload_n 1, 1) from by decide +kernel) rfl rfl rfl ?_
      refine sr_lload_n (i := 2) (q := 32) C (show decode cX8_put 31 = .ok (.lload_n 2, 1) from by decide +kernel) rfl rfl rfl ?_
      refine sr_iload (i := 4) (q := 34) C (show decode cX8_put 32 = .ok (.iload 4, 2) from by decide +kernel) rfl rfl ?_
      refine sr_lshl (q := 35) C (show decode cX8_put 34 = .ok (.lshl, 1) from by decide +kernel) rfl ?_
      refine sr_iload (i := 4) (q := 37) C (show decode cX8_put 35 = .ok (.iload 4, 2) from by decide +kernel) rfl rfl ?_
      refine sr_lshr (q := 38) C (show decode cX8_put 37 = .ok (.lshr, 1) from by decide +kernel) rfl ?_
      refine sr_lastore (q := 39) C (kt hv0 kp_8_3) (show decode cX8_put 38 = .ok (.lastore, 1) from by decide +kernel) rfl ?_
      refine sr_iconst (v := (1 : Int32)) (q := 40) C (show decode cX8_put 39 = .ok (.iconst 1, 1) from by decide +kernel) (by decide) rfl ?_
      exact sr_ireturn C true rfl (show decode cX8_put 40 = .ok (.ireturn, 1) from by decide +kernel)
    · refine sr_iconst (v := (0 : Int32)) (q := 13) C (show decode cX8_put 12 = .ok (.iconst 0, 1) from by decide +kernel) (by decide) rfl ?_
      exact sr_ireturn C false rfl (show decode cX8_put 13 = .ok (.ireturn, 1) from by decide +kernel)
theorem cnX8_put (ω : sm_O) (v0 : Nat) (v1 : Int32) (v2 : Int64) (hv0 : kd v0 = 8) : sm_Mt 1 yX8_put cX8_put 5 (some .boolean) ω [.ref (ω.1 + v0), .int v1, .long v2] (fun a => some (.int (bI a))) (fnX8_put v0 v1 v2) := by
  refine sm_conI (r := bI) (by decide) bI_nar (Nat.le_of_ble_eq_true rfl) ?_
  intro κ hκ C
  subst hκ
  exact slX8_put C v0 v1 v2 hv0
def fnX11_write (v0 : Nat) (v1 : Int32) (v2 : Int32) (v3 : Int64) : sm_M Int32 := m_bnd (fnX11_isSlot v1) fun x1 => m_br ((bI x1) = 0)
    (m_ret (-2 : Int32))
    (m_ap (lk v0 14) v1 fun x15 => m_gi x15 0 fun x16 => m_br (x16 = 0)
    (m_ret (-6 : Int32))
    (m_ap (lk v0 14) v1 fun x30 => m_bnd (fnX8_put x30 v2 v3) fun x33 => m_br ((bI x33) = 0)
    (m_ret (-7 : Int32))
    (m_ret (0 : Int32))))
set_option maxHeartbeats 4000000 in
set_option maxRecDepth 100000 in
theorem slX11_write {κ : sm_X} (C : sm_C κ RX11 cX11_write 5 2) (v0 : Nat) (v1 : Int32) (v2 : Int32) (v3 : Int64) (hv0 : kd v0 = 11) : sm_S κ (fun r : Int32 => .inr (some (.int r))) (.inl (0, [some (xad κ v0), some (.int v1), some (.int v2), some (.long v3), none], [])) (fnX11_write v0 v1 v2 v3) := by
  unfold fnX11_write
  refine sr_iload_n (i := 1) (q := 1) C (show decode cX11_write 0 = .ok (.iload_n 1, 1) from by decide +kernel) rfl rfl rfl ?_
  refine sr_cSz (As := [.int v1]) (st := []) (q := 4) C ysX11_isSlot ml_X11_228 (cnX11_isSlot (xo κ) v1) rfl (by decide) (by decide) (Nat.le_of_ble_eq_true rfl) rfl (show decode cX11_write 1 = .ok (.invokestatic 228, 3) from by decide +kernel) rfl (fun x1 => ?_)
  refine sr_if_ne (q := 7) C 10 (show decode cX11_write 4 = .ok (.ifCond .ne 6, 3) from by decide +kernel) (by decide) rfl ?_ ?_
  · refine sr_aload_n (i := 0) (q := 11) C (show decode cX11_write 10 = .ok (.aload_n 0, 1) from by decide +kernel) rfl rfl rfl ?_
    refine sr_getr (q := 14) C fl_X11_93 hv0 (show decode cX11_write 11 = .ok (.getfield 93, 3) from by decide +kernel) rfl ?_
    refine sr_iload_n (i := 1) (q := 15) C (show decode cX11_write 14 = .ok (.iload_n 1, 1) from by decide +kernel) rfl rfl rfl ?_
    refine sr_aaload (t0 := 5) (q := 16) C (kt hv0 kp_11_14) (Or.inr (Or.inl rfl)) rfl (show decode cX11_write 15 = .ok (.aaload, 1) from by decide +kernel) rfl (fun x15 hx15 => ?_)
    refine sr_geti (q := 19) C fl_X11_231 (Or.inr rfl) hx15 (show decode cX11_write 16 = .ok (.getfield 231, 3) from by decide +kernel) rfl (fun x16 => ?_)
    refine sr_if_ne (q := 22) C 25 (show decode cX11_write 19 = .ok (.ifCond .ne 6, 3) from by decide +kernel) (by decide) rfl ?_ ?_
    · refine sr_aload_n (i := 0) (q := 26) C (show decode cX11_write 25 = .ok (.aload_n 0, 1) from by decide +kernel) rfl rfl rfl ?_
      refine sr_getr (q := 29) C fl_X11_93 hv0 (show decode cX11_write 26 = .ok (.getfield 93, 3) from by decide +kernel) rfl ?_
      refine sr_iload_n (i := 1) (q := 30) C (show decode cX11_write 29 = .ok (.iload_n 1, 1) from by decide +kernel) rfl rfl rfl ?_
      refine sr_aaload (t0 := 5) (q := 31) C (kt hv0 kp_11_14) (Or.inr (Or.inl rfl)) rfl (show decode cX11_write 30 = .ok (.aaload, 1) from by decide +kernel) rfl (fun x30 hx30 => ?_)
      refine sr_iload_n (i := 2) (q := 32) C (show decode cX11_write 31 = .ok (.iload_n 2, 1) from by decide +kernel) rfl rfl rfl ?_
      refine sr_lload_n (i := 3) (q := 33) C (show decode cX11_write 32 = .ok (.lload_n 3, 1) from by decide +kernel) rfl rfl rfl ?_
      refine sr_cVz (As := [.int v2, .long v3]) (st := []) (b := x30) (q := 36) C yvX8_put ml_X11_443 (cnX8_put (xo κ) x30 v2 v3 hx30) hx30 (by decide) rfl rfl rfl (by decide) (by decide) (Nat.le_of_ble_eq_true rfl) rfl (show decode cX11_write 33 = .ok (.invokevirtual 443, 3) from by decide +kernel) rfl (fun x33 => ?_)
      refine sr_if_eq (q := 39) C 43 (show decode cX11_write 36 = .ok (.ifCond .eq 7, 3) from by decide +kernel) (by decide) rfl ?_ ?_
      · refine sr_bipush (v := (-7 : Int32)) (q := 45) C (show decode cX11_write 43 = .ok (.bipush (-7), 2) from by decide +kernel) (by decide) rfl ?_
        exact sr_ireturn C _ rfl (show decode cX11_write 45 = .ok (.ireturn, 1) from by decide +kernel)
      · refine sr_iconst (v := (0 : Int32)) (q := 40) C (show decode cX11_write 39 = .ok (.iconst 0, 1) from by decide +kernel) (by decide) rfl ?_
        refine sr_goto (q := 45) C (show decode cX11_write 40 = .ok (.goto 5, 3) from by decide +kernel) (by decide) ?_
        exact sr_ireturn C _ rfl (show decode cX11_write 45 = .ok (.ireturn, 1) from by decide +kernel)
    · refine sr_bipush (v := (-6 : Int32)) (q := 24) C (show decode cX11_write 22 = .ok (.bipush (-6), 2) from by decide +kernel) (by decide) rfl ?_
      exact sr_ireturn C _ rfl (show decode cX11_write 24 = .ok (.ireturn, 1) from by decide +kernel)
  · refine sr_bipush (v := (-2 : Int32)) (q := 9) C (show decode cX11_write 7 = .ok (.bipush (-2), 2) from by decide +kernel) (by decide) rfl ?_
    exact sr_ireturn C _ rfl (show decode cX11_write 9 = .ok (.ireturn, 1) from by decide +kernel)
theorem cnX11_write (ω : sm_O) (v0 : Nat) (v1 : Int32) (v2 : Int32) (v3 : Int64) (hv0 : kd v0 = 11) : sm_Mt 2 yX11_write cX11_write 5 (some .int) ω [.ref (ω.1 + v0), .int v1, .int v2, .long v3] (fun a => some (.int a)) (fnX11_write v0 v1 v2 v3) := by
  refine sm_conI (r := fun a => a) (by decide) (fun _ => rfl) (Nat.le_of_ble_eq_true rfl) ?_
  intro κ hκ C
  subst hκ
  exact slX11_write C v0 v1 v2 v3 hv0
def fnX12_ofStone (v0 : Nat) (v1 : Int32) (v2 : Int32) : sm_M Int32 := m_ai (lk v0 1) (((10 : Int32) + ((7 : Int32) * v1)) + v2) fun x13 => m_ret x13
set_option maxHeartbeats 4000000 in
set_option maxRecDepth 100000 in
theorem slX12_ofStone {κ : sm_X} (C : sm_C κ RX12 cX12_ofStone 3 1) (v0 : Nat) (v1 : Int32) (v2 : Int32) (hv0 : kd v0 = 12) : sm_S κ (fun r : Int32 => .inr (some (.int r))) (.inl (0, [some (xad κ v0), some (.int v1), some (.int v2)], [])) (fnX12_ofStone v0 v1 v2) := by
  unfold fnX12_ofStone
  refine sr_aload_n (i := 0) (q := 1) C (show decode cX12_ofStone 0 = .ok (.aload_n 0, 1) from by decide +kernel) rfl rfl rfl ?_
  refine sr_getr (q := 4) C fl_X12_9 hv0 (show decode cX12_ofStone 1 = .ok (.getfield 9, 3) from by decide +kernel) rfl ?_
  refine sr_bipush (v := (10 : Int32)) (q := 6) C (show decode cX12_ofStone 4 = .ok (.bipush 10, 2) from by decide +kernel) (by decide) rfl ?_
  refine sr_bipush (v := (7 : Int32)) (q := 8) C (show decode cX12_ofStone 6 = .ok (.bipush 7, 2) from by decide +kernel) (by decide) rfl ?_
  refine sr_iload_n (i := 1) (q := 9) C (show decode cX12_ofStone 8 = .ok (.iload_n 1, 1) from by decide +kernel) rfl rfl rfl ?_
  refine sr_imul (q := 10) C (show decode cX12_ofStone 9 = .ok (.imul, 1) from by decide +kernel) rfl ?_
  refine sr_iadd (q := 11) C (show decode cX12_ofStone 10 = .ok (.iadd, 1) from by decide +kernel) rfl ?_
  refine sr_iload_n (i := 2) (q := 12) C (show decode cX12_ofStone 11 = .ok (.iload_n 2, 1) from by decide +kernel) rfl rfl rfl ?_
  refine sr_iadd (q := 13) C (show decode cX12_ofStone 12 = .ok (.iadd, 1) from by decide +kernel) rfl ?_
  refine sr_iaload (q := 14) C (kt hv0 kp_12_1) (show decode cX12_ofStone 13 = .ok (.iaload, 1) from by decide +kernel) rfl (fun x13 => ?_)
  exact sr_ireturn C _ rfl (show decode cX12_ofStone 14 = .ok (.ireturn, 1) from by decide +kernel)
theorem cnX12_ofStone (ω : sm_O) (v0 : Nat) (v1 : Int32) (v2 : Int32) (hv0 : kd v0 = 12) : sm_Mt 1 yX12_ofStone cX12_ofStone 3 (some .int) ω [.ref (ω.1 + v0), .int v1, .int v2] (fun a => some (.int a)) (fnX12_ofStone v0 v1 v2) := by
  refine sm_conI (r := fun a => a) (by decide) (fun _ => rfl) (Nat.le_of_ble_eq_true rfl) ?_
  intro κ hκ C
  subst hκ
  exact slX12_ofStone C v0 v1 v2 hv0
def fnX12_acrossOf (v0 : Nat) (v1 : Int32) : sm_M Int32 := m_br (v1 = (98 : Int32))
    (m_ret (0 : Int32))
    (m_br (v1 = (99 : Int32))
    (m_ai (lk v0 1) (1 : Int32) fun x21 => m_ret x21)
    (m_bnd (fnX12_ofStone v0 v1 (1 : Int32)) fun x28 => m_ret x28))
set_option maxHeartbeats 4000000 in
set_option maxRecDepth 100000 in
theorem slX12_acrossOf {κ : sm_X} (C : sm_C κ RX12 cX12_acrossOf 2 2) (v0 : Nat) (v1 : Int32) (hv0 : kd v0 = 12) : sm_S κ (fun r : Int32 => .inr (some (.int r))) (.inl (0, [some (xad κ v0), some (.int v1)], [])) (fnX12_acrossOf v0 v1) := by
  unfold fnX12_acrossOf
  refine sr_iload_n (i := 1) (q := 1) C (show decode cX12_acrossOf 0 = .ok (.iload_n 1, 1) from by decide +kernel) rfl rfl rfl ?_
  refine sr_bipush (v := (98 : Int32)) (q := 3) C (show decode cX12_acrossOf 1 = .ok (.bipush 98, 2) from by decide +kernel) (by decide) rfl ?_
  refine sr_icmp_ne (q := 6) C 10 (show decode cX12_acrossOf 3 = .ok (.if_icmp .ne 7, 3) from by decide +kernel) (by decide) rfl ?_ ?_
  · refine sr_iload_n (i := 1) (q := 11) C (show decode cX12_acrossOf 10 = .ok (.iload_n 1, 1) from by decide +kernel) rfl rfl rfl ?_
    refine sr_bipush (v := (99 : Int32)) (q := 13) C (show decode cX12_acrossOf 11 = .ok (.bipush 99, 2) from by decide +kernel) (by decide) rfl ?_
    refine sr_icmp_ne (q := 16) C 25 (show decode cX12_acrossOf 13 = .ok (.if_icmp .ne 12, 3) from by decide +kernel) (by decide) rfl ?_ ?_
    · refine sr_aload_n (i := 0) (q := 26) C (show decode cX12_acrossOf 25 = .ok (.aload_n 0, 1) from by decide +kernel) rfl rfl rfl ?_
      refine sr_iload_n (i := 1) (q := 27) C (show decode cX12_acrossOf 26 = .ok (.iload_n 1, 1) from by decide +kernel) rfl rfl rfl ?_
      refine sr_iconst (v := (1 : Int32)) (q := 28) C (show decode cX12_acrossOf 27 = .ok (.iconst 1, 1) from by decide +kernel) (by decide) rfl ?_
      refine sr_cVi (As := [.int v1, .int (1 : Int32)]) (st := []) (b := v0) (q := 31) C yvX12_ofStone ml_X12_239 (cnX12_ofStone (xo κ) v0 v1 (1 : Int32) hv0) hv0 (by decide) rfl rfl rfl (by decide) (by decide) (Nat.le_of_ble_eq_true rfl) rfl (show decode cX12_acrossOf 28 = .ok (.invokevirtual 239, 3) from by decide +kernel) rfl (fun x28 => ?_)
      exact sr_ireturn C _ rfl (show decode cX12_acrossOf 31 = .ok (.ireturn, 1) from by decide +kernel)
    · refine sr_aload_n (i := 0) (q := 17) C (show decode cX12_acrossOf 16 = .ok (.aload_n 0, 1) from by decide +kernel) rfl rfl rfl ?_
      refine sr_getr (q := 20) C fl_X12_9 hv0 (show decode cX12_acrossOf 17 = .ok (.getfield 9, 3) from by decide +kernel) rfl ?_
      refine sr_iconst (v := (1 : Int32)) (q := 21) C (show decode cX12_acrossOf 20 = .ok (.iconst 1, 1) from by decide +kernel) (by decide) rfl ?_
      refine sr_iaload (q := 22) C (kt hv0 kp_12_1) (show decode cX12_acrossOf 21 = .ok (.iaload, 1) from by decide +kernel) rfl (fun x21 => ?_)
      refine sr_goto (q := 31) C (show decode cX12_acrossOf 22 = .ok (.goto 9, 3) from by decide +kernel) (by decide) ?_
      exact sr_ireturn C _ rfl (show decode cX12_acrossOf 31 = .ok (.ireturn, 1) from by decide +kernel)
  · refine sr_iconst (v := (0 : Int32)) (q := 7) C (show decode cX12_acrossOf 6 = .ok (.iconst 0, 1) from by decide +kernel) (by decide) rfl ?_
    refine sr_goto (q := 31) C (show decode cX12_acrossOf 7 = .ok (.goto 24, 3) from by decide +kernel) (by decide) ?_
    exact sr_ireturn C _ rfl (show decode cX12_acrossOf 31 = .ok (.ireturn, 1) from by decide +kernel)
theorem cnX12_acrossOf (ω : sm_O) (v0 : Nat) (v1 : Int32) (hv0 : kd v0 = 12) : sm_Mt 2 yX12_acrossOf cX12_acrossOf 2 (some .int) ω [.ref (ω.1 + v0), .int v1] (fun a => some (.int a)) (fnX12_acrossOf v0 v1) := by
  refine sm_conI (r := fun a => a) (by decide) (fun _ => rfl) (Nat.le_of_ble_eq_true rfl) ?_
  intro κ hκ C
  subst hκ
  exact slX12_acrossOf C v0 v1 hv0
def fnX12_addNode (v0 : Nat) (v1 : Int32) (v2 : Int32) (v3 : Int32) : sm_M Unit := m_gi v0 35 fun x5 => m_sai (lk v0 32) x5 v1 <| m_gi v0 35 fun x15 => m_sai (lk v0 33) x15 v2 <| m_gi v0 35 fun x25 => m_sai (lk v0 34) x25 v3 <| m_gi v0 35 fun x32 => m_si v0 35 (x32 + (1 : Int32)) <| m_ret ()
set_option maxHeartbeats 4000000 in
set_option maxRecDepth 100000 in
theorem slX12_addNode {κ : sm_X} (C : sm_C κ RX12 cX12_addNode 4 1) (v0 : Nat) (v1 : Int32) (v2 : Int32) (v3 : Int32) (hv0 : kd v0 = 12) : sm_S κ (fun _ : Unit => .inr none) (.inl (0, [some (xad κ v0), some (.int v1), some (.int v2), some (.int v3)], [])) (fnX12_addNode v0 v1 v2 v3) := by
  unfold fnX12_addNode
  refine sr_aload_n (i := 0) (q := 1) C (show decode cX12_addNode 0 = .ok (.aload_n 0, 1) from by decide +kernel) rfl rfl rfl ?_
  refine sr_getr (q := 4) C fl_X12_58 hv0 (show decode cX12_addNode 1 = .ok (.getfield 58, 3) from by decide +kernel) rfl ?_
  refine sr_aload_n (i := 0) (q := 5) C (show decode cX12_addNode 4 = .ok (.aload_n 0, 1) from by decide +kernel) rfl rfl rfl ?_
  refine sr_geti (q := 8) C fl_X12_432 (Or.inl rfl) hv0 (show decode cX12_addNode 5 = .ok (.getfield 432, 3) from by decide +kernel) rfl (fun x5 => ?_)
  refine sr_iload_n (i := 1) (q := 9) C (show decode cX12_addNode 8 = .ok (.iload_n 1, 1) from by decide +kernel) rfl rfl rfl ?_
  refine sr_iastore (q := 10) C (kt hv0 kp_12_32) (show decode cX12_addNode 9 = .ok (.iastore, 1) from by decide +kernel) rfl ?_
  refine sr_aload_n (i := 0) (q := 11) C (show decode cX12_addNode 10 = .ok (.aload_n 0, 1) from by decide +kernel) rfl rfl rfl ?_
  refine sr_getr (q := 14) C fl_X12_61 hv0 (show decode cX12_addNode 11 = .ok (.getfield 61, 3) from by decide +kernel) rfl ?_
  refine sr_aload_n (i := 0) (q := 15) C (show decode cX12_addNode 14 = .ok (.aload_n 0, 1) from by decide +kernel) rfl rfl rfl ?_
  refine sr_geti (q := 18) C fl_X12_432 (Or.inl rfl) hv0 (show decode cX12_addNode 15 = .ok (.getfield 432, 3) from by decide +kernel) rfl (fun x15 => ?_)
  refine sr_iload_n (i := 2) (q := 19) C (show decode cX12_addNode 18 = .ok (.iload_n 2, 1) from by decide +kernel) rfl rfl rfl ?_
  refine sr_iastore (q := 20) C (kt hv0 kp_12_33) (show decode cX12_addNode 19 = .ok (.iastore, 1) from by decide +kernel) rfl ?_
  refine sr_aload_n (i := 0) (q := 21) C (show decode cX12_addNode 20 = .ok (.aload_n 0, 1) from by decide +kernel) rfl rfl rfl ?_
  refine sr_getr (q := 24) C fl_X12_64 hv0 (show decode cX12_addNode 21 = .ok (.getfield 64, 3) from by decide +kernel) rfl ?_
  refine sr_aload_n (i := 0) (q := 25) C (show decode cX12_addNode 24 = .ok (.aload_n 0, 1) from by decide +kernel) rfl rfl rfl ?_
  refine sr_geti (q := 28) C fl_X12_432 (Or.inl rfl) hv0 (show decode cX12_addNode 25 = .ok (.getfield 432, 3) from by decide +kernel) rfl (fun x25 => ?_)
  refine sr_iload_n (i := 3) (q := 29) C (show decode cX12_addNode 28 = .ok (.iload_n 3, 1) from by decide +kernel) rfl rfl rfl ?_
  refine sr_iastore (q := 30) C (kt hv0 kp_12_34) (show decode cX12_addNode 29 = .ok (.iastore, 1) from by decide +kernel) rfl ?_
  refine sr_aload_n (i := 0) (q := 31) C (show decode cX12_addNode 30 = .ok (.aload_n 0, 1) from by decide +kernel) rfl rfl rfl ?_
  refine sr_dup (q := 32) C (show decode cX12_addNode 31 = .ok (.dup, 1) from by decide +kernel) rfl rfl ?_
  refine sr_geti (q := 35) C fl_X12_432 (Or.inl rfl) hv0 (show decode cX12_addNode 32 = .ok (.getfield 432, 3) from by decide +kernel) rfl (fun x32 => ?_)
  refine sr_iconst (v := (1 : Int32)) (q := 36) C (show decode cX12_addNode 35 = .ok (.iconst 1, 1) from by decide +kernel) (by decide) rfl ?_
  refine sr_iadd (q := 37) C (show decode cX12_addNode 36 = .ok (.iadd, 1) from by decide +kernel) rfl ?_
  refine sr_puti (q := 40) C fp_X12_432 hv0 (show decode cX12_addNode 37 = .ok (.putfield 432, 3) from by decide +kernel) rfl ?_
  exact sr_vreturn C _ rfl (show decode cX12_addNode 40 = .ok (.return_, 1) from by decide +kernel)
theorem cnX12_addNode (ω : sm_O) (v0 : Nat) (v1 : Int32) (v2 : Int32) (v3 : Int32) (hv0 : kd v0 = 12) : sm_Mt 1 yX12_addNode cX12_addNode 4 none ω [.ref (ω.1 + v0), .int v1, .int v2, .int v3] (fun _ => none) (fnX12_addNode v0 v1 v2 v3) := by
  refine sm_conV (by decide) (Nat.le_of_ble_eq_true rfl) ?_
  intro κ hκ C
  subst hκ
  exact slX12_addNode C v0 v1 v2 v3 hv0
def fnX12_in (v0 : Int64) (v2 : Int64) (v4 : Int64) : sm_M Bool := m_br ((lg_cmp v0 v2) < 0)
    (m_ret false)
    (m_br (0 < (lg_cmp v0 v4))
    (m_ret false)
    (m_ret true))
set_option maxHeartbeats 4000000 in
set_option maxRecDepth 100000 in
theorem slX12_in {κ : sm_X} (C : sm_C κ RX12 cX12_in 6 1) (v0 : Int64) (v2 : Int64) (v4 : Int64)  : sm_S κ (fun r : Bool => .inr (some (.int (bI r)))) (.inl (0, [some (.long v0), none, some (.long v2), none, some (.long v4), none], [])) (fnX12_in v0 v2 v4) := by
  unfold fnX12_in
  refine sr_lload_n (i := 0) (q := 1) C (show decode cX12_in 0 = .ok (.lload_n 0, 1) from by decide +kernel) rfl rfl rfl ?_
  refine sr_lload_n (i := 2) (q := 2) C (show decode cX12_in 1 = .ok (.lload_n 2, 1) from by decide +kernel) rfl rfl rfl ?_
  refine sr_lcmp (q := 3) C (show decode cX12_in 2 = .ok (.lcmp, 1) from by decide +kernel) rfl ?_
  refine sr_if_lt (q := 6) C 17 (show decode cX12_in 3 = .ok (.ifCond .lt 14, 3) from by decide +kernel) (by decide) rfl ?_ ?_
  · refine sr_iconst (v := (0 : Int32)) (q := 18) C (show decode cX12_in 17 = .ok (.iconst 0, 1) from by decide +kernel) (by decide) rfl ?_
    exact sr_ireturn C false rfl (show decode cX12_in 18 = .ok (.ireturn, 1) from by decide +kernel)
  · refine sr_lload_n (i := 0) (q := 7) C (show decode cX12_in 6 = .ok (.lload_n 0, 1) from by decide +kernel) rfl rfl rfl ?_
    refine sr_lload (i := 4) (q := 9) C (show decode cX12_in 7 = .ok (.lload 4, 2) from by decide +kernel) rfl rfl ?_
    refine sr_lcmp (q := 10) C (show decode cX12_in 9 = .ok (.lcmp, 1) from by decide +kernel) rfl ?_
    refine sr_if_gt (q := 13) C 17 (show decode cX12_in 10 = .ok (.ifCond .gt 7, 3) from by decide +kernel) (by decide) rfl ?_ ?_
    · refine sr_iconst (v := (0 : Int32)) (q := 18) C (show decode cX12_in 17 = .ok (.iconst 0, 1) from by decide +kernel) (by decide) rfl ?_
      exact sr_ireturn C false rfl (show decode cX12_in 18 = .ok (.ireturn, 1) from by decide +kernel)
    · refine sr_iconst (v := (1 : Int32)) (q := 14) C (show decode cX12_in 13 = .ok (.iconst 1, 1) from by decide +kernel) (by decide) rfl ?_
      refine sr_goto (q := 18) C (show decode cX12_in 14 = .ok (.goto 4, 3) from by decide +kernel) (by decide) ?_
      exact sr_ireturn C true rfl (show decode cX12_in 18 = .ok (.ireturn, 1) from by decide +kernel)
theorem cnX12_in (ω : sm_O) (v0 : Int64) (v2 : Int64) (v4 : Int64)  : sm_Mt 1 yX12_in cX12_in 6 (some .boolean) ω [.long v0, .long v2, .long v4] (fun a => some (.int (bI a))) (fnX12_in v0 v2 v4) := by
  refine sm_conI (r := bI) (by decide) bI_nar (Nat.le_of_ble_eq_true rfl) ?_
  intro κ hκ C
  subst hκ
  exact slX12_in C v0 v2 v4
def fnX12_see (v0 : Nat) (v1 : Int32) : sm_M Int32 := m_gi v0 7 fun x2 => m_br (x2 ≤ v1)
    (m_ret (-1 : Int32))
    (m_ai (lk v0 4) v1 fun x13 => m_ret (x13 &&& (255 : Int32)))
set_option maxHeartbeats 4000000 in
set_option maxRecDepth 100000 in
theorem slX12_see {κ : sm_X} (C : sm_C κ RX12 cX12_see 2 1) (v0 : Nat) (v1 : Int32) (hv0 : kd v0 = 12) : sm_S κ (fun r : Int32 => .inr (some (.int r))) (.inl (0, [some (xad κ v0), some (.int v1)], [])) (fnX12_see v0 v1) := by
  unfold fnX12_see
  refine sr_iload_n (i := 1) (q := 1) C (show decode cX12_see 0 = .ok (.iload_n 1, 1) from by decide +kernel) rfl rfl rfl ?_
  refine sr_aload_n (i := 0) (q := 2) C (show decode cX12_see 1 = .ok (.aload_n 0, 1) from by decide +kernel) rfl rfl rfl ?_
  refine sr_geti (q := 5) C fl_X12_118 (Or.inl rfl) hv0 (show decode cX12_see 2 = .ok (.getfield 118, 3) from by decide +kernel) rfl (fun x2 => ?_)
  refine sr_icmp_ge (q := 8) C 21 (show decode cX12_see 5 = .ok (.if_icmp .ge 16, 3) from by decide +kernel) (by decide) rfl ?_ ?_
  · refine sr_iconst (v := (-1 : Int32)) (q := 22) C (show decode cX12_see 21 = .ok (.iconst (-1), 1) from by decide +kernel) (by decide) rfl ?_
    exact sr_ireturn C _ rfl (show decode cX12_see 22 = .ok (.ireturn, 1) from by decide +kernel)
  · refine sr_aload_n (i := 0) (q := 9) C (show decode cX12_see 8 = .ok (.aload_n 0, 1) from by decide +kernel) rfl rfl rfl ?_
    refine sr_getr (q := 12) C fl_X12_20 hv0 (show decode cX12_see 9 = .ok (.getfield 20, 3) from by decide +kernel) rfl ?_
    refine sr_iload_n (i := 1) (q := 13) C (show decode cX12_see 12 = .ok (.iload_n 1, 1) from by decide +kernel) rfl rfl rfl ?_
    refine sr_baload (q := 14) C (kt hv0 kp_12_4) (show decode cX12_see 13 = .ok (.baload, 1) from by decide +kernel) rfl (fun x13 => ?_)
    refine sr_sipush (v := (255 : Int32)) (q := 17) C (show decode cX12_see 14 = .ok (.sipush 255, 3) from by decide +kernel) (by decide) rfl ?_
    refine sr_iand (q := 18) C (show decode cX12_see 17 = .ok (.iand, 1) from by decide +kernel) rfl ?_
    refine sr_goto (q := 22) C (show decode cX12_see 18 = .ok (.goto 4, 3) from by decide +kernel) (by decide) ?_
    exact sr_ireturn C _ rfl (show decode cX12_see 22 = .ok (.ireturn, 1) from by decide +kernel)
theorem cnX12_see (ω : sm_O) (v0 : Nat) (v1 : Int32) (hv0 : kd v0 = 12) : sm_Mt 1 yX12_see cX12_see 2 (some .int) ω [.ref (ω.1 + v0), .int v1] (fun a => some (.int a)) (fnX12_see v0 v1) := by
  refine sm_conI (r := fun a => a) (by decide) (fun _ => rfl) (Nat.le_of_ble_eq_true rfl) ?_
  intro κ hκ C
  subst hκ
  exact slX12_see C v0 v1 hv0
def fnX12_advance_J26 (k0 : Nat → sm_M Unit) (v0 : Nat) : sm_M Unit := m_gi v0 8 fun x28 => m_si v0 8 (x28 + (1 : Int32)) <| k0 v0
set_option maxHeartbeats 4000000 in
set_option maxRecDepth 100000 in
theorem slX12_advance_J26 {κ : sm_X} (C : sm_C κ RX12 cX12_advance 2 2) {k0 : Nat → sm_M Unit} (K0 : ∀ (v0 : Nat) (hv0 : kd v0 = 12), sm_S κ (fun _ : Unit => .inr none) (.inl (0, [some (xad κ v0), none], [])) (k0 v0)) (v0 : Nat) (hv0 : kd v0 = 12) : sm_S κ (fun _ : Unit => .inr none) (.inl (26, [some (xad κ v0), none], [])) (fnX12_advance_J26 k0 v0) := by
  unfold fnX12_advance_J26
  refine sr_aload_n (i := 0) (q := 27) C (show decode cX12_advance 26 = .ok (.aload_n 0, 1) from by decide +kernel) rfl rfl rfl ?_
  refine sr_dup (q := 28) C (show decode cX12_advance 27 = .ok (.dup, 1) from by decide +kernel) rfl rfl ?_
  refine sr_geti (q := 31) C fl_X12_121 (Or.inl rfl) hv0 (show decode cX12_advance 28 = .ok (.getfield 121, 3) from by decide +kernel) rfl (fun x28 => ?_)
  refine sr_iconst (v := (1 : Int32)) (q := 32) C (show decode cX12_advance 31 = .ok (.iconst 1, 1) from by decide +kernel) (by decide) rfl ?_
  refine sr_iadd (q := 33) C (show decode cX12_advance 32 = .ok (.iadd, 1) from by decide +kernel) rfl ?_
  refine sr_puti (q := 36) C fp_X12_121 hv0 (show decode cX12_advance 33 = .ok (.putfield 121, 3) from by decide +kernel) rfl ?_
  refine sr_goto (q := 0) C (show decode cX12_advance 36 = .ok (.goto (-36), 3) from by decide +kernel) (by decide) ?_
  exact K0 v0 hv0
def fnX12_advance_J226 (v0 : Nat) (s0 : Int32) (s1 : Nat) : sm_M Unit := m_si s1 10 s0 <| m_gi v0 8 fun x231 => m_si v0 8 (x231 + (1 : Int32)) <| m_ret ()
set_option maxHeartbeats 4000000 in
set_option maxRecDepth 100000 in
theorem slX12_advance_J226 {κ : sm_X} (C : sm_C κ RX12 cX12_advance 2 2) (v0 : Nat) (s0 : Int32) (s1 : Nat) (hv0 : kd v0 = 12) (hs1 : kd s1 = 12) : sm_S κ (fun _ : Unit => .inr none) (.inl (226, [some (xad κ v0), none], [.int s0, xad κ s1])) (fnX12_advance_J226 v0 s0 s1) := by
  unfold fnX12_advance_J226
  refine sr_puti (q := 229) C fp_X12_131 hs1 (show decode cX12_advance 226 = .ok (.putfield 131, 3) from by decide +kernel) rfl ?_
  refine sr_aload_n (i := 0) (q := 230) C (show decode cX12_advance 229 = .ok (.aload_n 0, 1) from by decide +kernel) rfl rfl rfl ?_
  refine sr_dup (q := 231) C (show decode cX12_advance 230 = .ok (.dup, 1) from by decide +kernel) rfl rfl ?_
  refine sr_geti (q := 234) C fl_X12_121 (Or.inl rfl) hv0 (show decode cX12_advance 231 = .ok (.getfield 121, 3) from by decide +kernel) rfl (fun x231 => ?_)
  refine sr_iconst (v := (1 : Int32)) (q := 235) C (show decode cX12_advance 234 = .ok (.iconst 1, 1) from by decide +kernel) (by decide) rfl ?_
  refine sr_iadd (q := 236) C (show decode cX12_advance 235 = .ok (.iadd, 1) from by decide +kernel) rfl ?_
  refine sr_puti (q := 239) C fp_X12_121 hv0 (show decode cX12_advance 236 = .ok (.putfield 121, 3) from by decide +kernel) rfl ?_
  exact sr_vreturn C _ rfl (show decode cX12_advance 239 = .ok (.return_, 1) from by decide +kernel)
def fnX12_advance_J206 (v0 : Nat) : sm_M Unit := m_si v0 10 (2 : Int32) <| m_ret ()
set_option maxHeartbeats 4000000 in
set_option maxRecDepth 100000 in
theorem slX12_advance_J206 {κ : sm_X} (C : sm_C κ RX12 cX12_advance 2 2) (v0 : Nat) (hv0 : kd v0 = 12) : sm_S κ (fun _ : Unit => .inr none) (.inl (206, [some (xad κ v0), none], [])) (fnX12_advance_J206 v0) := by
  unfold fnX12_advance_J206
  refine sr_aload_n (i := 0) (q := 207) C (show decode cX12_advance 206 = .ok (.aload_n 0, 1) from by decide +kernel) rfl rfl rfl ?_
  refine sr_iconst (v := (2 : Int32)) (q := 208) C (show decode cX12_advance 207 = .ok (.iconst 2, 1) from by decide +kernel) (by decide) rfl ?_
  refine sr_puti (q := 211) C fp_X12_131 hv0 (show decode cX12_advance 208 = .ok (.putfield 131, 3) from by decide +kernel) rfl ?_
  refine sr_goto (q := 239) C (show decode cX12_advance 211 = .ok (.goto 28, 3) from by decide +kernel) (by decide) ?_
  exact sr_vreturn C _ rfl (show decode cX12_advance 239 = .ok (.return_, 1) from by decide +kernel)
def fnX12_advance_L144 : Nat → Nat → sm_M Unit
  | 0, _ => m_fail
  | n + 1, v0 => m_gi v0 8 fun x146 => m_bnd (fnX12_see v0 x146) fun x149 => m_bnd (fnX12_in x149.toInt64 (48 : Int64) (57 : Int64)) fun x159 => m_br ((bI x159) = 0)
    (fnX12_advance_J206 v0)
    (m_gi v0 11 fun x171 => m_gi v0 8 fun x177 => m_bnd (fnX12_see v0 x177) fun x180 => m_si v0 11 (jmin (99999 : Int32) ((((10 : Int32) * x171) + x180) - (48 : Int32))) <| m_gi v0 8 fun x195 => m_si v0 8 (x195 + (1 : Int32)) <| (fnX12_advance_L144 n) v0)
set_option maxHeartbeats 4000000 in
set_option maxRecDepth 100000 in
theorem slX12_advance_L144 {κ : sm_X} (C : sm_C κ RX12 cX12_advance 2 2) : ∀ (n : Nat) (v0 : Nat) (hv0 : kd v0 = 12), sm_S κ (fun _ : Unit => .inr none) (.inl (144, [some (xad κ v0), none], [])) (fnX12_advance_L144 n v0) := by
  intro n
  induction n with
  | zero =>
    intros
    exact sr_fail
  | succ n K144 =>
    intro v0 hv0
    unfold fnX12_advance_L144
    refine sr_aload_n (i := 0) (q := 145) C (show decode cX12_advance 144 = .ok (.aload_n 0, 1) from by decide +kernel) rfl rfl rfl ?_
    refine sr_aload_n (i := 0) (q := 146) C (show decode cX12_advance 145 = .ok (.aload_n 0, 1) from by decide +kernel) rfl rfl rfl ?_
    refine sr_geti (q := 149) C fl_X12_121 (Or.inl rfl) hv0 (show decode cX12_advance 146 = .ok (.getfield 121, 3) from by decide +kernel) rfl (fun x146 => ?_)
    refine sr_cVi (As := [.int x146]) (st := []) (b := v0) (q := 152) C yvX12_see ml_X12_124 (cnX12_see (xo κ) v0 x146 hv0) hv0 (by decide) rfl rfl rfl (by decide) (by decide) (Nat.le_of_ble_eq_true rfl) rfl (show decode cX12_advance 149 = .ok (.invokevirtual 124, 3) from by decide +kernel) rfl (fun x149 => ?_)
    refine sr_i2l (q := 153) C (show decode cX12_advance 152 = .ok (.i2l, 1) from by decide +kernel) rfl ?_
    refine sr_ldc2 (q := 156) C co_X12_138 (show decode cX12_advance 153 = .ok (.ldc2_w 138, 3) from by decide +kernel) rfl ?_
    refine sr_ldc2 (q := 159) C co_X12_140 (show decode cX12_advance 156 = .ok (.ldc2_w 140, 3) from by decide +kernel) rfl ?_
    refine sr_cSz (As := [.long x149.toInt64, .long (48 : Int64), .long (57 : Int64)]) (st := []) (q := 162) C ysX12_in ml_X12_103 (cnX12_in (xo κ) x149.toInt64 (48 : Int64) (57 : Int64)) rfl (by decide) (by decide) (Nat.le_of_ble_eq_true rfl) rfl (show decode cX12_advance 159 = .ok (.invokestatic 103, 3) from by decide +kernel) rfl (fun x159 => ?_)
    refine sr_if_eq (q := 165) C 206 (show decode cX12_advance 162 = .ok (.ifCond .eq 44, 3) from by decide +kernel) (by decide) rfl ?_ ?_
    · exact slX12_advance_J206 C v0 hv0
    · refine sr_aload_n (i := 0) (q := 166) C (show decode cX12_advance 165 = .ok (.aload_n 0, 1) from by decide +kernel) rfl rfl rfl ?_
      refine sr_ldc (q := 168) C co_X12_145 (show decode cX12_advance 166 = .ok (.ldc 145, 2) from by decide +kernel) rfl ?_
      refine sr_bipush (v := (10 : Int32)) (q := 170) C (show decode cX12_advance 168 = .ok (.bipush 10, 2) from by decide +kernel) (by decide) rfl ?_
      refine sr_aload_n (i := 0) (q := 171) C (show decode cX12_advance 170 = .ok (.aload_n 0, 1) from by decide +kernel) rfl rfl rfl ?_
      refine sr_geti (q := 174) C fl_X12_142 (Or.inl rfl) hv0 (show decode cX12_advance 171 = .ok (.getfield 142, 3) from by decide +kernel) rfl (fun x171 => ?_)
      refine sr_imul (q := 175) C (show decode cX12_advance 174 = .ok (.imul, 1) from by decide +kernel) rfl ?_
      refine sr_aload_n (i := 0) (q := 176) C (show decode cX12_advance 175 = .ok (.aload_n 0, 1) from by decide +kernel) rfl rfl rfl ?_
      refine sr_aload_n (i := 0) (q := 177) C (show decode cX12_advance 176 = .ok (.aload_n 0, 1) from by decide +kernel) rfl rfl rfl ?_
      refine sr_geti (q := 180) C fl_X12_121 (Or.inl rfl) hv0 (show decode cX12_advance 177 = .ok (.getfield 121, 3) from by decide +kernel) rfl (fun x177 => ?_)
      refine sr_cVi (As := [.int x177]) (st := [.int ((10 : Int32) * x171), .int (99999 : Int32), xad κ v0]) (b := v0) (q := 183) C yvX12_see ml_X12_124 (cnX12_see (xo κ) v0 x177 hv0) hv0 (by decide) rfl rfl rfl (by decide) (by decide) (Nat.le_of_ble_eq_true rfl) rfl (show decode cX12_advance 180 = .ok (.invokevirtual 124, 3) from by decide +kernel) rfl (fun x180 => ?_)
      refine sr_iadd (q := 184) C (show decode cX12_advance 183 = .ok (.iadd, 1) from by decide +kernel) rfl ?_
      refine sr_bipush (v := (48 : Int32)) (q := 186) C (show decode cX12_advance 184 = .ok (.bipush 48, 2) from by decide +kernel) (by decide) rfl ?_
      refine sr_isub (q := 187) C (show decode cX12_advance 186 = .ok (.isub, 1) from by decide +kernel) rfl ?_
      refine sr_jmin (st := [xad κ v0]) (q := 190) C ml_X12_146 (by decide) (Nat.le_of_ble_eq_true rfl) (show decode cX12_advance 187 = .ok (.invokestatic 146, 3) from by decide +kernel) rfl ?_
      refine sr_puti (q := 193) C fp_X12_142 hv0 (show decode cX12_advance 190 = .ok (.putfield 142, 3) from by decide +kernel) rfl ?_
      refine sr_aload_n (i := 0) (q := 194) C (show decode cX12_advance 193 = .ok (.aload_n 0, 1) from by decide +kernel) rfl rfl rfl ?_
      refine sr_dup (q := 195) C (show decode cX12_advance 194 = .ok (.dup, 1) from by decide +kernel) rfl rfl ?_
      refine sr_geti (q := 198) C fl_X12_121 (Or.inl rfl) hv0 (show decode cX12_advance 195 = .ok (.getfield 121, 3) from by decide +kernel) rfl (fun x195 => ?_)
      refine sr_iconst (v := (1 : Int32)) (q := 199) C (show decode cX12_advance 198 = .ok (.iconst 1, 1) from by decide +kernel) (by decide) rfl ?_
      refine sr_iadd (q := 200) C (show decode cX12_advance 199 = .ok (.iadd, 1) from by decide +kernel) rfl ?_
      refine sr_puti (q := 203) C fp_X12_121 hv0 (show decode cX12_advance 200 = .ok (.putfield 121, 3) from by decide +kernel) rfl ?_
      refine sr_goto (q := 144) C (show decode cX12_advance 203 = .ok (.goto (-59), 3) from by decide +kernel) (by decide) ?_
      exact K144 v0 hv0
def fnX12_advance_J117 (v0 : Nat) : sm_M Unit := m_si v0 10 (1 : Int32) <| m_ret ()
set_option maxHeartbeats 4000000 in
set_option maxRecDepth 100000 in
theorem slX12_advance_J117 {κ : sm_X} (C : sm_C κ RX12 cX12_advance 2 2) (v0 : Nat) (hv0 : kd v0 = 12) : sm_S κ (fun _ : Unit => .inr none) (.inl (117, [some (xad κ v0), none], [])) (fnX12_advance_J117 v0) := by
  unfold fnX12_advance_J117
  refine sr_aload_n (i := 0) (q := 118) C (show decode cX12_advance 117 = .ok (.aload_n 0, 1) from by decide +kernel) rfl rfl rfl ?_
  refine sr_iconst (v := (1 : Int32)) (q := 119) C (show decode cX12_advance 118 = .ok (.iconst 1, 1) from by decide +kernel) (by decide) rfl ?_
  refine sr_puti (q := 122) C fp_X12_131 hv0 (show decode cX12_advance 119 = .ok (.putfield 131, 3) from by decide +kernel) rfl ?_
  refine sr_goto (q := 239) C (show decode cX12_advance 122 = .ok (.goto 117, 3) from by decide +kernel) (by decide) ?_
  exact sr_vreturn C _ rfl (show decode cX12_advance 239 = .ok (.return_, 1) from by decide +kernel)
def fnX12_advance_L83 : Nat → Nat → sm_M Unit
  | 0, _ => m_fail
  | n + 1, v0 => m_gi v0 8 fun x85 => m_bnd (fnX12_see v0 x85) fun x88 => m_bnd (fnX12_in x88.toInt64 (97 : Int64) (122 : Int64)) fun x98 => m_br ((bI x98) = 0)
    (fnX12_advance_J117 v0)
    (m_gi v0 8 fun x106 => m_si v0 8 (x106 + (1 : Int32)) <| (fnX12_advance_L83 n) v0)
set_option maxHeartbeats 4000000 in
set_option maxRecDepth 100000 in
theorem slX12_advance_L83 {κ : sm_X} (C : sm_C κ RX12 cX12_advance 2 2) : ∀ (n : Nat) (v0 : Nat) (hv0 : kd v0 = 12), sm_S κ (fun _ : Unit => .inr none) (.inl (83, [some (xad κ v0), none], [])) (fnX12_advance_L83 n v0) := by
  intro n
  induction n with
  | zero =>
    intros
    exact sr_fail
  | succ n K83 =>
    intro v0 hv0
    unfold fnX12_advance_L83
    refine sr_aload_n (i := 0) (q := 84) C (show decode cX12_advance 83 = .ok (.aload_n 0, 1) from by decide +kernel) rfl rfl rfl ?_
    refine sr_aload_n (i := 0) (q := 85) C (show decode cX12_advance 84 = .ok (.aload_n 0, 1) from by decide +kernel) rfl rfl rfl ?_
    refine sr_geti (q := 88) C fl_X12_121 (Or.inl rfl) hv0 (show decode cX12_advance 85 = .ok (.getfield 121, 3) from by decide +kernel) rfl (fun x85 => ?_)
    refine sr_cVi (As := [.int x85]) (st := []) (b := v0) (q := 91) C yvX12_see ml_X12_124 (cnX12_see (xo κ) v0 x85 hv0) hv0 (by decide) rfl rfl rfl (by decide) (by decide) (Nat.le_of_ble_eq_true rfl) rfl (show decode cX12_advance 88 = .ok (.invokevirtual 124, 3) from by decide +kernel) rfl (fun x88 => ?_)
    refine sr_i2l (q := 92) C (show decode cX12_advance 91 = .ok (.i2l, 1) from by decide +kernel) rfl ?_
    refine sr_ldc2 (q := 95) C co_X12_134 (show decode cX12_advance 92 = .ok (.ldc2_w 134, 3) from by decide +kernel) rfl ?_
    refine sr_ldc2 (q := 98) C co_X12_136 (show decode cX12_advance 95 = .ok (.ldc2_w 136, 3) from by decide +kernel) rfl ?_
    refine sr_cSz (As := [.long x88.toInt64, .long (97 : Int64), .long (122 : Int64)]) (st := []) (q := 101) C ysX12_in ml_X12_103 (cnX12_in (xo κ) x88.toInt64 (97 : Int64) (122 : Int64)) rfl (by decide) (by decide) (Nat.le_of_ble_eq_true rfl) rfl (show decode cX12_advance 98 = .ok (.invokestatic 103, 3) from by decide +kernel) rfl (fun x98 => ?_)
    refine sr_if_eq (q := 104) C 117 (show decode cX12_advance 101 = .ok (.ifCond .eq 16, 3) from by decide +kernel) (by decide) rfl ?_ ?_
    · exact slX12_advance_J117 C v0 hv0
    · refine sr_aload_n (i := 0) (q := 105) C (show decode cX12_advance 104 = .ok (.aload_n 0, 1) from by decide +kernel) rfl rfl rfl ?_
      refine sr_dup (q := 106) C (show decode cX12_advance 105 = .ok (.dup, 1) from by decide +kernel) rfl rfl ?_
      refine sr_geti (q := 109) C fl_X12_121 (Or.inl rfl) hv0 (show decode cX12_advance 106 = .ok (.getfield 121, 3) from by decide +kernel) rfl (fun x106 => ?_)
      refine sr_iconst (v := (1 : Int32)) (q := 110) C (show decode cX12_advance 109 = .ok (.iconst 1, 1) from by decide +kernel) (by decide) rfl ?_
      refine sr_iadd (q := 111) C (show decode cX12_advance 110 = .ok (.iadd, 1) from by decide +kernel) rfl ?_
      refine sr_puti (q := 114) C fp_X12_121 hv0 (show decode cX12_advance 111 = .ok (.putfield 121, 3) from by decide +kernel) rfl ?_
      refine sr_goto (q := 83) C (show decode cX12_advance 114 = .ok (.goto (-31), 3) from by decide +kernel) (by decide) ?_
      exact K83 v0 hv0
def fnX12_advance_J39 (v0 : Nat) : sm_M Unit := m_gi v0 8 fun x41 => m_si v0 9 x41 <| m_gi v0 8 fun x49 => m_bnd (fnX12_see v0 x49) fun x52 => m_br (x52 = (-1 : Int32))
    (m_si v0 10 (0 : Int32) <| m_ret ())
    (m_bnd (fnX12_in x52.toInt64 (97 : Int64) (122 : Int64)) fun x77 => m_br ((bI x77) = 0)
    (m_bnd (fnX12_in x52.toInt64 (48 : Int64) (57 : Int64)) fun x133 => m_br ((bI x133) = 0)
    (m_br (x52 = (59 : Int32))
    (fnX12_advance_J226 v0 (3 : Int32) v0)
    (fnX12_advance_J226 v0 (4 : Int32) v0))
    (m_si v0 11 (0 : Int32) <| fnX12_advance_L144 4096 v0))
    (fnX12_advance_L83 4096 v0))
set_option maxHeartbeats 4000000 in
set_option maxRecDepth 100000 in
theorem slX12_advance_J39 {κ : sm_X} (C : sm_C κ RX12 cX12_advance 2 2) (v0 : Nat) (hv0 : kd v0 = 12) : sm_S κ (fun _ : Unit => .inr none) (.inl (39, [some (xad κ v0), none], [])) (fnX12_advance_J39 v0) := by
  unfold fnX12_advance_J39
  refine sr_aload_n (i := 0) (q := 40) C (show decode cX12_advance 39 = .ok (.aload_n 0, 1) from by decide +kernel) rfl rfl rfl ?_
  refine sr_aload_n (i := 0) (q := 41) C (show decode cX12_advance 40 = .ok (.aload_n 0, 1) from by decide +kernel) rfl rfl rfl ?_
  refine sr_geti (q := 44) C fl_X12_121 (Or.inl rfl) hv0 (show decode cX12_advance 41 = .ok (.getfield 121, 3) from by decide +kernel) rfl (fun x41 => ?_)
  refine sr_puti (q := 47) C fp_X12_128 hv0 (show decode cX12_advance 44 = .ok (.putfield 128, 3) from by decide +kernel) rfl ?_
  refine sr_aload_n (i := 0) (q := 48) C (show decode cX12_advance 47 = .ok (.aload_n 0, 1) from by decide +kernel) rfl rfl rfl ?_
  refine sr_aload_n (i := 0) (q := 49) C (show decode cX12_advance 48 = .ok (.aload_n 0, 1) from by decide +kernel) rfl rfl rfl ?_
  refine sr_geti (q := 52) C fl_X12_121 (Or.inl rfl) hv0 (show decode cX12_advance 49 = .ok (.getfield 121, 3) from by decide +kernel) rfl (fun x49 => ?_)
  refine sr_cVi (As := [.int x49]) (st := []) (b := v0) (q := 55) C yvX12_see ml_X12_124 (cnX12_see (xo κ) v0 x49 hv0) hv0 (by decide) rfl rfl rfl (by decide) (by decide) (Nat.le_of_ble_eq_true rfl) rfl (show decode cX12_advance 52 = .ok (.invokevirtual 124, 3) from by decide +kernel) rfl (fun x52 => ?_)
  refine sr_istore_n (i := 1) (L' := [some (xad κ v0), some (.int x52)]) (q := 56) C (show decode cX12_advance 55 = .ok (.istore_n 1, 1) from by decide +kernel) rfl (by decide) rfl rfl ?_
  refine sr_iload_n (i := 1) (q := 57) C (show decode cX12_advance 56 = .ok (.iload_n 1, 1) from by decide +kernel) rfl rfl rfl ?_
  refine sr_iconst (v := (-1 : Int32)) (q := 58) C (show decode cX12_advance 57 = .ok (.iconst (-1), 1) from by decide +kernel) (by decide) rfl ?_
  refine sr_icmp_ne (q := 61) C 69 (show decode cX12_advance 58 = .ok (.if_icmp .ne 11, 3) from by decide +kernel) (by decide) rfl ?_ ?_
  · refine sr_iload_n (i := 1) (q := 70) C (show decode cX12_advance 69 = .ok (.iload_n 1, 1) from by decide +kernel) rfl rfl rfl ?_
    refine sr_i2l (q := 71) C (show decode cX12_advance 70 = .ok (.i2l, 1) from by decide +kernel) rfl ?_
    refine sr_ldc2 (q := 74) C co_X12_134 (show decode cX12_advance 71 = .ok (.ldc2_w 134, 3) from by decide +kernel) rfl ?_
    refine sr_ldc2 (q := 77) C co_X12_136 (show decode cX12_advance 74 = .ok (.ldc2_w 136, 3) from by decide +kernel) rfl ?_
    refine sr_cSz (As := [.long x52.toInt64, .long (97 : Int64), .long (122 : Int64)]) (st := []) (q := 80) C ysX12_in ml_X12_103 (cnX12_in (xo κ) x52.toInt64 (97 : Int64) (122 : Int64)) rfl (by decide) (by decide) (Nat.le_of_ble_eq_true rfl) rfl (show decode cX12_advance 77 = .ok (.invokestatic 103, 3) from by decide +kernel) rfl (fun x77 => ?_)
    refine sr_if_eq (q := 83) C 125 (show decode cX12_advance 80 = .ok (.ifCond .eq 45, 3) from by decide +kernel) (by decide) rfl ?_ ?_
    · refine sr_iload_n (i := 1) (q := 126) C (show decode cX12_advance 125 = .ok (.iload_n 1, 1) from by decide +kernel) rfl rfl rfl ?_
      refine sr_i2l (q := 127) C (show decode cX12_advance 126 = .ok (.i2l, 1) from by decide +kernel) rfl ?_
      refine sr_ldc2 (q := 130) C co_X12_138 (show decode cX12_advance 127 = .ok (.ldc2_w 138, 3) from by decide +kernel) rfl ?_
      refine sr_ldc2 (q := 133) C co_X12_140 (show decode cX12_advance 130 = .ok (.ldc2_w 140, 3) from by decide +kernel) rfl ?_
      refine sr_cSz (As := [.long x52.toInt64, .long (48 : Int64), .long (57 : Int64)]) (st := []) (q := 136) C ysX12_in ml_X12_103 (cnX12_in (xo κ) x52.toInt64 (48 : Int64) (57 : Int64)) rfl (by decide) (by decide) (Nat.le_of_ble_eq_true rfl) rfl (show decode cX12_advance 133 = .ok (.invokestatic 103, 3) from by decide +kernel) rfl (fun x133 => ?_)
      refine sr_if_eq (q := 139) C 214 (show decode cX12_advance 136 = .ok (.ifCond .eq 78, 3) from by decide +kernel) (by decide) rfl ?_ ?_
      · refine sr_aload_n (i := 0) (q := 215) C (show decode cX12_advance 214 = .ok (.aload_n 0, 1) from by decide +kernel) rfl rfl rfl ?_
        refine sr_iload_n (i := 1) (q := 216) C (show decode cX12_advance 215 = .ok (.iload_n 1, 1) from by decide +kernel) rfl rfl rfl ?_
        refine sr_bipush (v := (59 : Int32)) (q := 218) C (show decode cX12_advance 216 = .ok (.bipush 59, 2) from by decide +kernel) (by decide) rfl ?_
        refine sr_icmp_ne (q := 221) C 225 (show decode cX12_advance 218 = .ok (.if_icmp .ne 7, 3) from by decide +kernel) (by decide) rfl ?_ ?_
        · refine sr_iconst (v := (4 : Int32)) (q := 226) C (show decode cX12_advance 225 = .ok (.iconst 4, 1) from by decide +kernel) (by decide) rfl ?_
          refine sr_weak (L' := [some (xad κ v0), none]) ⟨rfl, trivial⟩ ?_
          exact slX12_advance_J226 C v0 (4 : Int32) v0 hv0 hv0
        · refine sr_iconst (v := (3 : Int32)) (q := 222) C (show decode cX12_advance 221 = .ok (.iconst 3, 1) from by decide +kernel) (by decide) rfl ?_
          refine sr_goto (q := 226) C (show decode cX12_advance 222 = .ok (.goto 4, 3) from by decide +kernel) (by decide) ?_
          refine sr_weak (L' := [some (xad κ v0), none]) ⟨rfl, trivial⟩ ?_
          exact slX12_advance_J226 C v0 (3 : Int32) v0 hv0 hv0
      · refine sr_aload_n (i := 0) (q := 140) C (show decode cX12_advance 139 = .ok (.aload_n 0, 1) from by decide +kernel) rfl rfl rfl ?_
        refine sr_iconst (v := (0 : Int32)) (q := 141) C (show decode cX12_advance 140 = .ok (.iconst 0, 1) from by decide +kernel) (by decide) rfl ?_
        refine sr_puti (q := 144) C fp_X12_142 hv0 (show decode cX12_advance 141 = .ok (.putfield 142, 3) from by decide +kernel) rfl ?_
        refine sr_weak (L' := [some (xad κ v0), none]) ⟨rfl, trivial⟩ ?_
        exact slX12_advance_L144 C 4096 v0 hv0
    · refine sr_weak (L' := [some (xad κ v0), none]) ⟨rfl, trivial⟩ ?_
      exact slX12_advance_L83 C 4096 v0 hv0
  · refine sr_aload_n (i := 0) (q := 62) C (show decode cX12_advance 61 = .ok (.aload_n 0, 1) from by decide +kernel) rfl rfl rfl ?_
    refine sr_iconst (v := (0 : Int32)) (q := 63) C (show decode cX12_advance 62 = .ok (.iconst 0, 1) from by decide +kernel) (by decide) rfl ?_
    refine sr_puti (q := 66) C fp_X12_131 hv0 (show decode cX12_advance 63 = .ok (.putfield 131, 3) from by decide +kernel) rfl ?_
    refine sr_goto (q := 239) C (show decode cX12_advance 66 = .ok (.goto 173, 3) from by decide +kernel) (by decide) ?_
    exact sr_vreturn C _ rfl (show decode cX12_advance 239 = .ok (.return_, 1) from by decide +kernel)
def fnX12_advance_L0 : Nat → Nat → sm_M Unit
  | 0, _ => m_fail
  | n + 1, v0 => m_gi v0 8 fun x2 => m_bnd (fnX12_see v0 x2) fun x5 => m_br (x5 = (32 : Int32))
    (fnX12_advance_J26 (fnX12_advance_L0 n) v0)
    (m_gi v0 8 fun x15 => m_bnd (fnX12_see v0 x15) fun x18 => m_br (x18 = (10 : Int32))
    (fnX12_advance_J26 (fnX12_advance_L0 n) v0)
    (fnX12_advance_J39 v0))
set_option maxHeartbeats 4000000 in
set_option maxRecDepth 100000 in
theorem slX12_advance_L0 {κ : sm_X} (C : sm_C κ RX12 cX12_advance 2 2) : ∀ (n : Nat) (v0 : Nat) (hv0 : kd v0 = 12), sm_S κ (fun _ : Unit => .inr none) (.inl (0, [some (xad κ v0), none], [])) (fnX12_advance_L0 n v0) := by
  intro n
  induction n with
  | zero =>
    intros
    exact sr_fail
  | succ n K0 =>
    intro v0 hv0
    unfold fnX12_advance_L0
    refine sr_aload_n (i := 0) (q := 1) C (show decode cX12_advance 0 = .ok (.aload_n 0, 1) from by decide +kernel) rfl rfl rfl ?_
    refine sr_aload_n (i := 0) (q := 2) C (show decode cX12_advance 1 = .ok (.aload_n 0, 1) from by decide +kernel) rfl rfl rfl ?_
    refine sr_geti (q := 5) C fl_X12_121 (Or.inl rfl) hv0 (show decode cX12_advance 2 = .ok (.getfield 121, 3) from by decide +kernel) rfl (fun x2 => ?_)
    refine sr_cVi (As := [.int x2]) (st := []) (b := v0) (q := 8) C yvX12_see ml_X12_124 (cnX12_see (xo κ) v0 x2 hv0) hv0 (by decide) rfl rfl rfl (by decide) (by decide) (Nat.le_of_ble_eq_true rfl) rfl (show decode cX12_advance 5 = .ok (.invokevirtual 124, 3) from by decide +kernel) rfl (fun x5 => ?_)
    refine sr_bipush (v := (32 : Int32)) (q := 10) C (show decode cX12_advance 8 = .ok (.bipush 32, 2) from by decide +kernel) (by decide) rfl ?_
    refine sr_icmp_eq (q := 13) C 26 (show decode cX12_advance 10 = .ok (.if_icmp .eq 16, 3) from by decide +kernel) (by decide) rfl ?_ ?_
    · exact slX12_advance_J26 C K0 v0 hv0
    · refine sr_aload_n (i := 0) (q := 14) C (show decode cX12_advance 13 = .ok (.aload_n 0, 1) from by decide +kernel) rfl rfl rfl ?_
      refine sr_aload_n (i := 0) (q := 15) C (show decode cX12_advance 14 = .ok (.aload_n 0, 1) from by decide +kernel) rfl rfl rfl ?_
      refine sr_geti (q := 18) C fl_X12_121 (Or.inl rfl) hv0 (show decode cX12_advance 15 = .ok (.getfield 121, 3) from by decide +kernel) rfl (fun x15 => ?_)
      refine sr_cVi (As := [.int x15]) (st := []) (b := v0) (q := 21) C yvX12_see ml_X12_124 (cnX12_see (xo κ) v0 x15 hv0) hv0 (by decide) rfl rfl rfl (by decide) (by decide) (Nat.le_of_ble_eq_true rfl) rfl (show decode cX12_advance 18 = .ok (.invokevirtual 124, 3) from by decide +kernel) rfl (fun x18 => ?_)
      refine sr_bipush (v := (10 : Int32)) (q := 23) C (show decode cX12_advance 21 = .ok (.bipush 10, 2) from by decide +kernel) (by decide) rfl ?_
      refine sr_icmp_ne (q := 26) C 39 (show decode cX12_advance 23 = .ok (.if_icmp .ne 16, 3) from by decide +kernel) (by decide) rfl ?_ ?_
      · exact slX12_advance_J39 C v0 hv0
      · exact slX12_advance_J26 C K0 v0 hv0
def fnX12_advance (v0 : Nat) : sm_M Unit := fnX12_advance_L0 4096 v0
set_option maxHeartbeats 4000000 in
set_option maxRecDepth 100000 in
theorem slX12_advance {κ : sm_X} (C : sm_C κ RX12 cX12_advance 2 2) (v0 : Nat) (hv0 : kd v0 = 12) : sm_S κ (fun _ : Unit => .inr none) (.inl (0, [some (xad κ v0), none], [])) (fnX12_advance v0) := by
  unfold fnX12_advance
  exact slX12_advance_L0 C 4096 v0 hv0
theorem cnX12_advance (ω : sm_O) (v0 : Nat) (hv0 : kd v0 = 12) : sm_Mt 2 yX12_advance cX12_advance 2 none ω [.ref (ω.1 + v0)] (fun _ => none) (fnX12_advance v0) := by
  refine sm_conV (by decide) (Nat.le_of_ble_eq_true rfl) ?_
  intro κ hκ C
  subst hκ
  exact slX12_advance C v0 hv0
def fnX12_setStone (v0 : Nat) (v1 : Int32) (v2 : Int32) (v3 : Int32) : sm_M Unit := m_sai (lk v0 1) (((10 : Int32) + ((7 : Int32) * v1)) + v2) v3 <| m_ret ()
set_option maxHeartbeats 4000000 in
set_option maxRecDepth 100000 in
theorem slX12_setStone {κ : sm_X} (C : sm_C κ RX12 cX12_setStone 4 1) (v0 : Nat) (v1 : Int32) (v2 : Int32) (v3 : Int32) (hv0 : kd v0 = 12) : sm_S κ (fun _ : Unit => .inr none) (.inl (0, [some (xad κ v0), some (.int v1), some (.int v2), some (.int v3)], [])) (fnX12_setStone v0 v1 v2 v3) := by
  unfold fnX12_setStone
  refine sr_aload_n (i := 0) (q := 1) C (show decode cX12_setStone 0 = .ok (.aload_n 0, 1) from by decide +kernel) rfl rfl rfl ?_
  refine sr_getr (q := 4) C fl_X12_9 hv0 (show decode cX12_setStone 1 = .ok (.getfield 9, 3) from by decide +kernel) rfl ?_
  refine sr_bipush (v := (10 : Int32)) (q := 6) C (show decode cX12_setStone 4 = .ok (.bipush 10, 2) from by decide +kernel) (by decide) rfl ?_
  refine sr_bipush (v := (7 : Int32)) (q := 8) C (show decode cX12_setStone 6 = .ok (.bipush 7, 2) from by decide +kernel) (by decide) rfl ?_
  refine sr_iload_n (i := 1) (q := 9) C (show decode cX12_setStone 8 = .ok (.iload_n 1, 1) from by decide +kernel) rfl rfl rfl ?_
  refine sr_imul (q := 10) C (show decode cX12_setStone 9 = .ok (.imul, 1) from by decide +kernel) rfl ?_
  refine sr_iadd (q := 11) C (show decode cX12_setStone 10 = .ok (.iadd, 1) from by decide +kernel) rfl ?_
  refine sr_iload_n (i := 2) (q := 12) C (show decode cX12_setStone 11 = .ok (.iload_n 2, 1) from by decide +kernel) rfl rfl rfl ?_
  refine sr_iadd (q := 13) C (show decode cX12_setStone 12 = .ok (.iadd, 1) from by decide +kernel) rfl ?_
  refine sr_iload_n (i := 3) (q := 14) C (show decode cX12_setStone 13 = .ok (.iload_n 3, 1) from by decide +kernel) rfl rfl rfl ?_
  refine sr_iastore (q := 15) C (kt hv0 kp_12_1) (show decode cX12_setStone 14 = .ok (.iastore, 1) from by decide +kernel) rfl ?_
  exact sr_vreturn C _ rfl (show decode cX12_setStone 15 = .ok (.return_, 1) from by decide +kernel)
theorem cnX12_setStone (ω : sm_O) (v0 : Nat) (v1 : Int32) (v2 : Int32) (v3 : Int32) (hv0 : kd v0 = 12) : sm_Mt 1 yX12_setStone cX12_setStone 4 none ω [.ref (ω.1 + v0), .int v1, .int v2, .int v3] (fun _ => none) (fnX12_setStone v0 v1 v2 v3) := by
  refine sm_conV (by decide) (Nat.le_of_ble_eq_true rfl) ?_
  intro κ hκ C
  subst hκ
  exact slX12_setStone C v0 v1 v2 v3 hv0
def fnX12_bears (v0 : Nat) (v1 : Int32) (v2 : Int32) : sm_M Unit := m_bnd (fnX12_ofStone v0 v1 (6 : Int32)) fun x8 => m_bnd (fnX12_setStone v0 v1 (6 : Int32) (x8 + v2)) fun _ => m_ret ()
set_option maxHeartbeats 4000000 in
set_option maxRecDepth 100000 in
theorem slX12_bears {κ : sm_X} (C : sm_C κ RX12 cX12_bears 3 2) (v0 : Nat) (v1 : Int32) (v2 : Int32) (hv0 : kd v0 = 12) : sm_S κ (fun _ : Unit => .inr none) (.inl (0, [some (xad κ v0), some (.int v1), some (.int v2)], [])) (fnX12_bears v0 v1 v2) := by
  unfold fnX12_bears
  refine sr_aload_n (i := 0) (q := 1) C (show decode cX12_bears 0 = .ok (.aload_n 0, 1) from by decide +kernel) rfl rfl rfl ?_
  refine sr_iload_n (i := 1) (q := 2) C (show decode cX12_bears 1 = .ok (.iload_n 1, 1) from by decide +kernel) rfl rfl rfl ?_
  refine sr_bipush (v := (6 : Int32)) (q := 4) C (show decode cX12_bears 2 = .ok (.bipush 6, 2) from by decide +kernel) (by decide) rfl ?_
  refine sr_aload_n (i := 0) (q := 5) C (show decode cX12_bears 4 = .ok (.aload_n 0, 1) from by decide +kernel) rfl rfl rfl ?_
  refine sr_iload_n (i := 1) (q := 6) C (show decode cX12_bears 5 = .ok (.iload_n 1, 1) from by decide +kernel) rfl rfl rfl ?_
  refine sr_bipush (v := (6 : Int32)) (q := 8) C (show decode cX12_bears 6 = .ok (.bipush 6, 2) from by decide +kernel) (by decide) rfl ?_
  refine sr_cVi (As := [.int v1, .int (6 : Int32)]) (st := [.int (6 : Int32), .int v1, xad κ v0]) (b := v0) (q := 11) C yvX12_ofStone ml_X12_239 (cnX12_ofStone (xo κ) v0 v1 (6 : Int32) hv0) hv0 (by decide) rfl rfl rfl (by decide) (by decide) (Nat.le_of_ble_eq_true rfl) rfl (show decode cX12_bears 8 = .ok (.invokevirtual 239, 3) from by decide +kernel) rfl (fun x8 => ?_)
  refine sr_iload_n (i := 2) (q := 12) C (show decode cX12_bears 11 = .ok (.iload_n 2, 1) from by decide +kernel) rfl rfl rfl ?_
  refine sr_iadd (q := 13) C (show decode cX12_bears 12 = .ok (.iadd, 1) from by decide +kernel) rfl ?_
  refine sr_cVv (As := [.int v1, .int (6 : Int32), .int (x8 + v2)]) (st := []) (b := v0) (q := 16) C yvX12_setStone ml_X12_279 (cnX12_setStone (xo κ) v0 v1 (6 : Int32) (x8 + v2) hv0) hv0 (by decide) rfl rfl rfl (by decide) (by decide) (Nat.le_of_ble_eq_true rfl) rfl (show decode cX12_bears 13 = .ok (.invokevirtual 279, 3) from by decide +kernel) rfl (fun _ => ?_)
  exact sr_vreturn C _ rfl (show decode cX12_bears 16 = .ok (.return_, 1) from by decide +kernel)
theorem cnX12_bears (ω : sm_O) (v0 : Nat) (v1 : Int32) (v2 : Int32) (hv0 : kd v0 = 12) : sm_Mt 2 yX12_bears cX12_bears 3 none ω [.ref (ω.1 + v0), .int v1, .int v2] (fun _ => none) (fnX12_bears v0 v1 v2) := by
  refine sm_conV (by decide) (Nat.le_of_ble_eq_true rfl) ?_
  intro κ hκ C
  subst hκ
  exact slX12_bears C v0 v1 v2 hv0
def fnX12_bearsNow (v0 : Nat) (v1 : Int32) : sm_M Int32 := m_bnd (fnX12_ofStone v0 v1 (5 : Int32)) fun x3 => m_br (x3 = (2 : Int32))
    (m_ret (1 : Int32))
    (m_bnd (fnX12_ofStone v0 v1 (2 : Int32)) fun x17 => m_ret x17)
set_option maxHeartbeats 4000000 in
set_option maxRecDepth 100000 in
theorem slX12_bearsNow {κ : sm_X} (C : sm_C κ RX12 cX12_bearsNow 2 2) (v0 : Nat) (v1 : Int32) (hv0 : kd v0 = 12) : sm_S κ (fun r : Int32 => .inr (some (.int r))) (.inl (0, [some (xad κ v0), some (.int v1)], [])) (fnX12_bearsNow v0 v1) := by
  unfold fnX12_bearsNow
  refine sr_aload_n (i := 0) (q := 1) C (show decode cX12_bearsNow 0 = .ok (.aload_n 0, 1) from by decide +kernel) rfl rfl rfl ?_
  refine sr_iload_n (i := 1) (q := 2) C (show decode cX12_bearsNow 1 = .ok (.iload_n 1, 1) from by decide +kernel) rfl rfl rfl ?_
  refine sr_iconst (v := (5 : Int32)) (q := 3) C (show decode cX12_bearsNow 2 = .ok (.iconst 5, 1) from by decide +kernel) (by decide) rfl ?_
  refine sr_cVi (As := [.int v1, .int (5 : Int32)]) (st := []) (b := v0) (q := 6) C yvX12_ofStone ml_X12_239 (cnX12_ofStone (xo κ) v0 v1 (5 : Int32) hv0) hv0 (by decide) rfl rfl rfl (by decide) (by decide) (Nat.le_of_ble_eq_true rfl) rfl (show decode cX12_bearsNow 3 = .ok (.invokevirtual 239, 3) from by decide +kernel) rfl (fun x3 => ?_)
  refine sr_iconst (v := (2 : Int32)) (q := 7) C (show decode cX12_bearsNow 6 = .ok (.iconst 2, 1) from by decide +kernel) (by decide) rfl ?_
  refine sr_icmp_ne (q := 10) C 14 (show decode cX12_bearsNow 7 = .ok (.if_icmp .ne 7, 3) from by decide +kernel) (by decide) rfl ?_ ?_
  · refine sr_aload_n (i := 0) (q := 15) C (show decode cX12_bearsNow 14 = .ok (.aload_n 0, 1) from by decide +kernel) rfl rfl rfl ?_
    refine sr_iload_n (i := 1) (q := 16) C (show decode cX12_bearsNow 15 = .ok (.iload_n 1, 1) from by decide +kernel) rfl rfl rfl ?_
    refine sr_iconst (v := (2 : Int32)) (q := 17) C (show decode cX12_bearsNow 16 = .ok (.iconst 2, 1) from by decide +kernel) (by decide) rfl ?_
    refine sr_cVi (As := [.int v1, .int (2 : Int32)]) (st := []) (b := v0) (q := 20) C yvX12_ofStone ml_X12_239 (cnX12_ofStone (xo κ) v0 v1 (2 : Int32) hv0) hv0 (by decide) rfl rfl rfl (by decide) (by decide) (Nat.le_of_ble_eq_true rfl) rfl (show decode cX12_bearsNow 17 = .ok (.invokevirtual 239, 3) from by decide +kernel) rfl (fun x17 => ?_)
    exact sr_ireturn C _ rfl (show decode cX12_bearsNow 20 = .ok (.ireturn, 1) from by decide +kernel)
  · refine sr_iconst (v := (1 : Int32)) (q := 11) C (show decode cX12_bearsNow 10 = .ok (.iconst 1, 1) from by decide +kernel) (by decide) rfl ?_
    refine sr_goto (q := 20) C (show decode cX12_bearsNow 11 = .ok (.goto 9, 3) from by decide +kernel) (by decide) ?_
    exact sr_ireturn C _ rfl (show decode cX12_bearsNow 20 = .ok (.ireturn, 1) from by decide +kernel)
theorem cnX12_bearsNow (ω : sm_O) (v0 : Nat) (v1 : Int32) (hv0 : kd v0 = 12) : sm_Mt 2 yX12_bearsNow cX12_bearsNow 2 (some .int) ω [.ref (ω.1 + v0), .int v1] (fun a => some (.int a)) (fnX12_bearsNow v0 v1) := by
  refine sm_conI (r := fun a => a) (by decide) (fun _ => rfl) (Nat.le_of_ble_eq_true rfl) ?_
  intro κ hκ C
  subst hκ
  exact slX12_bearsNow C v0 v1 hv0
def fnX12_left_J30 (v0 : Nat) (v1 : Int32) (s0 : Int32) : sm_M Int32 := m_br (s0 = 0)
    (m_bnd (fnX12_bearsNow v0 v1) fun x42 => m_bnd (fnX12_ofStone v0 v1 (6 : Int32)) fun x49 => m_ret (jmax (0 : Int32) (x42 - x49)))
    (m_ret (0 : Int32))
set_option maxHeartbeats 4000000 in
set_option maxRecDepth 100000 in
theorem slX12_left_J30 {κ : sm_X} (C : sm_C κ RX12 cX12_left 3 3) (v0 : Nat) (v1 : Int32) (s0 : Int32) (hv0 : kd v0 = 12) : sm_S κ (fun r : Int32 => .inr (some (.int r))) (.inl (30, [some (xad κ v0), some (.int v1), none], [.int s0])) (fnX12_left_J30 v0 v1 s0) := by
  unfold fnX12_left_J30
  refine sr_istore_n (i := 2) (L' := [some (xad κ v0), some (.int v1), some (.int s0)]) (q := 31) C (show decode cX12_left 30 = .ok (.istore_n 2, 1) from by decide +kernel) rfl (by decide) rfl rfl ?_
  refine sr_iload_n (i := 2) (q := 32) C (show decode cX12_left 31 = .ok (.iload_n 2, 1) from by decide +kernel) rfl rfl rfl ?_
  refine sr_if_eq (q := 35) C 39 (show decode cX12_left 32 = .ok (.ifCond .eq 7, 3) from by decide +kernel) (by decide) rfl ?_ ?_
  · refine sr_iconst (v := (0 : Int32)) (q := 40) C (show decode cX12_left 39 = .ok (.iconst 0, 1) from by decide +kernel) (by decide) rfl ?_
    refine sr_aload_n (i := 0) (q := 41) C (show decode cX12_left 40 = .ok (.aload_n 0, 1) from by decide +kernel) rfl rfl rfl ?_
    refine sr_iload_n (i := 1) (q := 42) C (show decode cX12_left 41 = .ok (.iload_n 1, 1) from by decide +kernel) rfl rfl rfl ?_
    refine sr_cVi (As := [.int v1]) (st := [.int (0 : Int32)]) (b := v0) (q := 45) C yvX12_bearsNow ml_X12_242 (cnX12_bearsNow (xo κ) v0 v1 hv0) hv0 (by decide) rfl rfl rfl (by decide) (by decide) (Nat.le_of_ble_eq_true rfl) rfl (show decode cX12_left 42 = .ok (.invokevirtual 242, 3) from by decide +kernel) rfl (fun x42 => ?_)
    refine sr_aload_n (i := 0) (q := 46) C (show decode cX12_left 45 = .ok (.aload_n 0, 1) from by decide +kernel) rfl rfl rfl ?_
    refine sr_iload_n (i := 1) (q := 47) C (show decode cX12_left 46 = .ok (.iload_n 1, 1) from by decide +kernel) rfl rfl rfl ?_
    refine sr_bipush (v := (6 : Int32)) (q := 49) C (show decode cX12_left 47 = .ok (.bipush 6, 2) from by decide +kernel) (by decide) rfl ?_
    refine sr_cVi (As := [.int v1, .int (6 : Int32)]) (st := [.int x42, .int (0 : Int32)]) (b := v0) (q := 52) C yvX12_ofStone ml_X12_239 (cnX12_ofStone (xo κ) v0 v1 (6 : Int32) hv0) hv0 (by decide) rfl rfl rfl (by decide) (by decide) (Nat.le_of_ble_eq_true rfl) rfl (show decode cX12_left 49 = .ok (.invokevirtual 239, 3) from by decide +kernel) rfl (fun x49 => ?_)
    refine sr_isub (q := 53) C (show decode cX12_left 52 = .ok (.isub, 1) from by decide +kernel) rfl ?_
    refine sr_jmax (st := []) (q := 56) C ml_X12_245 (by decide) (Nat.le_of_ble_eq_true rfl) (show decode cX12_left 53 = .ok (.invokestatic 245, 3) from by decide +kernel) rfl ?_
    exact sr_ireturn C _ rfl (show decode cX12_left 56 = .ok (.ireturn, 1) from by decide +kernel)
  · refine sr_iconst (v := (0 : Int32)) (q := 36) C (show decode cX12_left 35 = .ok (.iconst 0, 1) from by decide +kernel) (by decide) rfl ?_
    refine sr_goto (q := 56) C (show decode cX12_left 36 = .ok (.goto 20, 3) from by decide +kernel) (by decide) ?_
    exact sr_ireturn C _ rfl (show decode cX12_left 56 = .ok (.ireturn, 1) from by decide +kernel)
def fnX12_left_J29 (v0 : Nat) (v1 : Int32) : sm_M Int32 := fnX12_left_J30 v0 v1 (0 : Int32)
set_option maxHeartbeats 4000000 in
set_option maxRecDepth 100000 in
theorem slX12_left_J29 {κ : sm_X} (C : sm_C κ RX12 cX12_left 3 3) (v0 : Nat) (v1 : Int32) (hv0 : kd v0 = 12) : sm_S κ (fun r : Int32 => .inr (some (.int r))) (.inl (29, [some (xad κ v0), some (.int v1), none], [])) (fnX12_left_J29 v0 v1) := by
  unfold fnX12_left_J29
  refine sr_iconst (v := (0 : Int32)) (q := 30) C (show decode cX12_left 29 = .ok (.iconst 0, 1) from by decide +kernel) (by decide) rfl ?_
  exact slX12_left_J30 C v0 v1 (0 : Int32) hv0
def fnX12_left (v0 : Nat) (v1 : Int32) : sm_M Int32 := m_bnd (fnX12_ofStone v0 v1 (3 : Int32)) fun x3 => m_br (x3 ≤ 0)
    (fnX12_left_J29 v0 v1)
    (m_ai (lk v0 1) (7 : Int32) fun x15 => m_bnd (fnX12_ofStone v0 v1 (3 : Int32)) fun x19 => m_br (x15 < x19)
    (fnX12_left_J29 v0 v1)
    (fnX12_left_J30 v0 v1 (1 : Int32)))
set_option maxHeartbeats 4000000 in
set_option maxRecDepth 100000 in
theorem slX12_left {κ : sm_X} (C : sm_C κ RX12 cX12_left 3 3) (v0 : Nat) (v1 : Int32) (hv0 : kd v0 = 12) : sm_S κ (fun r : Int32 => .inr (some (.int r))) (.inl (0, [some (xad κ v0), some (.int v1), none], [])) (fnX12_left v0 v1) := by
  unfold fnX12_left
  refine sr_aload_n (i := 0) (q := 1) C (show decode cX12_left 0 = .ok (.aload_n 0, 1) from by decide +kernel) rfl rfl rfl ?_
  refine sr_iload_n (i := 1) (q := 2) C (show decode cX12_left 1 = .ok (.iload_n 1, 1) from by decide +kernel) rfl rfl rfl ?_
  refine sr_iconst (v := (3 : Int32)) (q := 3) C (show decode cX12_left 2 = .ok (.iconst 3, 1) from by decide +kernel) (by decide) rfl ?_
  refine sr_cVi (As := [.int v1, .int (3 : Int32)]) (st := []) (b := v0) (q := 6) C yvX12_ofStone ml_X12_239 (cnX12_ofStone (xo κ) v0 v1 (3 : Int32) hv0) hv0 (by decide) rfl rfl rfl (by decide) (by decide) (Nat.le_of_ble_eq_true rfl) rfl (show decode cX12_left 3 = .ok (.invokevirtual 239, 3) from by decide +kernel) rfl (fun x3 => ?_)
  refine sr_if_le (q := 9) C 29 (show decode cX12_left 6 = .ok (.ifCond .le 23, 3) from by decide +kernel) (by decide) rfl ?_ ?_
  · exact slX12_left_J29 C v0 v1 hv0
  · refine sr_aload_n (i := 0) (q := 10) C (show decode cX12_left 9 = .ok (.aload_n 0, 1) from by decide +kernel) rfl rfl rfl ?_
    refine sr_getr (q := 13) C fl_X12_9 hv0 (show decode cX12_left 10 = .ok (.getfield 9, 3) from by decide +kernel) rfl ?_
    refine sr_bipush (v := (7 : Int32)) (q := 15) C (show decode cX12_left 13 = .ok (.bipush 7, 2) from by decide +kernel) (by decide) rfl ?_
    refine sr_iaload (q := 16) C (kt hv0 kp_12_1) (show decode cX12_left 15 = .ok (.iaload, 1) from by decide +kernel) rfl (fun x15 => ?_)
    refine sr_aload_n (i := 0) (q := 17) C (show decode cX12_left 16 = .ok (.aload_n 0, 1) from by decide +kernel) rfl rfl rfl ?_
    refine sr_iload_n (i := 1) (q := 18) C (show decode cX12_left 17 = .ok (.iload_n 1, 1) from by decide +kernel) rfl rfl rfl ?_
    refine sr_iconst (v := (3 : Int32)) (q := 19) C (show decode cX12_left 18 = .ok (.iconst 3, 1) from by decide +kernel) (by decide) rfl ?_
    refine sr_cVi (As := [.int v1, .int (3 : Int32)]) (st := [.int x15]) (b := v0) (q := 22) C yvX12_ofStone ml_X12_239 (cnX12_ofStone (xo κ) v0 v1 (3 : Int32) hv0) hv0 (by decide) rfl rfl rfl (by decide) (by decide) (Nat.le_of_ble_eq_true rfl) rfl (show decode cX12_left 19 = .ok (.invokevirtual 239, 3) from by decide +kernel) rfl (fun x19 => ?_)
    refine sr_icmp_lt (q := 25) C 29 (show decode cX12_left 22 = .ok (.if_icmp .lt 7, 3) from by decide +kernel) (by decide) rfl ?_ ?_
    · exact slX12_left_J29 C v0 v1 hv0
    · refine sr_iconst (v := (1 : Int32)) (q := 26) C (show decode cX12_left 25 = .ok (.iconst 1, 1) from by decide +kernel) (by decide) rfl ?_
      refine sr_goto (q := 30) C (show decode cX12_left 26 = .ok (.goto 4, 3) from by decide +kernel) (by decide) ?_
      exact slX12_left_J30 C v0 v1 (1 : Int32) hv0
theorem cnX12_left (ω : sm_O) (v0 : Nat) (v1 : Int32) (hv0 : kd v0 = 12) : sm_Mt 3 yX12_left cX12_left 3 (some .int) ω [.ref (ω.1 + v0), .int v1] (fun a => some (.int a)) (fnX12_left v0 v1) := by
  refine sm_conI (r := fun a => a) (by decide) (fun _ => rfl) (Nat.le_of_ble_eq_true rfl) ?_
  intro κ hκ C
  subst hκ
  exact slX12_left C v0 v1 hv0
def fnX12_of (v0 : Nat) (v1 : Int32) (v2 : Int32) : sm_M Int32 := m_ai (lk v0 1) (((185 : Int32) + ((7 : Int32) * v1)) + v2) fun x14 => m_ret x14
set_option maxHeartbeats 4000000 in
set_option maxRecDepth 100000 in
theorem slX12_of {κ : sm_X} (C : sm_C κ RX12 cX12_of 3 1) (v0 : Nat) (v1 : Int32) (v2 : Int32) (hv0 : kd v0 = 12) : sm_S κ (fun r : Int32 => .inr (some (.int r))) (.inl (0, [some (xad κ v0), some (.int v1), some (.int v2)], [])) (fnX12_of v0 v1 v2) := by
  unfold fnX12_of
  refine sr_aload_n (i := 0) (q := 1) C (show decode cX12_of 0 = .ok (.aload_n 0, 1) from by decide +kernel) rfl rfl rfl ?_
  refine sr_getr (q := 4) C fl_X12_9 hv0 (show decode cX12_of 1 = .ok (.getfield 9, 3) from by decide +kernel) rfl ?_
  refine sr_sipush (v := (185 : Int32)) (q := 7) C (show decode cX12_of 4 = .ok (.sipush 185, 3) from by decide +kernel) (by decide) rfl ?_
  refine sr_bipush (v := (7 : Int32)) (q := 9) C (show decode cX12_of 7 = .ok (.bipush 7, 2) from by decide +kernel) (by decide) rfl ?_
  refine sr_iload_n (i := 1) (q := 10) C (show decode cX12_of 9 = .ok (.iload_n 1, 1) from by decide +kernel) rfl rfl rfl ?_
  refine sr_imul (q := 11) C (show decode cX12_of 10 = .ok (.imul, 1) from by decide +kernel) rfl ?_
  refine sr_iadd (q := 12) C (show decode cX12_of 11 = .ok (.iadd, 1) from by decide +kernel) rfl ?_
  refine sr_iload_n (i := 2) (q := 13) C (show decode cX12_of 12 = .ok (.iload_n 2, 1) from by decide +kernel) rfl rfl rfl ?_
  refine sr_iadd (q := 14) C (show decode cX12_of 13 = .ok (.iadd, 1) from by decide +kernel) rfl ?_
  refine sr_iaload (q := 15) C (kt hv0 kp_12_1) (show decode cX12_of 14 = .ok (.iaload, 1) from by decide +kernel) rfl (fun x14 => ?_)
  exact sr_ireturn C _ rfl (show decode cX12_of 15 = .ok (.ireturn, 1) from by decide +kernel)
theorem cnX12_of (ω : sm_O) (v0 : Nat) (v1 : Int32) (v2 : Int32) (hv0 : kd v0 = 12) : sm_Mt 1 yX12_of cX12_of 3 (some .int) ω [.ref (ω.1 + v0), .int v1, .int v2] (fun a => some (.int a)) (fnX12_of v0 v1 v2) := by
  refine sm_conI (r := fun a => a) (by decide) (fun _ => rfl) (Nat.le_of_ble_eq_true rfl) ?_
  intro κ hκ C
  subst hκ
  exact slX12_of C v0 v1 v2 hv0
def fnX12_squares_J41 (v3 : Int32) (s0 : Int32) : sm_M Int32 := m_ret ((s0 * s0) + (v3 * v3))
set_option maxHeartbeats 4000000 in
set_option maxRecDepth 100000 in
theorem slX12_squares_J41 {κ : sm_X} (C : sm_C κ RX12 cX12_squares 5 3) (v3 : Int32) (s0 : Int32)  : sm_S κ (fun r : Int32 => .inr (some (.int r))) (.inl (41, [none, none, none, some (.int v3), none], [.int s0])) (fnX12_squares_J41 v3 s0) := by
  unfold fnX12_squares_J41
  refine sr_istore (i := 4) (L' := [none, none, none, some (.int v3), some (.int s0)]) (q := 43) C (show decode cX12_squares 41 = .ok (.istore 4, 2) from by decide +kernel) (by decide) rfl rfl ?_
  refine sr_iload (i := 4) (q := 45) C (show decode cX12_squares 43 = .ok (.iload 4, 2) from by decide +kernel) rfl rfl ?_
  refine sr_iload (i := 4) (q := 47) C (show decode cX12_squares 45 = .ok (.iload 4, 2) from by decide +kernel) rfl rfl ?_
  refine sr_imul (q := 48) C (show decode cX12_squares 47 = .ok (.imul, 1) from by decide +kernel) rfl ?_
  refine sr_iload_n (i := 3) (q := 49) C (show decode cX12_squares 48 = .ok (.iload_n 3, 1) from by decide +kernel) rfl rfl rfl ?_
  refine sr_iload_n (i := 3) (q := 50) C (show decode cX12_squares 49 = .ok (.iload_n 3, 1) from by decide +kernel) rfl rfl rfl ?_
  refine sr_imul (q := 51) C (show decode cX12_squares 50 = .ok (.imul, 1) from by decide +kernel) rfl ?_
  refine sr_iadd (q := 52) C (show decode cX12_squares 51 = .ok (.iadd, 1) from by decide +kernel) rfl ?_
  exact sr_ireturn C _ rfl (show decode cX12_squares 52 = .ok (.ireturn, 1) from by decide +kernel)
def fnX12_squares_J24 (v3 : Int32) : sm_M Int32 := fnX12_squares_J41 v3 (0 : Int32)
set_option maxHeartbeats 4000000 in
set_option maxRecDepth 100000 in
theorem slX12_squares_J24 {κ : sm_X} (C : sm_C κ RX12 cX12_squares 5 3) (v3 : Int32)  : sm_S κ (fun r : Int32 => .inr (some (.int r))) (.inl (24, [none, none, none, some (.int v3), none], [])) (fnX12_squares_J24 v3) := by
  unfold fnX12_squares_J24
  refine sr_iconst (v := (0 : Int32)) (q := 25) C (show decode cX12_squares 24 = .ok (.iconst 0, 1) from by decide +kernel) (by decide) rfl ?_
  refine sr_goto (q := 41) C (show decode cX12_squares 25 = .ok (.goto 16, 3) from by decide +kernel) (by decide) ?_
  exact slX12_squares_J41 C v3 (0 : Int32)
def fnX12_squares (v0 : Nat) (v1 : Int32) (v2 : Int32) : sm_M Int32 := m_bnd (fnX12_acrossOf v0 v1) fun x2 => m_bnd (fnX12_acrossOf v0 v2) fun x7 => m_nm (x2 - x7) fun y11 => m_br ((98 : Int32) ≤ v1)
    (fnX12_squares_J24 y11)
    (m_br (v2 < (98 : Int32))
    (m_bnd (fnX12_ofStone v0 v1 (0 : Int32)) fun x31 => m_bnd (fnX12_ofStone v0 v2 (0 : Int32)) fun x37 => fnX12_squares_J41 y11 (x31 - x37))
    (fnX12_squares_J24 y11))
set_option maxHeartbeats 4000000 in
set_option maxRecDepth 100000 in
theorem slX12_squares {κ : sm_X} (C : sm_C κ RX12 cX12_squares 5 3) (v0 : Nat) (v1 : Int32) (v2 : Int32) (hv0 : kd v0 = 12) : sm_S κ (fun r : Int32 => .inr (some (.int r))) (.inl (0, [some (xad κ v0), some (.int v1), some (.int v2), none, none], [])) (fnX12_squares v0 v1 v2) := by
  unfold fnX12_squares
  refine sr_aload_n (i := 0) (q := 1) C (show decode cX12_squares 0 = .ok (.aload_n 0, 1) from by decide +kernel) rfl rfl rfl ?_
  refine sr_iload_n (i := 1) (q := 2) C (show decode cX12_squares 1 = .ok (.iload_n 1, 1) from by decide +kernel) rfl rfl rfl ?_
  refine sr_cVi (As := [.int v1]) (st := []) (b := v0) (q := 5) C yvX12_acrossOf ml_X12_256 (cnX12_acrossOf (xo κ) v0 v1 hv0) hv0 (by decide) rfl rfl rfl (by decide) (by decide) (Nat.le_of_ble_eq_true rfl) rfl (show decode cX12_squares 2 = .ok (.invokevirtual 256, 3) from by decide +kernel) rfl (fun x2 => ?_)
  refine sr_aload_n (i := 0) (q := 6) C (show decode cX12_squares 5 = .ok (.aload_n 0, 1) from by decide +kernel) rfl rfl rfl ?_
  refine sr_iload_n (i := 2) (q := 7) C (show decode cX12_squares 6 = .ok (.iload_n 2, 1) from by decide +kernel) rfl rfl rfl ?_
  refine sr_cVi (As := [.int v2]) (st := [.int x2]) (b := v0) (q := 10) C yvX12_acrossOf ml_X12_256 (cnX12_acrossOf (xo κ) v0 v2 hv0) hv0 (by decide) rfl rfl rfl (by decide) (by decide) (Nat.le_of_ble_eq_true rfl) rfl (show decode cX12_squares 7 = .ok (.invokevirtual 256, 3) from by decide +kernel) rfl (fun x7 => ?_)
  refine sr_isub (q := 11) C (show decode cX12_squares 10 = .ok (.isub, 1) from by decide +kernel) rfl ?_
  refine sr_nmi (fun y11 => ?_)
  refine sr_istore_n (i := 3) (L' := [some (xad κ v0), some (.int v1), some (.int v2), some (.int y11), none]) (q := 12) C (show decode cX12_squares 11 = .ok (.istore_n 3, 1) from by decide +kernel) rfl (by decide) rfl rfl ?_
  refine sr_iload_n (i := 1) (q := 13) C (show decode cX12_squares 12 = .ok (.iload_n 1, 1) from by decide +kernel) rfl rfl rfl ?_
  refine sr_bipush (v := (98 : Int32)) (q := 15) C (show decode cX12_squares 13 = .ok (.bipush 98, 2) from by decide +kernel) (by decide) rfl ?_
  refine sr_icmp_ge (q := 18) C 24 (show decode cX12_squares 15 = .ok (.if_icmp .ge 9, 3) from by decide +kernel) (by decide) rfl ?_ ?_
  · refine sr_weak (L' := [none, none, none, some (.int y11), none]) ⟨rfl, trivial⟩ ?_
    exact slX12_squares_J24 C y11
  · refine sr_iload_n (i := 2) (q := 19) C (show decode cX12_squares 18 = .ok (.iload_n 2, 1) from by decide +kernel) rfl rfl rfl ?_
    refine sr_bipush (v := (98 : Int32)) (q := 21) C (show decode cX12_squares 19 = .ok (.bipush 98, 2) from by decide +kernel) (by decide) rfl ?_
    refine sr_icmp_lt (q := 24) C 28 (show decode cX12_squares 21 = .ok (.if_icmp .lt 7, 3) from by decide +kernel) (by decide) rfl ?_ ?_
    · refine sr_aload_n (i := 0) (q := 29) C (show decode cX12_squares 28 = .ok (.aload_n 0, 1) from by decide +kernel) rfl rfl rfl ?_
      refine sr_iload_n (i := 1) (q := 30) C (show decode cX12_squares 29 = .ok (.iload_n 1, 1) from by decide +kernel) rfl rfl rfl ?_
      refine sr_iconst (v := (0 : Int32)) (q := 31) C (show decode cX12_squares 30 = .ok (.iconst 0, 1) from by decide +kernel) (by decide) rfl ?_
      refine sr_cVi (As := [.int v1, .int (0 : Int32)]) (st := []) (b := v0) (q := 34) C yvX12_ofStone ml_X12_239 (cnX12_ofStone (xo κ) v0 v1 (0 : Int32) hv0) hv0 (by decide) rfl rfl rfl (by decide) (by decide) (Nat.le_of_ble_eq_true rfl) rfl (show decode cX12_squares 31 = .ok (.invokevirtual 239, 3) from by decide +kernel) rfl (fun x31 => ?_)
      refine sr_aload_n (i := 0) (q := 35) C (show decode cX12_squares 34 = .ok (.aload_n 0, 1) from by decide +kernel) rfl rfl rfl ?_
      refine sr_iload_n (i := 2) (q := 36) C (show decode cX12_squares 35 = .ok (.iload_n 2, 1) from by decide +kernel) rfl rfl rfl ?_
      refine sr_iconst (v := (0 : Int32)) (q := 37) C (show decode cX12_squares 36 = .ok (.iconst 0, 1) from by decide +kernel) (by decide) rfl ?_
      refine sr_cVi (As := [.int v2, .int (0 : Int32)]) (st := [.int x31]) (b := v0) (q := 40) C yvX12_ofStone ml_X12_239 (cnX12_ofStone (xo κ) v0 v2 (0 : Int32) hv0) hv0 (by decide) rfl rfl rfl (by decide) (by decide) (Nat.le_of_ble_eq_true rfl) rfl (show decode cX12_squares 37 = .ok (.invokevirtual 239, 3) from by decide +kernel) rfl (fun x37 => ?_)
      refine sr_isub (q := 41) C (show decode cX12_squares 40 = .ok (.isub, 1) from by decide +kernel) rfl ?_
      refine sr_weak (L' := [none, none, none, some (.int y11), none]) ⟨rfl, trivial⟩ ?_
      exact slX12_squares_J41 C y11 (x31 - x37)
    · refine sr_weak (L' := [none, none, none, some (.int y11), none]) ⟨rfl, trivial⟩ ?_
      exact slX12_squares_J24 C y11
theorem cnX12_squares (ω : sm_O) (v0 : Nat) (v1 : Int32) (v2 : Int32) (hv0 : kd v0 = 12) : sm_Mt 3 yX12_squares cX12_squares 5 (some .int) ω [.ref (ω.1 + v0), .int v1, .int v2] (fun a => some (.int a)) (fnX12_squares v0 v1 v2) := by
  refine sm_conI (r := fun a => a) (by decide) (fun _ => rfl) (Nat.le_of_ble_eq_true rfl) ?_
  intro κ hκ C
  subst hκ
  exact slX12_squares C v0 v1 v2 hv0
def fnX12_isStep (v0 : Nat) (v1 : Int32) (v2 : Int32) (v3 : Int32) : sm_M Bool := m_br (v1 = v2)
    (m_ret false)
    (m_bnd (fnX12_squares v0 v1 v2) fun x8 => m_br ((v3 * v3) < x8)
    (m_ret false)
    (m_ret true))
set_option maxHeartbeats 4000000 in
set_option maxRecDepth 100000 in
theorem slX12_isStep {κ : sm_X} (C : sm_C κ RX12 cX12_isStep 4 4) (v0 : Nat) (v1 : Int32) (v2 : Int32) (v3 : Int32) (hv0 : kd v0 = 12) : sm_S κ (fun r : Bool => .inr (some (.int (bI r)))) (.inl (0, [some (xad κ v0), some (.int v1), some (.int v2), some (.int v3)], [])) (fnX12_isStep v0 v1 v2 v3) := by
  unfold fnX12_isStep
  refine sr_iload_n (i := 1) (q := 1) C (show decode cX12_isStep 0 = .ok (.iload_n 1, 1) from by decide +kernel) rfl rfl rfl ?_
  refine sr_iload_n (i := 2) (q := 2) C (show decode cX12_isStep 1 = .ok (.iload_n 2, 1) from by decide +kernel) rfl rfl rfl ?_
  refine sr_icmp_eq (q := 5) C 21 (show decode cX12_isStep 2 = .ok (.if_icmp .eq 19, 3) from by decide +kernel) (by decide) rfl ?_ ?_
  · refine sr_iconst (v := (0 : Int32)) (q := 22) C (show decode cX12_isStep 21 = .ok (.iconst 0, 1) from by decide +kernel) (by decide) rfl ?_
    exact sr_ireturn C false rfl (show decode cX12_isStep 22 = .ok (.ireturn, 1) from by decide +kernel)
  · refine sr_aload_n (i := 0) (q := 6) C (show decode cX12_isStep 5 = .ok (.aload_n 0, 1) from by decide +kernel) rfl rfl rfl ?_
    refine sr_iload_n (i := 1) (q := 7) C (show decode cX12_isStep 6 = .ok (.iload_n 1, 1) from by decide +kernel) rfl rfl rfl ?_
    refine sr_iload_n (i := 2) (q := 8) C (show decode cX12_isStep 7 = .ok (.iload_n 2, 1) from by decide +kernel) rfl rfl rfl ?_
    refine sr_cVi (As := [.int v1, .int v2]) (st := []) (b := v0) (q := 11) C yvX12_squares ml_X12_259 (cnX12_squares (xo κ) v0 v1 v2 hv0) hv0 (by decide) rfl rfl rfl (by decide) (by decide) (Nat.le_of_ble_eq_true rfl) rfl (show decode cX12_isStep 8 = .ok (.invokevirtual 259, 3) from by decide +kernel) rfl (fun x8 => ?_)
    refine sr_iload_n (i := 3) (q := 12) C (show decode cX12_isStep 11 = .ok (.iload_n 3, 1) from by decide +kernel) rfl rfl rfl ?_
    refine sr_iload_n (i := 3) (q := 13) C (show decode cX12_isStep 12 = .ok (.iload_n 3, 1) from by decide +kernel) rfl rfl rfl ?_
    refine sr_imul (q := 14) C (show decode cX12_isStep 13 = .ok (.imul, 1) from by decide +kernel) rfl ?_
    refine sr_icmp_gt (q := 17) C 21 (show decode cX12_isStep 14 = .ok (.if_icmp .gt 7, 3) from by decide +kernel) (by decide) rfl ?_ ?_
    · refine sr_iconst (v := (0 : Int32)) (q := 22) C (show decode cX12_isStep 21 = .ok (.iconst 0, 1) from by decide +kernel) (by decide) rfl ?_
      exact sr_ireturn C false rfl (show decode cX12_isStep 22 = .ok (.ireturn, 1) from by decide +kernel)
    · refine sr_iconst (v := (1 : Int32)) (q := 18) C (show decode cX12_isStep 17 = .ok (.iconst 1, 1) from by decide +kernel) (by decide) rfl ?_
      refine sr_goto (q := 22) C (show decode cX12_isStep 18 = .ok (.goto 4, 3) from by decide +kernel) (by decide) ?_
      exact sr_ireturn C true rfl (show decode cX12_isStep 22 = .ok (.ireturn, 1) from by decide +kernel)
theorem cnX12_isStep (ω : sm_O) (v0 : Nat) (v1 : Int32) (v2 : Int32) (v3 : Int32) (hv0 : kd v0 = 12) : sm_Mt 4 yX12_isStep cX12_isStep 4 (some .boolean) ω [.ref (ω.1 + v0), .int v1, .int v2, .int v3] (fun a => some (.int (bI a))) (fnX12_isStep v0 v1 v2 v3) := by
  refine sm_conI (r := bI) (by decide) bI_nar (Nat.le_of_ble_eq_true rfl) ?_
  intro κ hκ C
  subst hκ
  exact slX12_isStep C v0 v1 v2 v3 hv0
def fnX12_reachOf_J134 (k4 : Nat → Int32 → Int32 → Int32 → sm_M Int32) (v0 : Nat) (v1 : Int32) (v2 : Int32) (v3 : Int32) : sm_M Int32 := k4 v0 v1 v2 v3
set_option maxHeartbeats 4000000 in
set_option maxRecDepth 100000 in
theorem slX12_reachOf_J134 {κ : sm_X} (C : sm_C κ RX12 cX12_reachOf 7 5) {k4 : Nat → Int32 → Int32 → Int32 → sm_M Int32} (K4 : ∀ (v0 : Nat) (v1 : Int32) (v2 : Int32) (v3 : Int32) (hv0 : kd v0 = 12), sm_S κ (fun r : Int32 => .inr (some (.int r))) (.inl (4, [some (xad κ v0), some (.int v1), some (.int v2), some (.int v3), none, none, none], [])) (k4 v0 v1 v2 v3)) (v0 : Nat) (v1 : Int32) (v2 : Int32) (v3 : Int32) (hv0 : kd v0 = 12) : sm_S κ (fun r : Int32 => .inr (some (.int r))) (.inl (134, [some (xad κ v0), some (.int v1), some (.int v2), some (.int v3), none, none, none], [])) (fnX12_reachOf_J134 k4 v0 v1 v2 v3) := by
  unfold fnX12_reachOf_J134
  refine sr_goto (q := 4) C (show decode cX12_reachOf 134 = .ok (.goto (-130), 3) from by decide +kernel) (by decide) ?_
  exact K4 v0 v1 v2 v3 hv0
def fnX12_reachOf_J128 (k4 : Nat → Int32 → Int32 → Int32 → sm_M Int32) (k13 : Nat → Int32 → Int32 → Int32 → Int32 → sm_M Int32) (v0 : Nat) (v1 : Int32) (v2 : Int32) (v3 : Int32) (v4 : Int32) : sm_M Int32 := k13 v0 v1 v2 v3 (v4 + (1 : Int32))
set_option maxHeartbeats 4000000 in
set_option maxRecDepth 100000 in
theorem slX12_reachOf_J128 {κ : sm_X} (C : sm_C κ RX12 cX12_reachOf 7 5) {k4 : Nat → Int32 → Int32 → Int32 → sm_M Int32} (K4 : ∀ (v0 : Nat) (v1 : Int32) (v2 : Int32) (v3 : Int32) (hv0 : kd v0 = 12), sm_S κ (fun r : Int32 => .inr (some (.int r))) (.inl (4, [some (xad κ v0), some (.int v1), some (.int v2), some (.int v3), none, none, none], [])) (k4 v0 v1 v2 v3)) {k13 : Nat → Int32 → Int32 → Int32 → Int32 → sm_M Int32} (K13 : ∀ (v0 : Nat) (v1 : Int32) (v2 : Int32) (v3 : Int32) (v4 : Int32) (hv0 : kd v0 = 12), sm_S κ (fun r : Int32 => .inr (some (.int r))) (.inl (13, [some (xad κ v0), some (.int v1), some (.int v2), some (.int v3), some (.int v4), none, none], [])) (k13 v0 v1 v2 v3 v4)) (v0 : Nat) (v1 : Int32) (v2 : Int32) (v3 : Int32) (v4 : Int32) (hv0 : kd v0 = 12) : sm_S κ (fun r : Int32 => .inr (some (.int r))) (.inl (128, [some (xad κ v0), some (.int v1), some (.int v2), some (.int v3), some (.int v4), none, none], [])) (fnX12_reachOf_J128 k4 k13 v0 v1 v2 v3 v4) := by
  unfold fnX12_reachOf_J128
  refine sr_iinc (v := v4 + (1 : Int32)) (L' := [some (xad κ v0), some (.int v1), some (.int v2), some (.int v3), some (.int (v4 + (1 : Int32))), none, none]) (q := 131) C (show decode cX12_reachOf 128 = .ok (.iinc 4 1, 3) from by decide +kernel) rfl rfl (by decide) rfl rfl ?_
  refine sr_goto (q := 13) C (show decode cX12_reachOf 131 = .ok (.goto (-118), 3) from by decide +kernel) (by decide) ?_
  exact K13 v0 v1 v2 v3 (v4 + (1 : Int32)) hv0
def fnX12_reachOf_J111 (k4 : Nat → Int32 → Int32 → Int32 → sm_M Int32) (k13 : Nat → Int32 → Int32 → Int32 → Int32 → sm_M Int32) (v0 : Nat) (v1 : Int32) (v2 : Int32) (v3 : Int32) (v4 : Int32) (v5 : Int32) : sm_M Int32 := m_br (v5 = 0)
    (fnX12_reachOf_J128 k4 k13 v0 v1 v2 v3 v4)
    (m_nm (v2 ||| ((1 : Int32) <<< (v4 &&& 31))) fun y125 => fnX12_reachOf_J128 k4 k13 v0 v1 y125 (1 : Int32) v4)
set_option maxHeartbeats 4000000 in
set_option maxRecDepth 100000 in
theorem slX12_reachOf_J111 {κ : sm_X} (C : sm_C κ RX12 cX12_reachOf 7 5) {k4 : Nat → Int32 → Int32 → Int32 → sm_M Int32} (K4 : ∀ (v0 : Nat) (v1 : Int32) (v2 : Int32) (v3 : Int32) (hv0 : kd v0 = 12), sm_S κ (fun r : Int32 => .inr (some (.int r))) (.inl (4, [some (xad κ v0), some (.int v1), some (.int v2), some (.int v3), none, none, none], [])) (k4 v0 v1 v2 v3)) {k13 : Nat → Int32 → Int32 → Int32 → Int32 → sm_M Int32} (K13 : ∀ (v0 : Nat) (v1 : Int32) (v2 : Int32) (v3 : Int32) (v4 : Int32) (hv0 : kd v0 = 12), sm_S κ (fun r : Int32 => .inr (some (.int r))) (.inl (13, [some (xad κ v0), some (.int v1), some (.int v2), some (.int v3), some (.int v4), none, none], [])) (k13 v0 v1 v2 v3 v4)) (v0 : Nat) (v1 : Int32) (v2 : Int32) (v3 : Int32) (v4 : Int32) (v5 : Int32) (hv0 : kd v0 = 12) : sm_S κ (fun r : Int32 => .inr (some (.int r))) (.inl (111, [some (xad κ v0), some (.int v1), some (.int v2), some (.int v3), some (.int v4), some (.int v5), none], [])) (fnX12_reachOf_J111 k4 k13 v0 v1 v2 v3 v4 v5) := by
  unfold fnX12_reachOf_J111
  refine sr_iload (i := 5) (q := 113) C (show decode cX12_reachOf 111 = .ok (.iload 5, 2) from by decide +kernel) rfl rfl ?_
  refine sr_if_ne (q := 116) C 119 (show decode cX12_reachOf 113 = .ok (.ifCond .ne 6, 3) from by decide +kernel) (by decide) rfl ?_ ?_
  · refine sr_iload_n (i := 2) (q := 120) C (show decode cX12_reachOf 119 = .ok (.iload_n 2, 1) from by decide +kernel) rfl rfl rfl ?_
    refine sr_iconst (v := (1 : Int32)) (q := 121) C (show decode cX12_reachOf 120 = .ok (.iconst 1, 1) from by decide +kernel) (by decide) rfl ?_
    refine sr_iload (i := 4) (q := 123) C (show decode cX12_reachOf 121 = .ok (.iload 4, 2) from by decide +kernel) rfl rfl ?_
    refine sr_ishl (q := 124) C (show decode cX12_reachOf 123 = .ok (.ishl, 1) from by decide +kernel) rfl ?_
    refine sr_ior (q := 125) C (show decode cX12_reachOf 124 = .ok (.ior, 1) from by decide +kernel) rfl ?_
    refine sr_nmi (fun y125 => ?_)
    refine sr_istore_n (i := 2) (L' := [some (xad κ v0), some (.int v1), some (.int y125), some (.int v3), some (.int v4), some (.int v5), none]) (q := 126) C (show decode cX12_reachOf 125 = .ok (.istore_n 2, 1) from by decide +kernel) rfl (by decide) rfl rfl ?_
    refine sr_iconst (v := (1 : Int32)) (q := 127) C (show decode cX12_reachOf 126 = .ok (.iconst 1, 1) from by decide +kernel) (by decide) rfl ?_
    refine sr_istore_n (i := 3) (L' := [some (xad κ v0), some (.int v1), some (.int y125), some (.int (1 : Int32)), some (.int v4), some (.int v5), none]) (q := 128) C (show decode cX12_reachOf 127 = .ok (.istore_n 3, 1) from by decide +kernel) rfl (by decide) rfl rfl ?_
    refine sr_weak (L' := [some (xad κ v0), some (.int v1), some (.int y125), some (.int (1 : Int32)), some (.int v4), none, none]) ⟨rfl, rfl, rfl, rfl, rfl, trivial⟩ ?_
    exact slX12_reachOf_J128 C K4 K13 v0 v1 y125 (1 : Int32) v4 hv0
  · refine sr_goto (q := 128) C (show decode cX12_reachOf 116 = .ok (.goto 12, 3) from by decide +kernel) (by decide) ?_
    refine sr_weak (L' := [some (xad κ v0), some (.int v1), some (.int v2), some (.int v3), some (.int v4), none, none]) ⟨rfl, rfl, rfl, rfl, rfl, trivial⟩ ?_
    exact slX12_reachOf_J128 C K4 K13 v0 v1 v2 v3 v4 hv0
def fnX12_reachOf_J103 (k4 : Nat → Int32 → Int32 → Int32 → sm_M Int32) (k13 : Nat → Int32 → Int32 → Int32 → Int32 → sm_M Int32) (k60 : Nat → Int32 → Int32 → Int32 → Int32 → Int32 → Int32 → sm_M Int32) (v0 : Nat) (v1 : Int32) (v2 : Int32) (v3 : Int32) (v4 : Int32) (v6 : Int32) (s0 : Int32) : sm_M Int32 := k60 v0 v1 v2 v3 v4 s0 (v6 + (1 : Int32))
set_option maxHeartbeats 4000000 in
set_option maxRecDepth 100000 in
theorem slX12_reachOf_J103 {κ : sm_X} (C : sm_C κ RX12 cX12_reachOf 7 5) {k4 : Nat → Int32 → Int32 → Int32 → sm_M Int32} (K4 : ∀ (v0 : Nat) (v1 : Int32) (v2 : Int32) (v3 : Int32) (hv0 : kd v0 = 12), sm_S κ (fun r : Int32 => .inr (some (.int r))) (.inl (4, [some (xad κ v0), some (.int v1), some (.int v2), some (.int v3), none, none, none], [])) (k4 v0 v1 v2 v3)) {k13 : Nat → Int32 → Int32 → Int32 → Int32 → sm_M Int32} (K13 : ∀ (v0 : Nat) (v1 : Int32) (v2 : Int32) (v3 : Int32) (v4 : Int32) (hv0 : kd v0 = 12), sm_S κ (fun r : Int32 => .inr (some (.int r))) (.inl (13, [some (xad κ v0), some (.int v1), some (.int v2), some (.int v3), some (.int v4), none, none], [])) (k13 v0 v1 v2 v3 v4)) {k60 : Nat → Int32 → Int32 → Int32 → Int32 → Int32 → Int32 → sm_M Int32} (K60 : ∀ (v0 : Nat) (v1 : Int32) (v2 : Int32) (v3 : Int32) (v4 : Int32) (v5 : Int32) (v6 : Int32) (hv0 : kd v0 = 12), sm_S κ (fun r : Int32 => .inr (some (.int r))) (.inl (60, [some (xad κ v0), some (.int v1), some (.int v2), some (.int v3), some (.int v4), some (.int v5), some (.int v6)], [])) (k60 v0 v1 v2 v3 v4 v5 v6)) (v0 : Nat) (v1 : Int32) (v2 : Int32) (v3 : Int32) (v4 : Int32) (v6 : Int32) (s0 : Int32) (hv0 : kd v0 = 12) : sm_S κ (fun r : Int32 => .inr (some (.int r))) (.inl (103, [some (xad κ v0), some (.int v1), some (.int v2), some (.int v3), some (.int v4), none, some (.int v6)], [.int s0])) (fnX12_reachOf_J103 k4 k13 k60 v0 v1 v2 v3 v4 v6 s0) := by
  unfold fnX12_reachOf_J103
  refine sr_istore (i := 5) (L' := [some (xad κ v0), some (.int v1), some (.int v2), some (.int v3), some (.int v4), some (.int s0), some (.int v6)]) (q := 105) C (show decode cX12_reachOf 103 = .ok (.istore 5, 2) from by decide +kernel) (by decide) rfl rfl ?_
  refine sr_iinc (v := v6 + (1 : Int32)) (L' := [some (xad κ v0), some (.int v1), some (.int v2), some (.int v3), some (.int v4), some (.int s0), some (.int (v6 + (1 : Int32)))]) (q := 108) C (show decode cX12_reachOf 105 = .ok (.iinc 6 1, 3) from by decide +kernel) rfl rfl (by decide) rfl rfl ?_
  refine sr_goto (q := 60) C (show decode cX12_reachOf 108 = .ok (.goto (-48), 3) from by decide +kernel) (by decide) ?_
  exact K60 v0 v1 v2 v3 v4 s0 (v6 + (1 : Int32)) hv0
def fnX12_reachOf_J102 (k4 : Nat → Int32 → Int32 → Int32 → sm_M Int32) (k13 : Nat → Int32 → Int32 → Int32 → Int32 → sm_M Int32) (k60 : Nat → Int32 → Int32 → Int32 → Int32 → Int32 → Int32 → sm_M Int32) (v0 : Nat) (v1 : Int32) (v2 : Int32) (v3 : Int32) (v4 : Int32) (v6 : Int32) : sm_M Int32 := fnX12_reachOf_J103 k4 k13 k60 v0 v1 v2 v3 v4 v6 (0 : Int32)
set_option maxHeartbeats 4000000 in
set_option maxRecDepth 100000 in
theorem slX12_reachOf_J102 {κ : sm_X} (C : sm_C κ RX12 cX12_reachOf 7 5) {k4 : Nat → Int32 → Int32 → Int32 → sm_M Int32} (K4 : ∀ (v0 : Nat) (v1 : Int32) (v2 : Int32) (v3 : Int32) (hv0 : kd v0 = 12), sm_S κ (fun r : Int32 => .inr (some (.int r))) (.inl (4, [some (xad κ v0), some (.int v1), some (.int v2), some (.int v3), none, none, none], [])) (k4 v0 v1 v2 v3)) {k13 : Nat → Int32 → Int32 → Int32 → Int32 → sm_M Int32} (K13 : ∀ (v0 : Nat) (v1 : Int32) (v2 : Int32) (v3 : Int32) (v4 : Int32) (hv0 : kd v0 = 12), sm_S κ (fun r : Int32 => .inr (some (.int r))) (.inl (13, [some (xad κ v0), some (.int v1), some (.int v2), some (.int v3), some (.int v4), none, none], [])) (k13 v0 v1 v2 v3 v4)) {k60 : Nat → Int32 → Int32 → Int32 → Int32 → Int32 → Int32 → sm_M Int32} (K60 : ∀ (v0 : Nat) (v1 : Int32) (v2 : Int32) (v3 : Int32) (v4 : Int32) (v5 : Int32) (v6 : Int32) (hv0 : kd v0 = 12), sm_S κ (fun r : Int32 => .inr (some (.int r))) (.inl (60, [some (xad κ v0), some (.int v1), some (.int v2), some (.int v3), some (.int v4), some (.int v5), some (.int v6)], [])) (k60 v0 v1 v2 v3 v4 v5 v6)) (v0 : Nat) (v1 : Int32) (v2 : Int32) (v3 : Int32) (v4 : Int32) (v6 : Int32) (hv0 : kd v0 = 12) : sm_S κ (fun r : Int32 => .inr (some (.int r))) (.inl (102, [some (xad κ v0), some (.int v1), some (.int v2), some (.int v3), some (.int v4), none, some (.int v6)], [])) (fnX12_reachOf_J102 k4 k13 k60 v0 v1 v2 v3 v4 v6) := by
  unfold fnX12_reachOf_J102
  refine sr_iconst (v := (0 : Int32)) (q := 103) C (show decode cX12_reachOf 102 = .ok (.iconst 0, 1) from by decide +kernel) (by decide) rfl ?_
  exact slX12_reachOf_J103 C K4 K13 K60 v0 v1 v2 v3 v4 v6 (0 : Int32) hv0
def fnX12_reachOf_L60 (k4 : Nat → Int32 → Int32 → Int32 → sm_M Int32) (k13 : Nat → Int32 → Int32 → Int32 → Int32 → sm_M Int32) : Nat → Nat → Int32 → Int32 → Int32 → Int32 → Int32 → Int32 → sm_M Int32
  | 0, _, _, _, _, _, _, _ => m_fail
  | n + 1, v0, v1, v2, v3, v4, v5, v6 => m_ai (lk v0 1) (3 : Int32) fun x67 => m_br (x67 ≤ v6)
    (fnX12_reachOf_J111 k4 k13 v0 v1 v2 v3 v4 v5)
    (m_br (v5 = 0)
    (m_br (((v2 >>> (v6 &&& 31)) &&& (1 : Int32)) = (1 : Int32))
    (m_bnd (fnX12_isStep v0 v6 v4 v1) fun x92 => m_br ((bI x92) = 0)
    (fnX12_reachOf_J102 k4 k13 (fnX12_reachOf_L60 k4 k13 n) v0 v1 v2 v3 v4 v6)
    (fnX12_reachOf_J103 k4 k13 (fnX12_reachOf_L60 k4 k13 n) v0 v1 v2 v3 v4 v6 (1 : Int32)))
    (fnX12_reachOf_J102 k4 k13 (fnX12_reachOf_L60 k4 k13 n) v0 v1 v2 v3 v4 v6))
    (fnX12_reachOf_J111 k4 k13 v0 v1 v2 v3 v4 v5))
set_option maxHeartbeats 4000000 in
set_option maxRecDepth 100000 in
theorem slX12_reachOf_L60 {κ : sm_X} (C : sm_C κ RX12 cX12_reachOf 7 5) {k4 : Nat → Int32 → Int32 → Int32 → sm_M Int32} (K4 : ∀ (v0 : Nat) (v1 : Int32) (v2 : Int32) (v3 : Int32) (hv0 : kd v0 = 12), sm_S κ (fun r : Int32 => .inr (some (.int r))) (.inl (4, [some (xad κ v0), some (.int v1), some (.int v2), some (.int v3), none, none, none], [])) (k4 v0 v1 v2 v3)) {k13 : Nat → Int32 → Int32 → Int32 → Int32 → sm_M Int32} (K13 : ∀ (v0 : Nat) (v1 : Int32) (v2 : Int32) (v3 : Int32) (v4 : Int32) (hv0 : kd v0 = 12), sm_S κ (fun r : Int32 => .inr (some (.int r))) (.inl (13, [some (xad κ v0), some (.int v1), some (.int v2), some (.int v3), some (.int v4), none, none], [])) (k13 v0 v1 v2 v3 v4)) : ∀ (n : Nat) (v0 : Nat) (v1 : Int32) (v2 : Int32) (v3 : Int32) (v4 : Int32) (v5 : Int32) (v6 : Int32) (hv0 : kd v0 = 12), sm_S κ (fun r : Int32 => .inr (some (.int r))) (.inl (60, [some (xad κ v0), some (.int v1), some (.int v2), some (.int v3), some (.int v4), some (.int v5), some (.int v6)], [])) (fnX12_reachOf_L60 k4 k13 n v0 v1 v2 v3 v4 v5 v6) := by
  intro n
  induction n with
  | zero =>
    intros
    exact sr_fail
  | succ n K60 =>
    intro v0 v1 v2 v3 v4 v5 v6 hv0
    unfold fnX12_reachOf_L60
    refine sr_iload (i := 6) (q := 62) C (show decode cX12_reachOf 60 = .ok (.iload 6, 2) from by decide +kernel) rfl rfl ?_
    refine sr_aload_n (i := 0) (q := 63) C (show decode cX12_reachOf 62 = .ok (.aload_n 0, 1) from by decide +kernel) rfl rfl rfl ?_
    refine sr_getr (q := 66) C fl_X12_9 hv0 (show decode cX12_reachOf 63 = .ok (.getfield 9, 3) from by decide +kernel) rfl ?_
    refine sr_iconst (v := (3 : Int32)) (q := 67) C (show decode cX12_reachOf 66 = .ok (.iconst 3, 1) from by decide +kernel) (by decide) rfl ?_
    refine sr_iaload (q := 68) C (kt hv0 kp_12_1) (show decode cX12_reachOf 67 = .ok (.iaload, 1) from by decide +kernel) rfl (fun x67 => ?_)
    refine sr_icmp_ge (q := 71) C 111 (show decode cX12_reachOf 68 = .ok (.if_icmp .ge 43, 3) from by decide +kernel) (by decide) rfl ?_ ?_
    · refine sr_weak (L' := [some (xad κ v0), some (.int v1), some (.int v2), some (.int v3), some (.int v4), some (.int v5), none]) ⟨rfl, rfl, rfl, rfl, rfl, rfl, trivial⟩ ?_
      exact slX12_reachOf_J111 C K4 K13 v0 v1 v2 v3 v4 v5 hv0
    · refine sr_iload (i := 5) (q := 73) C (show decode cX12_reachOf 71 = .ok (.iload 5, 2) from by decide +kernel) rfl rfl ?_
      refine sr_if_ne (q := 76) C 111 (show decode cX12_reachOf 73 = .ok (.ifCond .ne 38, 3) from by decide +kernel) (by decide) rfl ?_ ?_
      · refine sr_weak (L' := [some (xad κ v0), some (.int v1), some (.int v2), some (.int v3), some (.int v4), some (.int v5), none]) ⟨rfl, rfl, rfl, rfl, rfl, rfl, trivial⟩ ?_
        exact slX12_reachOf_J111 C K4 K13 v0 v1 v2 v3 v4 v5 hv0
      · refine sr_iload_n (i := 2) (q := 77) C (show decode cX12_reachOf 76 = .ok (.iload_n 2, 1) from by decide +kernel) rfl rfl rfl ?_
        refine sr_iload (i := 6) (q := 79) C (show decode cX12_reachOf 77 = .ok (.iload 6, 2) from by decide +kernel) rfl rfl ?_
        refine sr_ishr (q := 80) C (show decode cX12_reachOf 79 = .ok (.ishr, 1) from by decide +kernel) rfl ?_
        refine sr_iconst (v := (1 : Int32)) (q := 81) C (show decode cX12_reachOf 80 = .ok (.iconst 1, 1) from by decide +kernel) (by decide) rfl ?_
        refine sr_iand (q := 82) C (show decode cX12_reachOf 81 = .ok (.iand, 1) from by decide +kernel) rfl ?_
        refine sr_iconst (v := (1 : Int32)) (q := 83) C (show decode cX12_reachOf 82 = .ok (.iconst 1, 1) from by decide +kernel) (by decide) rfl ?_
        refine sr_icmp_ne (q := 86) C 102 (show decode cX12_reachOf 83 = .ok (.if_icmp .ne 19, 3) from by decide +kernel) (by decide) rfl ?_ ?_
        · refine sr_weak (L' := [some (xad κ v0), some (.int v1), some (.int v2), some (.int v3), some (.int v4), none, some (.int v6)]) ⟨rfl, rfl, rfl, rfl, rfl, rfl, trivial⟩ ?_
          exact slX12_reachOf_J102 C K4 K13 K60 v0 v1 v2 v3 v4 v6 hv0
        · refine sr_aload_n (i := 0) (q := 87) C (show decode cX12_reachOf 86 = .ok (.aload_n 0, 1) from by decide +kernel) rfl rfl rfl ?_
          refine sr_iload (i := 6) (q := 89) C (show decode cX12_reachOf 87 = .ok (.iload 6, 2) from by decide +kernel) rfl rfl ?_
          refine sr_iload (i := 4) (q := 91) C (show decode cX12_reachOf 89 = .ok (.iload 4, 2) from by decide +kernel) rfl rfl ?_
          refine sr_iload_n (i := 1) (q := 92) C (show decode cX12_reachOf 91 = .ok (.iload_n 1, 1) from by decide +kernel) rfl rfl rfl ?_
          refine sr_cVz (As := [.int v6, .int v4, .int v1]) (st := []) (b := v0) (q := 95) C yvX12_isStep ml_X12_270 (cnX12_isStep (xo κ) v0 v6 v4 v1 hv0) hv0 (by decide) rfl rfl rfl (by decide) (by decide) (Nat.le_of_ble_eq_true rfl) rfl (show decode cX12_reachOf 92 = .ok (.invokevirtual 270, 3) from by decide +kernel) rfl (fun x92 => ?_)
          refine sr_if_eq (q := 98) C 102 (show decode cX12_reachOf 95 = .ok (.ifCond .eq 7, 3) from by decide +kernel) (by decide) rfl ?_ ?_
          · refine sr_weak (L' := [some (xad κ v0), some (.int v1), some (.int v2), some (.int v3), some (.int v4), none, some (.int v6)]) ⟨rfl, rfl, rfl, rfl, rfl, rfl, trivial⟩ ?_
            exact slX12_reachOf_J102 C K4 K13 K60 v0 v1 v2 v3 v4 v6 hv0
          · refine sr_iconst (v := (1 : Int32)) (q := 99) C (show decode cX12_reachOf 98 = .ok (.iconst 1, 1) from by decide +kernel) (by decide) rfl ?_
            refine sr_goto (q := 103) C (show decode cX12_reachOf 99 = .ok (.goto 4, 3) from by decide +kernel) (by decide) ?_
            refine sr_weak (L' := [some (xad κ v0), some (.int v1), some (.int v2), some (.int v3), some (.int v4), none, some (.int v6)]) ⟨rfl, rfl, rfl, rfl, rfl, rfl, trivial⟩ ?_
            exact slX12_reachOf_J103 C K4 K13 K60 v0 v1 v2 v3 v4 v6 (1 : Int32) hv0
def fnX12_reachOf_L13 (k4 : Nat → Int32 → Int32 → Int32 → sm_M Int32) : Nat → Nat → Int32 → Int32 → Int32 → Int32 → sm_M Int32
  | 0, _, _, _, _, _ => m_fail
  | n + 1, v0, v1, v2, v3, v4 => m_ai (lk v0 1) (3 : Int32) fun x20 => m_br (x20 ≤ v4)
    (fnX12_reachOf_J134 k4 v0 v1 v2 v3)
    (m_br (((v2 >>> (v4 &&& 31)) &&& (1 : Int32)) = (1 : Int32))
    (fnX12_reachOf_J128 k4 (fnX12_reachOf_L13 k4 n) v0 v1 v2 v3 v4)
    (m_bnd (fnX12_left v0 v4) fun x37 => m_br (x37 = 0)
    (fnX12_reachOf_J128 k4 (fnX12_reachOf_L13 k4 n) v0 v1 v2 v3 v4)
    (m_bnd (fnX12_isStep v0 (98 : Int32) v4 v1) fun x52 => fnX12_reachOf_L60 k4 (fnX12_reachOf_L13 k4 n) 4096 v0 v1 v2 v3 v4 (bI x52) (0 : Int32))))
set_option maxHeartbeats 4000000 in
set_option maxRecDepth 100000 in
theorem slX12_reachOf_L13 {κ : sm_X} (C : sm_C κ RX12 cX12_reachOf 7 5) {k4 : Nat → Int32 → Int32 → Int32 → sm_M Int32} (K4 : ∀ (v0 : Nat) (v1 : Int32) (v2 : Int32) (v3 : Int32) (hv0 : kd v0 = 12), sm_S κ (fun r : Int32 => .inr (some (.int r))) (.inl (4, [some (xad κ v0), some (.int v1), some (.int v2), some (.int v3), none, none, none], [])) (k4 v0 v1 v2 v3)) : ∀ (n : Nat) (v0 : Nat) (v1 : Int32) (v2 : Int32) (v3 : Int32) (v4 : Int32) (hv0 : kd v0 = 12), sm_S κ (fun r : Int32 => .inr (some (.int r))) (.inl (13, [some (xad κ v0), some (.int v1), some (.int v2), some (.int v3), some (.int v4), none, none], [])) (fnX12_reachOf_L13 k4 n v0 v1 v2 v3 v4) := by
  intro n
  induction n with
  | zero =>
    intros
    exact sr_fail
  | succ n K13 =>
    intro v0 v1 v2 v3 v4 hv0
    unfold fnX12_reachOf_L13
    refine sr_iload (i := 4) (q := 15) C (show decode cX12_reachOf 13 = .ok (.iload 4, 2) from by decide +kernel) rfl rfl ?_
    refine sr_aload_n (i := 0) (q := 16) C (show decode cX12_reachOf 15 = .ok (.aload_n 0, 1) from by decide +kernel) rfl rfl rfl ?_
    refine sr_getr (q := 19) C fl_X12_9 hv0 (show decode cX12_reachOf 16 = .ok (.getfield 9, 3) from by decide +kernel) rfl ?_
    refine sr_iconst (v := (3 : Int32)) (q := 20) C (show decode cX12_reachOf 19 = .ok (.iconst 3, 1) from by decide +kernel) (by decide) rfl ?_
    refine sr_iaload (q := 21) C (kt hv0 kp_12_1) (show decode cX12_reachOf 20 = .ok (.iaload, 1) from by decide +kernel) rfl (fun x20 => ?_)
    refine sr_icmp_ge (q := 24) C 134 (show decode cX12_reachOf 21 = .ok (.if_icmp .ge 113, 3) from by decide +kernel) (by decide) rfl ?_ ?_
    · refine sr_weak (L' := [some (xad κ v0), some (.int v1), some (.int v2), some (.int v3), none, none, none]) ⟨rfl, rfl, rfl, rfl, trivial⟩ ?_
      exact slX12_reachOf_J134 C K4 v0 v1 v2 v3 hv0
    · refine sr_iload_n (i := 2) (q := 25) C (show decode cX12_reachOf 24 = .ok (.iload_n 2, 1) from by decide +kernel) rfl rfl rfl ?_
      refine sr_iload (i := 4) (q := 27) C (show decode cX12_reachOf 25 = .ok (.iload 4, 2) from by decide +kernel) rfl rfl ?_
      refine sr_ishr (q := 28) C (show decode cX12_reachOf 27 = .ok (.ishr, 1) from by decide +kernel) rfl ?_
      refine sr_iconst (v := (1 : Int32)) (q := 29) C (show decode cX12_reachOf 28 = .ok (.iconst 1, 1) from by decide +kernel) (by decide) rfl ?_
      refine sr_iand (q := 30) C (show decode cX12_reachOf 29 = .ok (.iand, 1) from by decide +kernel) rfl ?_
      refine sr_iconst (v := (1 : Int32)) (q := 31) C (show decode cX12_reachOf 30 = .ok (.iconst 1, 1) from by decide +kernel) (by decide) rfl ?_
      refine sr_icmp_eq (q := 34) C 128 (show decode cX12_reachOf 31 = .ok (.if_icmp .eq 97, 3) from by decide +kernel) (by decide) rfl ?_ ?_
      · exact slX12_reachOf_J128 C K4 K13 v0 v1 v2 v3 v4 hv0
      · refine sr_aload_n (i := 0) (q := 35) C (show decode cX12_reachOf 34 = .ok (.aload_n 0, 1) from by decide +kernel) rfl rfl rfl ?_
        refine sr_iload (i := 4) (q := 37) C (show decode cX12_reachOf 35 = .ok (.iload 4, 2) from by decide +kernel) rfl rfl ?_
        refine sr_cVi (As := [.int v4]) (st := []) (b := v0) (q := 40) C yvX12_left ml_X12_250 (cnX12_left (xo κ) v0 v4 hv0) hv0 (by decide) rfl rfl rfl (by decide) (by decide) (Nat.le_of_ble_eq_true rfl) rfl (show decode cX12_reachOf 37 = .ok (.invokevirtual 250, 3) from by decide +kernel) rfl (fun x37 => ?_)
        refine sr_if_ne (q := 43) C 46 (show decode cX12_reachOf 40 = .ok (.ifCond .ne 6, 3) from by decide +kernel) (by decide) rfl ?_ ?_
        · refine sr_aload_n (i := 0) (q := 47) C (show decode cX12_reachOf 46 = .ok (.aload_n 0, 1) from by decide +kernel) rfl rfl rfl ?_
          refine sr_bipush (v := (98 : Int32)) (q := 49) C (show decode cX12_reachOf 47 = .ok (.bipush 98, 2) from by decide +kernel) (by decide) rfl ?_
          refine sr_iload (i := 4) (q := 51) C (show decode cX12_reachOf 49 = .ok (.iload 4, 2) from by decide +kernel) rfl rfl ?_
          refine sr_iload_n (i := 1) (q := 52) C (show decode cX12_reachOf 51 = .ok (.iload_n 1, 1) from by decide +kernel) rfl rfl rfl ?_
          refine sr_cVz (As := [.int (98 : Int32), .int v4, .int v1]) (st := []) (b := v0) (q := 55) C yvX12_isStep ml_X12_270 (cnX12_isStep (xo κ) v0 (98 : Int32) v4 v1 hv0) hv0 (by decide) rfl rfl rfl (by decide) (by decide) (Nat.le_of_ble_eq_true rfl) rfl (show decode cX12_reachOf 52 = .ok (.invokevirtual 270, 3) from by decide +kernel) rfl (fun x52 => ?_)
          refine sr_istore (i := 5) (L' := [some (xad κ v0), some (.int v1), some (.int v2), some (.int v3), some (.int v4), some (.int (bI x52)), none]) (q := 57) C (show decode cX12_reachOf 55 = .ok (.istore 5, 2) from by decide +kernel) (by decide) rfl rfl ?_
          refine sr_iconst (v := (0 : Int32)) (q := 58) C (show decode cX12_reachOf 57 = .ok (.iconst 0, 1) from by decide +kernel) (by decide) rfl ?_
          refine sr_istore (i := 6) (L' := [some (xad κ v0), some (.int v1), some (.int v2), some (.int v3), some (.int v4), some (.int (bI x52)), some (.int (0 : Int32))]) (q := 60) C (show decode cX12_reachOf 58 = .ok (.istore 6, 2) from by decide +kernel) (by decide) rfl rfl ?_
          exact slX12_reachOf_L60 C K4 K13 4096 v0 v1 v2 v3 v4 (bI x52) (0 : Int32) hv0
        · refine sr_goto (q := 128) C (show decode cX12_reachOf 43 = .ok (.goto 85, 3) from by decide +kernel) (by decide) ?_
          exact slX12_reachOf_J128 C K4 K13 v0 v1 v2 v3 v4 hv0
def fnX12_reachOf_L4 : Nat → Nat → Int32 → Int32 → Int32 → sm_M Int32
  | 0, _, _, _, _ => m_fail
  | n + 1, v0, v1, v2, v3 => m_br (v3 = 0)
    (m_ret v2)
    (fnX12_reachOf_L13 (fnX12_reachOf_L4 n) 4096 v0 v1 v2 (0 : Int32) (0 : Int32))
set_option maxHeartbeats 4000000 in
set_option maxRecDepth 100000 in
theorem slX12_reachOf_L4 {κ : sm_X} (C : sm_C κ RX12 cX12_reachOf 7 5) : ∀ (n : Nat) (v0 : Nat) (v1 : Int32) (v2 : Int32) (v3 : Int32) (hv0 : kd v0 = 12), sm_S κ (fun r : Int32 => .inr (some (.int r))) (.inl (4, [some (xad κ v0), some (.int v1), some (.int v2), some (.int v3), none, none, none], [])) (fnX12_reachOf_L4 n v0 v1 v2 v3) := by
  intro n
  induction n with
  | zero =>
    intros
    exact sr_fail
  | succ n K4 =>
    intro v0 v1 v2 v3 hv0
    unfold fnX12_reachOf_L4
    refine sr_iload_n (i := 3) (q := 5) C (show decode cX12_reachOf 4 = .ok (.iload_n 3, 1) from by decide +kernel) rfl rfl rfl ?_
    refine sr_if_eq (q := 8) C 137 (show decode cX12_reachOf 5 = .ok (.ifCond .eq 132, 3) from by decide +kernel) (by decide) rfl ?_ ?_
    · refine sr_iload_n (i := 2) (q := 138) C (show decode cX12_reachOf 137 = .ok (.iload_n 2, 1) from by decide +kernel) rfl rfl rfl ?_
      exact sr_ireturn C _ rfl (show decode cX12_reachOf 138 = .ok (.ireturn, 1) from by decide +kernel)
    · refine sr_iconst (v := (0 : Int32)) (q := 9) C (show decode cX12_reachOf 8 = .ok (.iconst 0, 1) from by decide +kernel) (by decide) rfl ?_
      refine sr_istore_n (i := 3) (L' := [some (xad κ v0), some (.int v1), some (.int v2), some (.int (0 : Int32)), none, none, none]) (q := 10) C (show decode cX12_reachOf 9 = .ok (.istore_n 3, 1) from by decide +kernel) rfl (by decide) rfl rfl ?_
      refine sr_iconst (v := (0 : Int32)) (q := 11) C (show decode cX12_reachOf 10 = .ok (.iconst 0, 1) from by decide +kernel) (by decide) rfl ?_
      refine sr_istore (i := 4) (L' := [some (xad κ v0), some (.int v1), some (.int v2), some (.int (0 : Int32)), some (.int (0 : Int32)), none, none]) (q := 13) C (show decode cX12_reachOf 11 = .ok (.istore 4, 2) from by decide +kernel) (by decide) rfl rfl ?_
      exact slX12_reachOf_L13 C K4 4096 v0 v1 v2 (0 : Int32) (0 : Int32) hv0
def fnX12_reachOf (v0 : Nat) (v1 : Int32) : sm_M Int32 := fnX12_reachOf_L4 4096 v0 v1 (0 : Int32) (1 : Int32)
set_option maxHeartbeats 4000000 in
set_option maxRecDepth 100000 in
theorem slX12_reachOf {κ : sm_X} (C : sm_C κ RX12 cX12_reachOf 7 5) (v0 : Nat) (v1 : Int32) (hv0 : kd v0 = 12) : sm_S κ (fun r : Int32 => .inr (some (.int r))) (.inl (0, [some (xad κ v0), some (.int v1), none, none, none, none, none], [])) (fnX12_reachOf v0 v1) := by
  unfold fnX12_reachOf
  refine sr_iconst (v := (0 : Int32)) (q := 1) C (show decode cX12_reachOf 0 = .ok (.iconst 0, 1) from by decide +kernel) (by decide) rfl ?_
  refine sr_istore_n (i := 2) (L' := [some (xad κ v0), some (.int v1), some (.int (0 : Int32)), none, none, none, none]) (q := 2) C (show decode cX12_reachOf 1 = .ok (.istore_n 2, 1) from by decide +kernel) rfl (by decide) rfl rfl ?_
  refine sr_iconst (v := (1 : Int32)) (q := 3) C (show decode cX12_reachOf 2 = .ok (.iconst 1, 1) from by decide +kernel) (by decide) rfl ?_
  refine sr_istore_n (i := 3) (L' := [some (xad κ v0), some (.int v1), some (.int (0 : Int32)), some (.int (1 : Int32)), none, none, none]) (q := 4) C (show decode cX12_reachOf 3 = .ok (.istore_n 3, 1) from by decide +kernel) rfl (by decide) rfl rfl ?_
  exact slX12_reachOf_L4 C 4096 v0 v1 (0 : Int32) (1 : Int32) hv0
theorem cnX12_reachOf (ω : sm_O) (v0 : Nat) (v1 : Int32) (hv0 : kd v0 = 12) : sm_Mt 5 yX12_reachOf cX12_reachOf 7 (some .int) ω [.ref (ω.1 + v0), .int v1] (fun a => some (.int a)) (fnX12_reachOf v0 v1) := by
  refine sm_conI (r := fun a => a) (by decide) (fun _ => rfl) (Nat.le_of_ble_eq_true rfl) ?_
  intro κ hκ C
  subst hκ
  exact slX12_reachOf C v0 v1 hv0
