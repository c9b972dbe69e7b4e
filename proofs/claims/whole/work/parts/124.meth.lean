def fnX12_sure (v0 : Nat) (v1 : Int32) (v2 : Int32) : sm_M Int64 := m_bnd (fnX12_isLoad v0 v1 v2) fun x3 => m_br ((bI x3) = 0)
    (m_ret (-2 : Int64))
    (m_bnd (fnX12_sureOf v0 v1 v2) fun x12 => m_ret x12)
set_option maxHeartbeats 4000000 in
set_option maxRecDepth 100000 in
theorem slX12_sure {κ : sm_X} (C : sm_C κ RX12 cX12_sure 3 6) (v0 : Nat) (v1 : Int32) (v2 : Int32) (hv0 : kd v0 = 12) : sm_S κ (fun r : Int64 => .inr (some (.long r))) (.inl (0, [some (xad κ v0), some (.int v1), some (.int v2)], [])) (fnX12_sure v0 v1 v2) := by
  unfold fnX12_sure
  refine sr_aload_n (i := 0) (q := 1) C (show decode cX12_sure 0 = .ok (.aload_n 0, 1) from by decide +kernel) rfl rfl rfl ?_
  refine sr_iload_n (i := 1) (q := 2) C (show decode cX12_sure 1 = .ok (.iload_n 1, 1) from by decide +kernel) rfl rfl rfl ?_
  refine sr_iload_n (i := 2) (q := 3) C (show decode cX12_sure 2 = .ok (.iload_n 2, 1) from by decide +kernel) rfl rfl rfl ?_
  refine sr_cVz (As := [.int v1, .int v2]) (st := []) (b := v0) (q := 6) C yvX12_isLoad ml_X12_453 (cnX12_isLoad (xo κ) v0 v1 v2 hv0) hv0 (by decide) rfl rfl rfl (by decide) (by decide) (Nat.le_of_ble_eq_true rfl) rfl (show decode cX12_sure 3 = .ok (.invokevirtual 453, 3) from by decide +kernel) rfl (fun x3 => ?_)
  refine sr_if_eq (q := 9) C 18 (show decode cX12_sure 6 = .ok (.ifCond .eq 12, 3) from by decide +kernel) (by decide) rfl ?_ ?_
  · refine sr_ldc2 (q := 21) C co_X12_494 (show decode cX12_sure 18 = .ok (.ldc2_w 494, 3) from by decide +kernel) rfl ?_
    exact sr_lreturn C _ rfl (show decode cX12_sure 21 = .ok (.lreturn, 1) from by decide +kernel)
  · refine sr_aload_n (i := 0) (q := 10) C (show decode cX12_sure 9 = .ok (.aload_n 0, 1) from by decide +kernel) rfl rfl rfl ?_
    refine sr_iload_n (i := 1) (q := 11) C (show decode cX12_sure 10 = .ok (.iload_n 1, 1) from by decide +kernel) rfl rfl rfl ?_
    refine sr_iload_n (i := 2) (q := 12) C (show decode cX12_sure 11 = .ok (.iload_n 2, 1) from by decide +kernel) rfl rfl rfl ?_
    refine sr_cVl (As := [.int v1, .int v2]) (st := []) (b := v0) (q := 15) C yvX12_sureOf ml_X12_490 (cnX12_sureOf (xo κ) v0 v1 v2 hv0) hv0 (by decide) rfl rfl rfl (by decide) (by decide) (Nat.le_of_ble_eq_true rfl) rfl (show decode cX12_sure 12 = .ok (.invokevirtual 490, 3) from by decide +kernel) rfl (fun x12 => ?_)
    refine sr_goto (q := 21) C (show decode cX12_sure 15 = .ok (.goto 6, 3) from by decide +kernel) (by decide) ?_
    exact sr_lreturn C _ rfl (show decode cX12_sure 21 = .ok (.lreturn, 1) from by decide +kernel)
theorem cnX12_sure (ω : sm_O) (v0 : Nat) (v1 : Int32) (v2 : Int32) (hv0 : kd v0 = 12) : sm_Mt 6 yX12_sure cX12_sure 3 (some .long) ω [.ref (ω.1 + v0), .int v1, .int v2] (fun a => some (.long a)) (fnX12_sure v0 v1 v2) := by
  refine sm_conL (r := fun a => a) (by decide) (Nat.le_of_ble_eq_true rfl) ?_
  intro κ hκ C
  subst hκ
  exact slX12_sure C v0 v1 v2 hv0
def fnX12_tread (v0 : Nat) (v1 : Int32) (v2 : Int32) (v3 : Int32) : sm_M Int64 := m_bnd (fnX12_isStone v0 v1) fun x2 => m_br ((bI x2) = 0)
    (m_ret (-2 : Int64))
    (m_bnd (fnX12_isLoad v0 v2 v3) fun x11 => m_br ((bI x11) = 0)
    (m_ret (-2 : Int64))
    (m_bnd (fnX12_treadOf v0 v1 v2 v3) fun x21 => m_ret x21))
set_option maxHeartbeats 4000000 in
set_option maxRecDepth 100000 in
theorem slX12_tread {κ : sm_X} (C : sm_C κ RX12 cX12_tread 4 7) (v0 : Nat) (v1 : Int32) (v2 : Int32) (v3 : Int32) (hv0 : kd v0 = 12) : sm_S κ (fun r : Int64 => .inr (some (.long r))) (.inl (0, [some (xad κ v0), some (.int v1), some (.int v2), some (.int v3)], [])) (fnX12_tread v0 v1 v2 v3) := by
  unfold fnX12_tread
  refine sr_aload_n (i := 0) (q := 1) C (show decode cX12_tread 0 = .ok (.aload_n 0, 1) from by decide +kernel) rfl rfl rfl ?_
  refine sr_iload_n (i := 1) (q := 2) C (show decode cX12_tread 1 = .ok (.iload_n 1, 1) from by decide +kernel) rfl rfl rfl ?_
  refine sr_cVz (As := [.int v1]) (st := []) (b := v0) (q := 5) C yvX12_isStone ml_X12_111 (cnX12_isStone (xo κ) v0 v1 hv0) hv0 (by decide) rfl rfl rfl (by decide) (by decide) (Nat.le_of_ble_eq_true rfl) rfl (show decode cX12_tread 2 = .ok (.invokevirtual 111, 3) from by decide +kernel) rfl (fun x2 => ?_)
  refine sr_if_eq (q := 8) C 27 (show decode cX12_tread 5 = .ok (.ifCond .eq 22, 3) from by decide +kernel) (by decide) rfl ?_ ?_
  · refine sr_ldc2 (q := 30) C co_X12_494 (show decode cX12_tread 27 = .ok (.ldc2_w 494, 3) from by decide +kernel) rfl ?_
    exact sr_lreturn C _ rfl (show decode cX12_tread 30 = .ok (.lreturn, 1) from by decide +kernel)
  · refine sr_aload_n (i := 0) (q := 9) C (show decode cX12_tread 8 = .ok (.aload_n 0, 1) from by decide +kernel) rfl rfl rfl ?_
    refine sr_iload_n (i := 2) (q := 10) C (show decode cX12_tread 9 = .ok (.iload_n 2, 1) from by decide +kernel) rfl rfl rfl ?_
    refine sr_iload_n (i := 3) (q := 11) C (show decode cX12_tread 10 = .ok (.iload_n 3, 1) from by decide +kernel) rfl rfl rfl ?_
    refine sr_cVz (As := [.int v2, .int v3]) (st := []) (b := v0) (q := 14) C yvX12_isLoad ml_X12_453 (cnX12_isLoad (xo κ) v0 v2 v3 hv0) hv0 (by decide) rfl rfl rfl (by decide) (by decide) (Nat.le_of_ble_eq_true rfl) rfl (show decode cX12_tread 11 = .ok (.invokevirtual 453, 3) from by decide +kernel) rfl (fun x11 => ?_)
    refine sr_if_eq (q := 17) C 27 (show decode cX12_tread 14 = .ok (.ifCond .eq 13, 3) from by decide +kernel) (by decide) rfl ?_ ?_
    · refine sr_ldc2 (q := 30) C co_X12_494 (show decode cX12_tread 27 = .ok (.ldc2_w 494, 3) from by decide +kernel) rfl ?_
      exact sr_lreturn C _ rfl (show decode cX12_tread 30 = .ok (.lreturn, 1) from by decide +kernel)
    · refine sr_aload_n (i := 0) (q := 18) C (show decode cX12_tread 17 = .ok (.aload_n 0, 1) from by decide +kernel) rfl rfl rfl ?_
      refine sr_iload_n (i := 1) (q := 19) C (show decode cX12_tread 18 = .ok (.iload_n 1, 1) from by decide +kernel) rfl rfl rfl ?_
      refine sr_iload_n (i := 2) (q := 20) C (show decode cX12_tread 19 = .ok (.iload_n 2, 1) from by decide +kernel) rfl rfl rfl ?_
      refine sr_iload_n (i := 3) (q := 21) C (show decode cX12_tread 20 = .ok (.iload_n 3, 1) from by decide +kernel) rfl rfl rfl ?_
      refine sr_cVl (As := [.int v1, .int v2, .int v3]) (st := []) (b := v0) (q := 24) C yvX12_treadOf ml_X12_496 (cnX12_treadOf (xo κ) v0 v1 v2 v3 hv0) hv0 (by decide) rfl rfl rfl (by decide) (by decide) (Nat.le_of_ble_eq_true rfl) rfl (show decode cX12_tread 21 = .ok (.invokevirtual 496, 3) from by decide +kernel) rfl (fun x21 => ?_)
      refine sr_goto (q := 30) C (show decode cX12_tread 24 = .ok (.goto 6, 3) from by decide +kernel) (by decide) ?_
      exact sr_lreturn C _ rfl (show decode cX12_tread 30 = .ok (.lreturn, 1) from by decide +kernel)
theorem cnX12_tread (ω : sm_O) (v0 : Nat) (v1 : Int32) (v2 : Int32) (v3 : Int32) (hv0 : kd v0 = 12) : sm_Mt 7 yX12_tread cX12_tread 4 (some .long) ω [.ref (ω.1 + v0), .int v1, .int v2, .int v3] (fun a => some (.long a)) (fnX12_tread v0 v1 v2 v3) := by
  refine sm_conL (r := fun a => a) (by decide) (Nat.le_of_ble_eq_true rfl) ?_
  intro κ hκ C
  subst hκ
  exact slX12_tread C v0 v1 v2 v3 hv0
def fnX12_waits_L16 : Nat → Nat → Int32 → Int32 → Int32 → sm_M Int32
  | 0, _, _, _, _ => m_fail
  | n + 1, v0, v1, v2, v4 => m_br ((60 : Int32) < v4)
    (m_ret (-1 : Int32))
    (m_bnd (fnX12_meet v0 v1 v2 v4) fun x28 => m_br ((bI x28) = 0)
    (m_ret v4)
    ((fnX12_waits_L16 n) v0 v1 v2 (v4 + (1 : Int32))))
set_option maxHeartbeats 4000000 in
set_option maxRecDepth 100000 in
theorem slX12_waits_L16 {κ : sm_X} (C : sm_C κ RX12 cX12_waits 5 4) : ∀ (n : Nat) (v0 : Nat) (v1 : Int32) (v2 : Int32) (v4 : Int32) (hv0 : kd v0 = 12), sm_S κ (fun r : Int32 => .inr (some (.int r))) (.inl (16, [some (xad κ v0), some (.int v1), some (.int v2), none, some (.int v4)], [])) (fnX12_waits_L16 n v0 v1 v2 v4) := by
  intro n
  induction n with
  | zero =>
    intros
    exact sr_fail
  | succ n K16 =>
    intro v0 v1 v2 v4 hv0
    unfold fnX12_waits_L16
    refine sr_iload (i := 4) (q := 18) C (show decode cX12_waits 16 = .ok (.iload 4, 2) from by decide +kernel) rfl rfl ?_
    refine sr_bipush (v := (60 : Int32)) (q := 20) C (show decode cX12_waits 18 = .ok (.bipush 60, 2) from by decide +kernel) (by decide) rfl ?_
    refine sr_icmp_gt (q := 23) C 43 (show decode cX12_waits 20 = .ok (.if_icmp .gt 23, 3) from by decide +kernel) (by decide) rfl ?_ ?_
    · refine sr_iconst (v := (-1 : Int32)) (q := 44) C (show decode cX12_waits 43 = .ok (.iconst (-1), 1) from by decide +kernel) (by decide) rfl ?_
      exact sr_ireturn C _ rfl (show decode cX12_waits 44 = .ok (.ireturn, 1) from by decide +kernel)
    · refine sr_aload_n (i := 0) (q := 24) C (show decode cX12_waits 23 = .ok (.aload_n 0, 1) from by decide +kernel) rfl rfl rfl ?_
      refine sr_iload_n (i := 1) (q := 25) C (show decode cX12_waits 24 = .ok (.iload_n 1, 1) from by decide +kernel) rfl rfl rfl ?_
      refine sr_iload_n (i := 2) (q := 26) C (show decode cX12_waits 25 = .ok (.iload_n 2, 1) from by decide +kernel) rfl rfl rfl ?_
      refine sr_iload (i := 4) (q := 28) C (show decode cX12_waits 26 = .ok (.iload 4, 2) from by decide +kernel) rfl rfl ?_
      refine sr_cVz (As := [.int v1, .int v2, .int v4]) (st := []) (b := v0) (q := 31) C yvX12_meet ml_X12_514 (cnX12_meet (xo κ) v0 v1 v2 v4 hv0) hv0 (by decide) rfl rfl rfl (by decide) (by decide) (Nat.le_of_ble_eq_true rfl) rfl (show decode cX12_waits 28 = .ok (.invokevirtual 514, 3) from by decide +kernel) rfl (fun x28 => ?_)
      refine sr_if_ne (q := 34) C 37 (show decode cX12_waits 31 = .ok (.ifCond .ne 6, 3) from by decide +kernel) (by decide) rfl ?_ ?_
      · refine sr_iinc (v := v4 + (1 : Int32)) (L' := [some (xad κ v0), some (.int v1), some (.int v2), none, some (.int (v4 + (1 : Int32)))]) (q := 40) C (show decode cX12_waits 37 = .ok (.iinc 4 1, 3) from by decide +kernel) rfl rfl (by decide) rfl rfl ?_
        refine sr_goto (q := 16) C (show decode cX12_waits 40 = .ok (.goto (-24), 3) from by decide +kernel) (by decide) ?_
        exact K16 v0 v1 v2 (v4 + (1 : Int32)) hv0
      · refine sr_iload (i := 4) (q := 36) C (show decode cX12_waits 34 = .ok (.iload 4, 2) from by decide +kernel) rfl rfl ?_
        exact sr_ireturn C _ rfl (show decode cX12_waits 36 = .ok (.ireturn, 1) from by decide +kernel)
def fnX12_waits (v0 : Nat) (v1 : Int32) (v2 : Int32) : sm_M Int32 := m_bnd (fnX12_asksTwo v0 v1 v2) fun x3 => m_br (0 ≤ x3)
    (fnX12_waits_L16 4096 v0 v1 v2 (0 : Int32))
    (m_ret x3)
set_option maxHeartbeats 4000000 in
set_option maxRecDepth 100000 in
theorem slX12_waits {κ : sm_X} (C : sm_C κ RX12 cX12_waits 5 4) (v0 : Nat) (v1 : Int32) (v2 : Int32) (hv0 : kd v0 = 12) : sm_S κ (fun r : Int32 => .inr (some (.int r))) (.inl (0, [some (xad κ v0), some (.int v1), some (.int v2), none, none], [])) (fnX12_waits v0 v1 v2) := by
  unfold fnX12_waits
  refine sr_aload_n (i := 0) (q := 1) C (show decode cX12_waits 0 = .ok (.aload_n 0, 1) from by decide +kernel) rfl rfl rfl ?_
  refine sr_iload_n (i := 1) (q := 2) C (show decode cX12_waits 1 = .ok (.iload_n 1, 1) from by decide +kernel) rfl rfl rfl ?_
  refine sr_iload_n (i := 2) (q := 3) C (show decode cX12_waits 2 = .ok (.iload_n 2, 1) from by decide +kernel) rfl rfl rfl ?_
  refine sr_cVi (As := [.int v1, .int v2]) (st := []) (b := v0) (q := 6) C yvX12_asksTwo ml_X12_511 (cnX12_asksTwo (xo κ) v0 v1 v2 hv0) hv0 (by decide) rfl rfl rfl (by decide) (by decide) (Nat.le_of_ble_eq_true rfl) rfl (show decode cX12_waits 3 = .ok (.invokevirtual 511, 3) from by decide +kernel) rfl (fun x3 => ?_)
  refine sr_istore_n (i := 3) (L' := [some (xad κ v0), some (.int v1), some (.int v2), some (.int x3), none]) (q := 7) C (show decode cX12_waits 6 = .ok (.istore_n 3, 1) from by decide +kernel) rfl (by decide) rfl rfl ?_
  refine sr_iload_n (i := 3) (q := 8) C (show decode cX12_waits 7 = .ok (.iload_n 3, 1) from by decide +kernel) rfl rfl rfl ?_
  refine sr_if_ge (q := 11) C 13 (show decode cX12_waits 8 = .ok (.ifCond .ge 5, 3) from by decide +kernel) (by decide) rfl ?_ ?_
  · refine sr_iconst (v := (0 : Int32)) (q := 14) C (show decode cX12_waits 13 = .ok (.iconst 0, 1) from by decide +kernel) (by decide) rfl ?_
    refine sr_istore (i := 4) (L' := [some (xad κ v0), some (.int v1), some (.int v2), some (.int x3), some (.int (0 : Int32))]) (q := 16) C (show decode cX12_waits 14 = .ok (.istore 4, 2) from by decide +kernel) (by decide) rfl rfl ?_
    refine sr_weak (L' := [some (xad κ v0), some (.int v1), some (.int v2), none, some (.int (0 : Int32))]) ⟨rfl, rfl, rfl, rfl, trivial⟩ ?_
    exact slX12_waits_L16 C 4096 v0 v1 v2 (0 : Int32) hv0
  · refine sr_iload_n (i := 3) (q := 12) C (show decode cX12_waits 11 = .ok (.iload_n 3, 1) from by decide +kernel) rfl rfl rfl ?_
    exact sr_ireturn C _ rfl (show decode cX12_waits 12 = .ok (.ireturn, 1) from by decide +kernel)
theorem cnX12_waits (ω : sm_O) (v0 : Nat) (v1 : Int32) (v2 : Int32) (hv0 : kd v0 = 12) : sm_Mt 4 yX12_waits cX12_waits 5 (some .int) ω [.ref (ω.1 + v0), .int v1, .int v2] (fun a => some (.int a)) (fnX12_waits v0 v1 v2) := by
  refine sm_conI (r := fun a => a) (by decide) (fun _ => rfl) (Nat.le_of_ble_eq_true rfl) ?_
  intro κ hκ C
  subst hκ
  exact slX12_waits C v0 v1 v2 hv0
def fnX12_where_J119 (k37 : Nat → Int32 → Int32 → Int32 → Int32 → Int32 → sm_M Int32) (v0 : Nat) (v1 : Int32) (v2 : Int32) (v3 : Int32) (v4 : Int32) (v5 : Int32) : sm_M Int32 := k37 v0 v1 v2 v3 v4 (v5 + (1 : Int32))
set_option maxHeartbeats 4000000 in
set_option maxRecDepth 100000 in
theorem slX12_where_J119 {κ : sm_X} (C : sm_C κ RX12 cX12_where 8 6) {k37 : Nat → Int32 → Int32 → Int32 → Int32 → Int32 → sm_M Int32} (K37 : ∀ (v0 : Nat) (v1 : Int32) (v2 : Int32) (v3 : Int32) (v4 : Int32) (v5 : Int32) (hv0 : kd v0 = 12), sm_S κ (fun r : Int32 => .inr (some (.int r))) (.inl (37, [some (xad κ v0), some (.int v1), some (.int v2), some (.int v3), some (.int v4), some (.int v5), none, none], [])) (k37 v0 v1 v2 v3 v4 v5)) (v0 : Nat) (v1 : Int32) (v2 : Int32) (v3 : Int32) (v4 : Int32) (v5 : Int32) (hv0 : kd v0 = 12) : sm_S κ (fun r : Int32 => .inr (some (.int r))) (.inl (119, [some (xad κ v0), some (.int v1), some (.int v2), some (.int v3), some (.int v4), some (.int v5), none, none], [])) (fnX12_where_J119 k37 v0 v1 v2 v3 v4 v5) := by
  unfold fnX12_where_J119
  refine sr_iinc (v := v5 + (1 : Int32)) (L' := [some (xad κ v0), some (.int v1), some (.int v2), some (.int v3), some (.int v4), some (.int (v5 + (1 : Int32))), none, none]) (q := 122) C (show decode cX12_where 119 = .ok (.iinc 5 1, 3) from by decide +kernel) rfl rfl (by decide) rfl rfl ?_
  refine sr_goto (q := 37) C (show decode cX12_where 122 = .ok (.goto (-85), 3) from by decide +kernel) (by decide) ?_
  exact K37 v0 v1 v2 v3 v4 (v5 + (1 : Int32)) hv0
def fnX12_where_J113 (k37 : Nat → Int32 → Int32 → Int32 → Int32 → Int32 → sm_M Int32) (k51 : Nat → Int32 → Int32 → Int32 → Int32 → Int32 → Int32 → sm_M Int32) (v0 : Nat) (v1 : Int32) (v2 : Int32) (v3 : Int32) (v4 : Int32) (v5 : Int32) (v6 : Int32) : sm_M Int32 := k51 v0 v1 v2 v3 v4 v5 (v6 + (1 : Int32))
set_option maxHeartbeats 4000000 in
set_option maxRecDepth 100000 in
theorem slX12_where_J113 {κ : sm_X} (C : sm_C κ RX12 cX12_where 8 6) {k37 : Nat → Int32 → Int32 → Int32 → Int32 → Int32 → sm_M Int32} (K37 : ∀ (v0 : Nat) (v1 : Int32) (v2 : Int32) (v3 : Int32) (v4 : Int32) (v5 : Int32) (hv0 : kd v0 = 12), sm_S κ (fun r : Int32 => .inr (some (.int r))) (.inl (37, [some (xad κ v0), some (.int v1), some (.int v2), some (.int v3), some (.int v4), some (.int v5), none, none], [])) (k37 v0 v1 v2 v3 v4 v5)) {k51 : Nat → Int32 → Int32 → Int32 → Int32 → Int32 → Int32 → sm_M Int32} (K51 : ∀ (v0 : Nat) (v1 : Int32) (v2 : Int32) (v3 : Int32) (v4 : Int32) (v5 : Int32) (v6 : Int32) (hv0 : kd v0 = 12), sm_S κ (fun r : Int32 => .inr (some (.int r))) (.inl (51, [some (xad κ v0), some (.int v1), some (.int v2), some (.int v3), some (.int v4), some (.int v5), some (.int v6), none], [])) (k51 v0 v1 v2 v3 v4 v5 v6)) (v0 : Nat) (v1 : Int32) (v2 : Int32) (v3 : Int32) (v4 : Int32) (v5 : Int32) (v6 : Int32) (hv0 : kd v0 = 12) : sm_S κ (fun r : Int32 => .inr (some (.int r))) (.inl (113, [some (xad κ v0), some (.int v1), some (.int v2), some (.int v3), some (.int v4), some (.int v5), some (.int v6), none], [])) (fnX12_where_J113 k37 k51 v0 v1 v2 v3 v4 v5 v6) := by
  unfold fnX12_where_J113
  refine sr_iinc (v := v6 + (1 : Int32)) (L' := [some (xad κ v0), some (.int v1), some (.int v2), some (.int v3), some (.int v4), some (.int v5), some (.int (v6 + (1 : Int32))), none]) (q := 116) C (show decode cX12_where 113 = .ok (.iinc 6 1, 3) from by decide +kernel) rfl rfl (by decide) rfl rfl ?_
  refine sr_goto (q := 51) C (show decode cX12_where 116 = .ok (.goto (-65), 3) from by decide +kernel) (by decide) ?_
  exact K51 v0 v1 v2 v3 v4 v5 (v6 + (1 : Int32)) hv0
def fnX12_where_J88 (k37 : Nat → Int32 → Int32 → Int32 → Int32 → Int32 → sm_M Int32) (k51 : Nat → Int32 → Int32 → Int32 → Int32 → Int32 → Int32 → sm_M Int32) (v0 : Nat) (v1 : Int32) (v2 : Int32) (v3 : Int32) (v4 : Int32) (v5 : Int32) (v6 : Int32) (s0 : Int32) : sm_M Int32 := m_br (v4 < s0)
    (m_nm (v6 + ((100 : Int32) * v5)) fun y108 => fnX12_where_J113 k37 k51 v0 v1 v2 y108 s0 v5 v6)
    (fnX12_where_J113 k37 k51 v0 v1 v2 v3 v4 v5 v6)
set_option maxHeartbeats 4000000 in
set_option maxRecDepth 100000 in
theorem slX12_where_J88 {κ : sm_X} (C : sm_C κ RX12 cX12_where 8 6) {k37 : Nat → Int32 → Int32 → Int32 → Int32 → Int32 → sm_M Int32} (K37 : ∀ (v0 : Nat) (v1 : Int32) (v2 : Int32) (v3 : Int32) (v4 : Int32) (v5 : Int32) (hv0 : kd v0 = 12), sm_S κ (fun r : Int32 => .inr (some (.int r))) (.inl (37, [some (xad κ v0), some (.int v1), some (.int v2), some (.int v3), some (.int v4), some (.int v5), none, none], [])) (k37 v0 v1 v2 v3 v4 v5)) {k51 : Nat → Int32 → Int32 → Int32 → Int32 → Int32 → Int32 → sm_M Int32} (K51 : ∀ (v0 : Nat) (v1 : Int32) (v2 : Int32) (v3 : Int32) (v4 : Int32) (v5 : Int32) (v6 : Int32) (hv0 : kd v0 = 12), sm_S κ (fun r : Int32 => .inr (some (.int r))) (.inl (51, [some (xad κ v0), some (.int v1), some (.int v2), some (.int v3), some (.int v4), some (.int v5), some (.int v6), none], [])) (k51 v0 v1 v2 v3 v4 v5 v6)) (v0 : Nat) (v1 : Int32) (v2 : Int32) (v3 : Int32) (v4 : Int32) (v5 : Int32) (v6 : Int32) (s0 : Int32) (hv0 : kd v0 = 12) : sm_S κ (fun r : Int32 => .inr (some (.int r))) (.inl (88, [some (xad κ v0), some (.int v1), some (.int v2), some (.int v3), some (.int v4), some (.int v5), some (.int v6), none], [.int s0])) (fnX12_where_J88 k37 k51 v0 v1 v2 v3 v4 v5 v6 s0) := by
  unfold fnX12_where_J88
  refine sr_istore (i := 7) (L' := [some (xad κ v0), some (.int v1), some (.int v2), some (.int v3), some (.int v4), some (.int v5), some (.int v6), some (.int s0)]) (q := 90) C (show decode cX12_where 88 = .ok (.istore 7, 2) from by decide +kernel) (by decide) rfl rfl ?_
  refine sr_iload (i := 7) (q := 92) C (show decode cX12_where 90 = .ok (.iload 7, 2) from by decide +kernel) rfl rfl ?_
  refine sr_iload (i := 4) (q := 94) C (show decode cX12_where 92 = .ok (.iload 4, 2) from by decide +kernel) rfl rfl ?_
  refine sr_icmp_gt (q := 97) C 100 (show decode cX12_where 94 = .ok (.if_icmp .gt 6, 3) from by decide +kernel) (by decide) rfl ?_ ?_
  · refine sr_iload (i := 6) (q := 102) C (show decode cX12_where 100 = .ok (.iload 6, 2) from by decide +kernel) rfl rfl ?_
    refine sr_bipush (v := (100 : Int32)) (q := 104) C (show decode cX12_where 102 = .ok (.bipush 100, 2) from by decide +kernel) (by decide) rfl ?_
    refine sr_iload (i := 5) (q := 106) C (show decode cX12_where 104 = .ok (.iload 5, 2) from by decide +kernel) rfl rfl ?_
    refine sr_imul (q := 107) C (show decode cX12_where 106 = .ok (.imul, 1) from by decide +kernel) rfl ?_
    refine sr_iadd (q := 108) C (show decode cX12_where 107 = .ok (.iadd, 1) from by decide +kernel) rfl ?_
    refine sr_nmi (fun y108 => ?_)
    refine sr_istore_n (i := 3) (L' := [some (xad κ v0), some (.int v1), some (.int v2), some (.int y108), some (.int v4), some (.int v5), some (.int v6), some (.int s0)]) (q := 109) C (show decode cX12_where 108 = .ok (.istore_n 3, 1) from by decide +kernel) rfl (by decide) rfl rfl ?_
    refine sr_iload (i := 7) (q := 111) C (show decode cX12_where 109 = .ok (.iload 7, 2) from by decide +kernel) rfl rfl ?_
    refine sr_istore (i := 4) (L' := [some (xad κ v0), some (.int v1), some (.int v2), some (.int y108), some (.int s0), some (.int v5), some (.int v6), some (.int s0)]) (q := 113) C (show decode cX12_where 111 = .ok (.istore 4, 2) from by decide +kernel) (by decide) rfl rfl ?_
    refine sr_weak (L' := [some (xad κ v0), some (.int v1), some (.int v2), some (.int y108), some (.int s0), some (.int v5), some (.int v6), none]) ⟨rfl, rfl, rfl, rfl, rfl, rfl, rfl, trivial⟩ ?_
    exact slX12_where_J113 C K37 K51 v0 v1 v2 y108 s0 v5 v6 hv0
  · refine sr_goto (q := 113) C (show decode cX12_where 97 = .ok (.goto 16, 3) from by decide +kernel) (by decide) ?_
    refine sr_weak (L' := [some (xad κ v0), some (.int v1), some (.int v2), some (.int v3), some (.int v4), some (.int v5), some (.int v6), none]) ⟨rfl, rfl, rfl, rfl, rfl, rfl, rfl, trivial⟩ ?_
    exact slX12_where_J113 C K37 K51 v0 v1 v2 v3 v4 v5 v6 hv0
def fnX12_where_L51 (k37 : Nat → Int32 → Int32 → Int32 → Int32 → Int32 → sm_M Int32) : Nat → Nat → Int32 → Int32 → Int32 → Int32 → Int32 → Int32 → sm_M Int32
  | 0, _, _, _, _, _, _, _ => m_fail
  | n + 1, v0, v1, v2, v3, v4, v5, v6 => m_ai (lk v0 1) (2 : Int32) fun x58 => m_br (x58 ≤ v6)
    (fnX12_where_J119 k37 v0 v1 v2 v3 v4 v5)
    (m_bnd (fnX12_stoneOn v0 v6 v5) fun x67 => m_br (x67 = (-1 : Int32))
    (m_bnd (fnX12_withMore v0 v6 v5 v1 v2) fun x81 => fnX12_where_J88 k37 (fnX12_where_L51 k37 n) v0 v1 v2 v3 v4 v5 v6 x81)
    (fnX12_where_J88 k37 (fnX12_where_L51 k37 n) v0 v1 v2 v3 v4 v5 v6 (-1 : Int32)))
set_option maxHeartbeats 4000000 in
set_option maxRecDepth 100000 in
theorem slX12_where_L51 {κ : sm_X} (C : sm_C κ RX12 cX12_where 8 6) {k37 : Nat → Int32 → Int32 → Int32 → Int32 → Int32 → sm_M Int32} (K37 : ∀ (v0 : Nat) (v1 : Int32) (v2 : Int32) (v3 : Int32) (v4 : Int32) (v5 : Int32) (hv0 : kd v0 = 12), sm_S κ (fun r : Int32 => .inr (some (.int r))) (.inl (37, [some (xad κ v0), some (.int v1), some (.int v2), some (.int v3), some (.int v4), some (.int v5), none, none], [])) (k37 v0 v1 v2 v3 v4 v5)) : ∀ (n : Nat) (v0 : Nat) (v1 : Int32) (v2 : Int32) (v3 : Int32) (v4 : Int32) (v5 : Int32) (v6 : Int32) (hv0 : kd v0 = 12), sm_S κ (fun r : Int32 => .inr (some (.int r))) (.inl (51, [some (xad κ v0), some (.int v1), some (.int v2), some (.int v3), some (.int v4), some (.int v5), some (.int v6), none], [])) (fnX12_where_L51 k37 n v0 v1 v2 v3 v4 v5 v6) := by
  intro n
  induction n with
  | zero =>
    intros
    exact sr_fail
  | succ n K51 =>
    intro v0 v1 v2 v3 v4 v5 v6 hv0
    unfold fnX12_where_L51
    refine sr_iload (i := 6) (q := 53) C (show decode cX12_where 51 = .ok (.iload 6, 2) from by decide +kernel) rfl rfl ?_
    refine sr_aload_n (i := 0) (q := 54) C (show decode cX12_where 53 = .ok (.aload_n 0, 1) from by decide +kernel) rfl rfl rfl ?_
    refine sr_getr (q := 57) C fl_X12_9 hv0 (show decode cX12_where 54 = .ok (.getfield 9, 3) from by decide +kernel) rfl ?_
    refine sr_iconst (v := (2 : Int32)) (q := 58) C (show decode cX12_where 57 = .ok (.iconst 2, 1) from by decide +kernel) (by decide) rfl ?_
    refine sr_iaload (q := 59) C (kt hv0 kp_12_1) (show decode cX12_where 58 = .ok (.iaload, 1) from by decide +kernel) rfl (fun x58 => ?_)
    refine sr_icmp_ge (q := 62) C 119 (show decode cX12_where 59 = .ok (.if_icmp .ge 60, 3) from by decide +kernel) (by decide) rfl ?_ ?_
    · refine sr_weak (L' := [some (xad κ v0), some (.int v1), some (.int v2), some (.int v3), some (.int v4), some (.int v5), none, none]) ⟨rfl, rfl, rfl, rfl, rfl, rfl, trivial⟩ ?_
      exact slX12_where_J119 C K37 v0 v1 v2 v3 v4 v5 hv0
    · refine sr_aload_n (i := 0) (q := 63) C (show decode cX12_where 62 = .ok (.aload_n 0, 1) from by decide +kernel) rfl rfl rfl ?_
      refine sr_iload (i := 6) (q := 65) C (show decode cX12_where 63 = .ok (.iload 6, 2) from by decide +kernel) rfl rfl ?_
      refine sr_iload (i := 5) (q := 67) C (show decode cX12_where 65 = .ok (.iload 5, 2) from by decide +kernel) rfl rfl ?_
      refine sr_cVi (As := [.int v6, .int v5]) (st := []) (b := v0) (q := 70) C yvX12_stoneOn ml_X12_462 (cnX12_stoneOn (xo κ) v0 v6 v5 hv0) hv0 (by decide) rfl rfl rfl (by decide) (by decide) (Nat.le_of_ble_eq_true rfl) rfl (show decode cX12_where 67 = .ok (.invokevirtual 462, 3) from by decide +kernel) rfl (fun x67 => ?_)
      refine sr_iconst (v := (-1 : Int32)) (q := 71) C (show decode cX12_where 70 = .ok (.iconst (-1), 1) from by decide +kernel) (by decide) rfl ?_
      refine sr_icmp_ne (q := 74) C 87 (show decode cX12_where 71 = .ok (.if_icmp .ne 16, 3) from by decide +kernel) (by decide) rfl ?_ ?_
      · refine sr_iconst (v := (-1 : Int32)) (q := 88) C (show decode cX12_where 87 = .ok (.iconst (-1), 1) from by decide +kernel) (by decide) rfl ?_
        exact slX12_where_J88 C K37 K51 v0 v1 v2 v3 v4 v5 v6 (-1 : Int32) hv0
      · refine sr_aload_n (i := 0) (q := 75) C (show decode cX12_where 74 = .ok (.aload_n 0, 1) from by decide +kernel) rfl rfl rfl ?_
        refine sr_iload (i := 6) (q := 77) C (show decode cX12_where 75 = .ok (.iload 6, 2) from by decide +kernel) rfl rfl ?_
        refine sr_iload (i := 5) (q := 79) C (show decode cX12_where 77 = .ok (.iload 5, 2) from by decide +kernel) rfl rfl ?_
        refine sr_iload_n (i := 1) (q := 80) C (show decode cX12_where 79 = .ok (.iload_n 1, 1) from by decide +kernel) rfl rfl rfl ?_
        refine sr_iload_n (i := 2) (q := 81) C (show decode cX12_where 80 = .ok (.iload_n 2, 1) from by decide +kernel) rfl rfl rfl ?_
        refine sr_cVi (As := [.int v6, .int v5, .int v1, .int v2]) (st := []) (b := v0) (q := 84) C yvX12_withMore ml_X12_465 (cnX12_withMore (xo κ) v0 v6 v5 v1 v2 hv0) hv0 (by decide) rfl rfl rfl (by decide) (by decide) (Nat.le_of_ble_eq_true rfl) rfl (show decode cX12_where 81 = .ok (.invokevirtual 465, 3) from by decide +kernel) rfl (fun x81 => ?_)
        refine sr_goto (q := 88) C (show decode cX12_where 84 = .ok (.goto 4, 3) from by decide +kernel) (by decide) ?_
        exact slX12_where_J88 C K37 K51 v0 v1 v2 v3 v4 v5 v6 x81 hv0
def fnX12_where_L37 : Nat → Nat → Int32 → Int32 → Int32 → Int32 → Int32 → sm_M Int32
  | 0, _, _, _, _, _, _ => m_fail
  | n + 1, v0, v1, v2, v3, v4, v5 => m_ai (lk v0 1) (1 : Int32) fun x44 => m_br (x44 ≤ v5)
    (m_ret v3)
    (fnX12_where_L51 (fnX12_where_L37 n) 4096 v0 v1 v2 v3 v4 v5 (0 : Int32))
set_option maxHeartbeats 4000000 in
set_option maxRecDepth 100000 in
theorem slX12_where_L37 {κ : sm_X} (C : sm_C κ RX12 cX12_where 8 6) : ∀ (n : Nat) (v0 : Nat) (v1 : Int32) (v2 : Int32) (v3 : Int32) (v4 : Int32) (v5 : Int32) (hv0 : kd v0 = 12), sm_S κ (fun r : Int32 => .inr (some (.int r))) (.inl (37, [some (xad κ v0), some (.int v1), some (.int v2), some (.int v3), some (.int v4), some (.int v5), none, none], [])) (fnX12_where_L37 n v0 v1 v2 v3 v4 v5) := by
  intro n
  induction n with
  | zero =>
    intros
    exact sr_fail
  | succ n K37 =>
    intro v0 v1 v2 v3 v4 v5 hv0
    unfold fnX12_where_L37
    refine sr_iload (i := 5) (q := 39) C (show decode cX12_where 37 = .ok (.iload 5, 2) from by decide +kernel) rfl rfl ?_
    refine sr_aload_n (i := 0) (q := 40) C (show decode cX12_where 39 = .ok (.aload_n 0, 1) from by decide +kernel) rfl rfl rfl ?_
    refine sr_getr (q := 43) C fl_X12_9 hv0 (show decode cX12_where 40 = .ok (.getfield 9, 3) from by decide +kernel) rfl ?_
    refine sr_iconst (v := (1 : Int32)) (q := 44) C (show decode cX12_where 43 = .ok (.iconst 1, 1) from by decide +kernel) (by decide) rfl ?_
    refine sr_iaload (q := 45) C (kt hv0 kp_12_1) (show decode cX12_where 44 = .ok (.iaload, 1) from by decide +kernel) rfl (fun x44 => ?_)
    refine sr_icmp_ge (q := 48) C 125 (show decode cX12_where 45 = .ok (.if_icmp .ge 80, 3) from by decide +kernel) (by decide) rfl ?_ ?_
    · refine sr_iload_n (i := 3) (q := 126) C (show decode cX12_where 125 = .ok (.iload_n 3, 1) from by decide +kernel) rfl rfl rfl ?_
      exact sr_ireturn C _ rfl (show decode cX12_where 126 = .ok (.ireturn, 1) from by decide +kernel)
    · refine sr_iconst (v := (0 : Int32)) (q := 49) C (show decode cX12_where 48 = .ok (.iconst 0, 1) from by decide +kernel) (by decide) rfl ?_
      refine sr_istore (i := 6) (L' := [some (xad κ v0), some (.int v1), some (.int v2), some (.int v3), some (.int v4), some (.int v5), some (.int (0 : Int32)), none]) (q := 51) C (show decode cX12_where 49 = .ok (.istore 6, 2) from by decide +kernel) (by decide) rfl rfl ?_
      exact slX12_where_L51 C K37 4096 v0 v1 v2 v3 v4 v5 (0 : Int32) hv0
def fnX12_where (v0 : Nat) (v1 : Int32) (v2 : Int32) : sm_M Int32 := m_bnd (fnX12_isRiver v0) fun x1 => m_br ((bI x1) = 0)
    (m_ret (-2 : Int32))
    (m_bnd (fnX12_in v1.toInt64 (1 : Int64) (9 : Int64)) fun x13 => m_br ((bI x13) = 0)
    (m_ret (-2 : Int32))
    (m_bnd (fnX12_isStride v2) fun x20 => m_br ((bI x20) = 0)
    (m_ret (-2 : Int32))
    (fnX12_where_L37 4096 v0 v1 v2 (-1 : Int32) (-1 : Int32) (1 : Int32))))
set_option maxHeartbeats 4000000 in
set_option maxRecDepth 100000 in
theorem slX12_where {κ : sm_X} (C : sm_C κ RX12 cX12_where 8 6) (v0 : Nat) (v1 : Int32) (v2 : Int32) (hv0 : kd v0 = 12) : sm_S κ (fun r : Int32 => .inr (some (.int r))) (.inl (0, [some (xad κ v0), some (.int v1), some (.int v2), none, none, none, none, none], [])) (fnX12_where v0 v1 v2) := by
  unfold fnX12_where
  refine sr_aload_n (i := 0) (q := 1) C (show decode cX12_where 0 = .ok (.aload_n 0, 1) from by decide +kernel) rfl rfl rfl ?_
  refine sr_cVz (As := []) (st := []) (b := v0) (q := 4) C yvX12_isRiver ml_X12_107 (cnX12_isRiver (xo κ) v0 hv0) hv0 (by decide) rfl rfl rfl (by decide) (by decide) (Nat.le_of_ble_eq_true rfl) rfl (show decode cX12_where 1 = .ok (.invokevirtual 107, 3) from by decide +kernel) rfl (fun x1 => ?_)
  refine sr_if_eq (q := 7) C 26 (show decode cX12_where 4 = .ok (.ifCond .eq 22, 3) from by decide +kernel) (by decide) rfl ?_ ?_
  · refine sr_bipush (v := (-2 : Int32)) (q := 28) C (show decode cX12_where 26 = .ok (.bipush (-2), 2) from by decide +kernel) (by decide) rfl ?_
    exact sr_ireturn C _ rfl (show decode cX12_where 28 = .ok (.ireturn, 1) from by decide +kernel)
  · refine sr_iload_n (i := 1) (q := 8) C (show decode cX12_where 7 = .ok (.iload_n 1, 1) from by decide +kernel) rfl rfl rfl ?_
    refine sr_i2l (q := 9) C (show decode cX12_where 8 = .ok (.i2l, 1) from by decide +kernel) rfl ?_
    refine sr_lconst (v := (1 : Int64)) (q := 10) C (show decode cX12_where 9 = .ok (.lconst 1, 1) from by decide +kernel) (by decide) rfl ?_
    refine sr_ldc2 (q := 13) C co_X12_262 (show decode cX12_where 10 = .ok (.ldc2_w 262, 3) from by decide +kernel) rfl ?_
    refine sr_cSz (As := [.long v1.toInt64, .long (1 : Int64), .long (9 : Int64)]) (st := []) (q := 16) C ysX12_in ml_X12_103 (cnX12_in (xo κ) v1.toInt64 (1 : Int64) (9 : Int64)) rfl (by decide) (by decide) (Nat.le_of_ble_eq_true rfl) rfl (show decode cX12_where 13 = .ok (.invokestatic 103, 3) from by decide +kernel) rfl (fun x13 => ?_)
    refine sr_if_eq (q := 19) C 26 (show decode cX12_where 16 = .ok (.ifCond .eq 10, 3) from by decide +kernel) (by decide) rfl ?_ ?_
    · refine sr_bipush (v := (-2 : Int32)) (q := 28) C (show decode cX12_where 26 = .ok (.bipush (-2), 2) from by decide +kernel) (by decide) rfl ?_
      exact sr_ireturn C _ rfl (show decode cX12_where 28 = .ok (.ireturn, 1) from by decide +kernel)
    · refine sr_iload_n (i := 2) (q := 20) C (show decode cX12_where 19 = .ok (.iload_n 2, 1) from by decide +kernel) rfl rfl rfl ?_
      refine sr_cSz (As := [.int v2]) (st := []) (q := 23) C ysX12_isStride ml_X12_267 (cnX12_isStride (xo κ) v2) rfl (by decide) (by decide) (Nat.le_of_ble_eq_true rfl) rfl (show decode cX12_where 20 = .ok (.invokestatic 267, 3) from by decide +kernel) rfl (fun x20 => ?_)
      refine sr_if_ne (q := 26) C 29 (show decode cX12_where 23 = .ok (.ifCond .ne 6, 3) from by decide +kernel) (by decide) rfl ?_ ?_
      · refine sr_iconst (v := (-1 : Int32)) (q := 30) C (show decode cX12_where 29 = .ok (.iconst (-1), 1) from by decide +kernel) (by decide) rfl ?_
        refine sr_istore_n (i := 3) (L' := [some (xad κ v0), some (.int v1), some (.int v2), some (.int (-1 : Int32)), none, none, none, none]) (q := 31) C (show decode cX12_where 30 = .ok (.istore_n 3, 1) from by decide +kernel) rfl (by decide) rfl rfl ?_
        refine sr_iconst (v := (-1 : Int32)) (q := 32) C (show decode cX12_where 31 = .ok (.iconst (-1), 1) from by decide +kernel) (by decide) rfl ?_
        refine sr_istore (i := 4) (L' := [some (xad κ v0), some (.int v1), some (.int v2), some (.int (-1 : Int32)), some (.int (-1 : Int32)), none, none, none]) (q := 34) C (show decode cX12_where 32 = .ok (.istore 4, 2) from by decide +kernel) (by decide) rfl rfl ?_
        refine sr_iconst (v := (1 : Int32)) (q := 35) C (show decode cX12_where 34 = .ok (.iconst 1, 1) from by decide +kernel) (by decide) rfl ?_
        refine sr_istore (i := 5) (L' := [some (xad κ v0), some (.int v1), some (.int v2), some (.int (-1 : Int32)), some (.int (-1 : Int32)), some (.int (1 : Int32)), none, none]) (q := 37) C (show decode cX12_where 35 = .ok (.istore 5, 2) from by decide +kernel) (by decide) rfl rfl ?_
        exact slX12_where_L37 C 4096 v0 v1 v2 (-1 : Int32) (-1 : Int32) (1 : Int32) hv0
      · refine sr_bipush (v := (-2 : Int32)) (q := 28) C (show decode cX12_where 26 = .ok (.bipush (-2), 2) from by decide +kernel) (by decide) rfl ?_
        exact sr_ireturn C _ rfl (show decode cX12_where 28 = .ok (.ireturn, 1) from by decide +kernel)
theorem cnX12_where (ω : sm_O) (v0 : Nat) (v1 : Int32) (v2 : Int32) (hv0 : kd v0 = 12) : sm_Mt 6 yX12_where cX12_where 8 (some .int) ω [.ref (ω.1 + v0), .int v1, .int v2] (fun a => some (.int a)) (fnX12_where v0 v1 v2) := by
  refine sm_conI (r := fun a => a) (by decide) (fun _ => rfl) (Nat.le_of_ble_eq_true rfl) ?_
  intro κ hκ C
  subst hκ
  exact slX12_where C v0 v1 v2 hv0
def fnX12_write (v0 : Nat) (v1 : Int32) (v2 : Int32) (v3 : Int64) : sm_M Int32 := m_bnd (fnX12_isSlot v1) fun x1 => m_br ((bI x1) = 0)
    (m_ret (-2 : Int32))
    (m_ai (lk v0 43) v1 fun x15 => m_br (x15 = (-1 : Int32))
    (m_ret (-6 : Int32))
    (m_ai (lk v0 43) v1 fun x31 => m_bnd (fnX12_in v2.toInt64 (0 : Int64) ((x31 - (1 : Int32)).toInt64)) fun x35 => m_br ((bI x35) = 0)
    (m_ret (-7 : Int32))
    (m_ai (lk v0 44) v1 fun x60 => m_bnd (fnX12_cut_ v3 x60) fun x61 => m_sal (lk v0 45) (((60 : Int32) * v1) + v2) x61 <| m_ret (0 : Int32))))
set_option maxHeartbeats 4000000 in
set_option maxRecDepth 100000 in
theorem slX12_write {κ : sm_X} (C : sm_C κ RX12 cX12_write 5 3) (v0 : Nat) (v1 : Int32) (v2 : Int32) (v3 : Int64) (hv0 : kd v0 = 12) : sm_S κ (fun r : Int32 => .inr (some (.int r))) (.inl (0, [some (xad κ v0), some (.int v1), some (.int v2), some (.long v3), none], [])) (fnX12_write v0 v1 v2 v3) := by
  unfold fnX12_write
  refine sr_iload_n (i := 1) (q := 1) C (show decode cX12_write 0 = .ok (.iload_n 1, 1) from by decide +kernel) rfl rfl rfl ?_
  refine sr_cSz (As := [.int v1]) (st := []) (q := 4) C ysX12_isSlot ml_X12_336 (cnX12_isSlot (xo κ) v1) rfl (by decide) (by decide) (Nat.le_of_ble_eq_true rfl) rfl (show decode cX12_write 1 = .ok (.invokestatic 336, 3) from by decide +kernel) rfl (fun x1 => ?_)
  refine sr_if_ne (q := 7) C 10 (show decode cX12_write 4 = .ok (.ifCond .ne 6, 3) from by decide +kernel) (by decide) rfl ?_ ?_
  · refine sr_aload_n (i := 0) (q := 11) C (show decode cX12_write 10 = .ok (.aload_n 0, 1) from by decide +kernel) rfl rfl rfl ?_
    refine sr_getr (q := 14) C fl_X12_86 hv0 (show decode cX12_write 11 = .ok (.getfield 86, 3) from by decide +kernel) rfl ?_
    refine sr_iload_n (i := 1) (q := 15) C (show decode cX12_write 14 = .ok (.iload_n 1, 1) from by decide +kernel) rfl rfl rfl ?_
    refine sr_iaload (q := 16) C (kt hv0 kp_12_43) (show decode cX12_write 15 = .ok (.iaload, 1) from by decide +kernel) rfl (fun x15 => ?_)
    refine sr_iconst (v := (-1 : Int32)) (q := 17) C (show decode cX12_write 16 = .ok (.iconst (-1), 1) from by decide +kernel) (by decide) rfl ?_
    refine sr_icmp_ne (q := 20) C 23 (show decode cX12_write 17 = .ok (.if_icmp .ne 6, 3) from by decide +kernel) (by decide) rfl ?_ ?_
    · refine sr_iload_n (i := 2) (q := 24) C (show decode cX12_write 23 = .ok (.iload_n 2, 1) from by decide +kernel) rfl rfl rfl ?_
      refine sr_i2l (q := 25) C (show decode cX12_write 24 = .ok (.i2l, 1) from by decide +kernel) rfl ?_
      refine sr_lconst (v := (0 : Int64)) (q := 26) C (show decode cX12_write 25 = .ok (.lconst 0, 1) from by decide +kernel) (by decide) rfl ?_
      refine sr_aload_n (i := 0) (q := 27) C (show decode cX12_write 26 = .ok (.aload_n 0, 1) from by decide +kernel) rfl rfl rfl ?_
      refine sr_getr (q := 30) C fl_X12_86 hv0 (show decode cX12_write 27 = .ok (.getfield 86, 3) from by decide +kernel) rfl ?_
      refine sr_iload_n (i := 1) (q := 31) C (show decode cX12_write 30 = .ok (.iload_n 1, 1) from by decide +kernel) rfl rfl rfl ?_
      refine sr_iaload (q := 32) C (kt hv0 kp_12_43) (show decode cX12_write 31 = .ok (.iaload, 1) from by decide +kernel) rfl (fun x31 => ?_)
      refine sr_iconst (v := (1 : Int32)) (q := 33) C (show decode cX12_write 32 = .ok (.iconst 1, 1) from by decide +kernel) (by decide) rfl ?_
      refine sr_isub (q := 34) C (show decode cX12_write 33 = .ok (.isub, 1) from by decide +kernel) rfl ?_
      refine sr_i2l (q := 35) C (show decode cX12_write 34 = .ok (.i2l, 1) from by decide +kernel) rfl ?_
      refine sr_cSz (As := [.long v2.toInt64, .long (0 : Int64), .long ((x31 - (1 : Int32)).toInt64)]) (st := []) (q := 38) C ysX12_in ml_X12_103 (cnX12_in (xo κ) v2.toInt64 (0 : Int64) ((x31 - (1 : Int32)).toInt64)) rfl (by decide) (by decide) (Nat.le_of_ble_eq_true rfl) rfl (show decode cX12_write 35 = .ok (.invokestatic 103, 3) from by decide +kernel) rfl (fun x35 => ?_)
      refine sr_if_ne (q := 41) C 44 (show decode cX12_write 38 = .ok (.ifCond .ne 6, 3) from by decide +kernel) (by decide) rfl ?_ ?_
      · refine sr_aload_n (i := 0) (q := 45) C (show decode cX12_write 44 = .ok (.aload_n 0, 1) from by decide +kernel) rfl rfl rfl ?_
        refine sr_getr (q := 48) C fl_X12_92 hv0 (show decode cX12_write 45 = .ok (.getfield 92, 3) from by decide +kernel) rfl ?_
        refine sr_bipush (v := (60 : Int32)) (q := 50) C (show decode cX12_write 48 = .ok (.bipush 60, 2) from by decide +kernel) (by decide) rfl ?_
        refine sr_iload_n (i := 1) (q := 51) C (show decode cX12_write 50 = .ok (.iload_n 1, 1) from by decide +kernel) rfl rfl rfl ?_
        refine sr_imul (q := 52) C (show decode cX12_write 51 = .ok (.imul, 1) from by decide +kernel) rfl ?_
        refine sr_iload_n (i := 2) (q := 53) C (show decode cX12_write 52 = .ok (.iload_n 2, 1) from by decide +kernel) rfl rfl rfl ?_
        refine sr_iadd (q := 54) C (show decode cX12_write 53 = .ok (.iadd, 1) from by decide +kernel) rfl ?_
        refine sr_lload_n (i := 3) (q := 55) C (show decode cX12_write 54 = .ok (.lload_n 3, 1) from by decide +kernel) rfl rfl rfl ?_
        refine sr_aload_n (i := 0) (q := 56) C (show decode cX12_write 55 = .ok (.aload_n 0, 1) from by decide +kernel) rfl rfl rfl ?_
        refine sr_getr (q := 59) C fl_X12_89 hv0 (show decode cX12_write 56 = .ok (.getfield 89, 3) from by decide +kernel) rfl ?_
        refine sr_iload_n (i := 1) (q := 60) C (show decode cX12_write 59 = .ok (.iload_n 1, 1) from by decide +kernel) rfl rfl rfl ?_
        refine sr_iaload (q := 61) C (kt hv0 kp_12_44) (show decode cX12_write 60 = .ok (.iaload, 1) from by decide +kernel) rfl (fun x60 => ?_)
        refine sr_cSl (As := [.long v3, .int x60]) (st := [.int (((60 : Int32) * v1) + v2), xad κ (lk v0 45)]) (q := 64) C ysX12_cut_ ml_X12_551 (cnX12_cut_ (xo κ) v3 x60) rfl (by decide) (by decide) (Nat.le_of_ble_eq_true rfl) rfl (show decode cX12_write 61 = .ok (.invokestatic 551, 3) from by decide +kernel) rfl (fun x61 => ?_)
        refine sr_lastore (q := 65) C (kt hv0 kp_12_45) (show decode cX12_write 64 = .ok (.lastore, 1) from by decide +kernel) rfl ?_
        refine sr_iconst (v := (0 : Int32)) (q := 66) C (show decode cX12_write 65 = .ok (.iconst 0, 1) from by decide +kernel) (by decide) rfl ?_
        exact sr_ireturn C _ rfl (show decode cX12_write 66 = .ok (.ireturn, 1) from by decide +kernel)
      · refine sr_bipush (v := (-7 : Int32)) (q := 43) C (show decode cX12_write 41 = .ok (.bipush (-7), 2) from by decide +kernel) (by decide) rfl ?_
        exact sr_ireturn C _ rfl (show decode cX12_write 43 = .ok (.ireturn, 1) from by decide +kernel)
    · refine sr_bipush (v := (-6 : Int32)) (q := 22) C (show decode cX12_write 20 = .ok (.bipush (-6), 2) from by decide +kernel) (by decide) rfl ?_
      exact sr_ireturn C _ rfl (show decode cX12_write 22 = .ok (.ireturn, 1) from by decide +kernel)
  · refine sr_bipush (v := (-2 : Int32)) (q := 9) C (show decode cX12_write 7 = .ok (.bipush (-2), 2) from by decide +kernel) (by decide) rfl ?_
    exact sr_ireturn C _ rfl (show decode cX12_write 9 = .ok (.ireturn, 1) from by decide +kernel)
theorem cnX12_write (ω : sm_O) (v0 : Nat) (v1 : Int32) (v2 : Int32) (v3 : Int64) (hv0 : kd v0 = 12) : sm_Mt 3 yX12_write cX12_write 5 (some .int) ω [.ref (ω.1 + v0), .int v1, .int v2, .long v3] (fun a => some (.int a)) (fnX12_write v0 v1 v2 v3) := by
  refine sm_conI (r := fun a => a) (by decide) (fun _ => rfl) (Nat.le_of_ble_eq_true rfl) ?_
  intro κ hκ C
  subst hκ
  exact slX12_write C v0 v1 v2 v3 hv0
