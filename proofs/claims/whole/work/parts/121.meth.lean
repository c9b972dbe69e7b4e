def fnX12_moved (v0 : Nat) (v1 : Int32) (v2 : Int32) (v3 : Int32) : sm_M Int32 := m_bnd (fnX12_isStone v0 v1) fun x2 => m_br ((bI x2) = 0)
    (m_ret (-2 : Int32))
    (m_bnd (fnX12_in v2.toInt64 (0 : Int64) (4 : Int64)) fun x14 => m_br ((bI x14) = 0)
    (m_ret (-2 : Int32))
    (m_bnd (fnX12_isStride v3) fun x21 => m_br ((bI x21) = 0)
    (m_ret (-2 : Int32))
    (m_bnd (fnX12_movedOf v0 v1 v2 v3) fun x31 => m_ret x31)))
set_option maxHeartbeats 4000000 in
set_option maxRecDepth 100000 in
theorem slX12_moved {κ : sm_X} (C : sm_C κ RX12 cX12_moved 4 6) (v0 : Nat) (v1 : Int32) (v2 : Int32) (v3 : Int32) (hv0 : kd v0 = 12) : sm_S κ (fun r : Int32 => .inr (some (.int r))) (.inl (0, [some (xad κ v0), some (.int v1), some (.int v2), some (.int v3)], [])) (fnX12_moved v0 v1 v2 v3) := by
  unfold fnX12_moved
  refine sr_aload_n (i := 0) (q := 1) C (show decode cX12_moved 0 = .ok (.aload_n 0, 1) from by decide +kernel) rfl rfl rfl ?_
  refine sr_iload_n (i := 1) (q := 2) C (show decode cX12_moved 1 = .ok (.iload_n 1, 1) from by decide +kernel) rfl rfl rfl ?_
  refine sr_cVz (As := [.int v1]) (st := []) (b := v0) (q := 5) C yvX12_isStone ml_X12_111 (cnX12_isStone (xo κ) v0 v1 hv0) hv0 (by decide) rfl rfl rfl (by decide) (by decide) (Nat.le_of_ble_eq_true rfl) rfl (show decode cX12_moved 2 = .ok (.invokevirtual 111, 3) from by decide +kernel) rfl (fun x2 => ?_)
  refine sr_if_eq (q := 8) C 37 (show decode cX12_moved 5 = .ok (.ifCond .eq 32, 3) from by decide +kernel) (by decide) rfl ?_ ?_
  · refine sr_bipush (v := (-2 : Int32)) (q := 39) C (show decode cX12_moved 37 = .ok (.bipush (-2), 2) from by decide +kernel) (by decide) rfl ?_
    exact sr_ireturn C _ rfl (show decode cX12_moved 39 = .ok (.ireturn, 1) from by decide +kernel)
  · refine sr_iload_n (i := 2) (q := 9) C (show decode cX12_moved 8 = .ok (.iload_n 2, 1) from by decide +kernel) rfl rfl rfl ?_
    refine sr_i2l (q := 10) C (show decode cX12_moved 9 = .ok (.i2l, 1) from by decide +kernel) rfl ?_
    refine sr_lconst (v := (0 : Int64)) (q := 11) C (show decode cX12_moved 10 = .ok (.lconst 0, 1) from by decide +kernel) (by decide) rfl ?_
    refine sr_ldc2 (q := 14) C co_X12_248 (show decode cX12_moved 11 = .ok (.ldc2_w 248, 3) from by decide +kernel) rfl ?_
    refine sr_cSz (As := [.long v2.toInt64, .long (0 : Int64), .long (4 : Int64)]) (st := []) (q := 17) C ysX12_in ml_X12_103 (cnX12_in (xo κ) v2.toInt64 (0 : Int64) (4 : Int64)) rfl (by decide) (by decide) (Nat.le_of_ble_eq_true rfl) rfl (show decode cX12_moved 14 = .ok (.invokestatic 103, 3) from by decide +kernel) rfl (fun x14 => ?_)
    refine sr_if_eq (q := 20) C 37 (show decode cX12_moved 17 = .ok (.ifCond .eq 20, 3) from by decide +kernel) (by decide) rfl ?_ ?_
    · refine sr_bipush (v := (-2 : Int32)) (q := 39) C (show decode cX12_moved 37 = .ok (.bipush (-2), 2) from by decide +kernel) (by decide) rfl ?_
      exact sr_ireturn C _ rfl (show decode cX12_moved 39 = .ok (.ireturn, 1) from by decide +kernel)
    · refine sr_iload_n (i := 3) (q := 21) C (show decode cX12_moved 20 = .ok (.iload_n 3, 1) from by decide +kernel) rfl rfl rfl ?_
      refine sr_cSz (As := [.int v3]) (st := []) (q := 24) C ysX12_isStride ml_X12_267 (cnX12_isStride (xo κ) v3) rfl (by decide) (by decide) (Nat.le_of_ble_eq_true rfl) rfl (show decode cX12_moved 21 = .ok (.invokestatic 267, 3) from by decide +kernel) rfl (fun x21 => ?_)
      refine sr_if_eq (q := 27) C 37 (show decode cX12_moved 24 = .ok (.ifCond .eq 13, 3) from by decide +kernel) (by decide) rfl ?_ ?_
      · refine sr_bipush (v := (-2 : Int32)) (q := 39) C (show decode cX12_moved 37 = .ok (.bipush (-2), 2) from by decide +kernel) (by decide) rfl ?_
        exact sr_ireturn C _ rfl (show decode cX12_moved 39 = .ok (.ireturn, 1) from by decide +kernel)
      · refine sr_aload_n (i := 0) (q := 28) C (show decode cX12_moved 27 = .ok (.aload_n 0, 1) from by decide +kernel) rfl rfl rfl ?_
        refine sr_iload_n (i := 1) (q := 29) C (show decode cX12_moved 28 = .ok (.iload_n 1, 1) from by decide +kernel) rfl rfl rfl ?_
        refine sr_iload_n (i := 2) (q := 30) C (show decode cX12_moved 29 = .ok (.iload_n 2, 1) from by decide +kernel) rfl rfl rfl ?_
        refine sr_iload_n (i := 3) (q := 31) C (show decode cX12_moved 30 = .ok (.iload_n 3, 1) from by decide +kernel) rfl rfl rfl ?_
        refine sr_cVi (As := [.int v1, .int v2, .int v3]) (st := []) (b := v0) (q := 34) C yvX12_movedOf ml_X12_469 (cnX12_movedOf (xo κ) v0 v1 v2 v3 hv0) hv0 (by decide) rfl rfl rfl (by decide) (by decide) (Nat.le_of_ble_eq_true rfl) rfl (show decode cX12_moved 31 = .ok (.invokevirtual 469, 3) from by decide +kernel) rfl (fun x31 => ?_)
        refine sr_goto (q := 39) C (show decode cX12_moved 34 = .ok (.goto 5, 3) from by decide +kernel) (by decide) ?_
        exact sr_ireturn C _ rfl (show decode cX12_moved 39 = .ok (.ireturn, 1) from by decide +kernel)
theorem cnX12_moved (ω : sm_O) (v0 : Nat) (v1 : Int32) (v2 : Int32) (v3 : Int32) (hv0 : kd v0 = 12) : sm_Mt 6 yX12_moved cX12_moved 4 (some .int) ω [.ref (ω.1 + v0), .int v1, .int v2, .int v3] (fun a => some (.int a)) (fnX12_moved v0 v1 v2 v3) := by
  refine sm_conI (r := fun a => a) (by decide) (fun _ => rfl) (Nat.le_of_ble_eq_true rfl) ?_
  intro κ hκ C
  subst hκ
  exact slX12_moved C v0 v1 v2 v3 hv0
def fnX12_mustAndNot_J47 (k4 : Nat → Int32 → Int32 → sm_M Int32) (v0 : Nat) (v2 : Int32) (s0 : Int32) (s1 : Int32) : sm_M Int32 := m_nm (s1 ||| s0) fun y48 => k4 v0 y48 (v2 + (1 : Int32))
set_option maxHeartbeats 4000000 in
set_option maxRecDepth 100000 in
theorem slX12_mustAndNot_J47 {κ : sm_X} (C : sm_C κ RX12 cX12_mustAndNot 3 4) {k4 : Nat → Int32 → Int32 → sm_M Int32} (K4 : ∀ (v0 : Nat) (v1 : Int32) (v2 : Int32) (hv0 : kd v0 = 12), sm_S κ (fun r : Int32 => .inr (some (.int r))) (.inl (4, [some (xad κ v0), some (.int v1), some (.int v2)], [])) (k4 v0 v1 v2)) (v0 : Nat) (v2 : Int32) (s0 : Int32) (s1 : Int32) (hv0 : kd v0 = 12) : sm_S κ (fun r : Int32 => .inr (some (.int r))) (.inl (47, [some (xad κ v0), none, some (.int v2)], [.int s0, .int s1])) (fnX12_mustAndNot_J47 k4 v0 v2 s0 s1) := by
  unfold fnX12_mustAndNot_J47
  refine sr_ior (q := 48) C (show decode cX12_mustAndNot 47 = .ok (.ior, 1) from by decide +kernel) rfl ?_
  refine sr_nmi (fun y48 => ?_)
  refine sr_istore_n (i := 1) (L' := [some (xad κ v0), some (.int y48), some (.int v2)]) (q := 49) C (show decode cX12_mustAndNot 48 = .ok (.istore_n 1, 1) from by decide +kernel) rfl (by decide) rfl rfl ?_
  refine sr_iinc (v := v2 + (1 : Int32)) (L' := [some (xad κ v0), some (.int y48), some (.int (v2 + (1 : Int32)))]) (q := 52) C (show decode cX12_mustAndNot 49 = .ok (.iinc 2 1, 3) from by decide +kernel) rfl rfl (by decide) rfl rfl ?_
  refine sr_goto (q := 4) C (show decode cX12_mustAndNot 52 = .ok (.goto (-48), 3) from by decide +kernel) (by decide) ?_
  exact K4 v0 y48 (v2 + (1 : Int32)) hv0
def fnX12_mustAndNot_J46 (k4 : Nat → Int32 → Int32 → sm_M Int32) (v0 : Nat) (v2 : Int32) (s0 : Int32) : sm_M Int32 := fnX12_mustAndNot_J47 k4 v0 v2 (0 : Int32) s0
set_option maxHeartbeats 4000000 in
set_option maxRecDepth 100000 in
theorem slX12_mustAndNot_J46 {κ : sm_X} (C : sm_C κ RX12 cX12_mustAndNot 3 4) {k4 : Nat → Int32 → Int32 → sm_M Int32} (K4 : ∀ (v0 : Nat) (v1 : Int32) (v2 : Int32) (hv0 : kd v0 = 12), sm_S κ (fun r : Int32 => .inr (some (.int r))) (.inl (4, [some (xad κ v0), some (.int v1), some (.int v2)], [])) (k4 v0 v1 v2)) (v0 : Nat) (v2 : Int32) (s0 : Int32) (hv0 : kd v0 = 12) : sm_S κ (fun r : Int32 => .inr (some (.int r))) (.inl (46, [some (xad κ v0), none, some (.int v2)], [.int s0])) (fnX12_mustAndNot_J46 k4 v0 v2 s0) := by
  unfold fnX12_mustAndNot_J46
  refine sr_iconst (v := (0 : Int32)) (q := 47) C (show decode cX12_mustAndNot 46 = .ok (.iconst 0, 1) from by decide +kernel) (by decide) rfl ?_
  exact slX12_mustAndNot_J47 C K4 v0 v2 (0 : Int32) s0 hv0
def fnX12_mustAndNot_L4 : Nat → Nat → Int32 → Int32 → sm_M Int32
  | 0, _, _, _ => m_fail
  | n + 1, v0, v1, v2 => m_bnd (fnX12_units v0) fun x6 => m_br (x6 ≤ v2)
    (m_ret v1)
    (m_bnd (fnX12_leads v0 v2) fun x15 => m_br ((bI x15) = 0)
    (fnX12_mustAndNot_J46 (fnX12_mustAndNot_L4 n) v0 v2 v1)
    (m_bnd (fnX12_sumOf v0 v2 (3 : Int32)) fun x24 => m_br (x24 ≤ 0)
    (fnX12_mustAndNot_J46 (fnX12_mustAndNot_L4 n) v0 v2 v1)
    (m_bnd (fnX12_isAt v0 v2 (99 : Int32)) fun x34 => m_br ((bI x34) = 0)
    (fnX12_mustAndNot_J47 (fnX12_mustAndNot_L4 n) v0 v2 ((1 : Int32) <<< (v2 &&& 31)) v1)
    (fnX12_mustAndNot_J46 (fnX12_mustAndNot_L4 n) v0 v2 v1))))
set_option maxHeartbeats 4000000 in
set_option maxRecDepth 100000 in
theorem slX12_mustAndNot_L4 {κ : sm_X} (C : sm_C κ RX12 cX12_mustAndNot 3 4) : ∀ (n : Nat) (v0 : Nat) (v1 : Int32) (v2 : Int32) (hv0 : kd v0 = 12), sm_S κ (fun r : Int32 => .inr (some (.int r))) (.inl (4, [some (xad κ v0), some (.int v1), some (.int v2)], [])) (fnX12_mustAndNot_L4 n v0 v1 v2) := by
  intro n
  induction n with
  | zero =>
    intros
    exact sr_fail
  | succ n K4 =>
    intro v0 v1 v2 hv0
    unfold fnX12_mustAndNot_L4
    refine sr_iload_n (i := 2) (q := 5) C (show decode cX12_mustAndNot 4 = .ok (.iload_n 2, 1) from by decide +kernel) rfl rfl rfl ?_
    refine sr_aload_n (i := 0) (q := 6) C (show decode cX12_mustAndNot 5 = .ok (.aload_n 0, 1) from by decide +kernel) rfl rfl rfl ?_
    refine sr_cVi (As := []) (st := [.int v2]) (b := v0) (q := 9) C yvX12_units ml_X12_393 (cnX12_units (xo κ) v0 hv0) hv0 (by decide) rfl rfl rfl (by decide) (by decide) (Nat.le_of_ble_eq_true rfl) rfl (show decode cX12_mustAndNot 6 = .ok (.invokevirtual 393, 3) from by decide +kernel) rfl (fun x6 => ?_)
    refine sr_icmp_ge (q := 12) C 55 (show decode cX12_mustAndNot 9 = .ok (.if_icmp .ge 46, 3) from by decide +kernel) (by decide) rfl ?_ ?_
    · refine sr_iload_n (i := 1) (q := 56) C (show decode cX12_mustAndNot 55 = .ok (.iload_n 1, 1) from by decide +kernel) rfl rfl rfl ?_
      exact sr_ireturn C _ rfl (show decode cX12_mustAndNot 56 = .ok (.ireturn, 1) from by decide +kernel)
    · refine sr_iload_n (i := 1) (q := 13) C (show decode cX12_mustAndNot 12 = .ok (.iload_n 1, 1) from by decide +kernel) rfl rfl rfl ?_
      refine sr_aload_n (i := 0) (q := 14) C (show decode cX12_mustAndNot 13 = .ok (.aload_n 0, 1) from by decide +kernel) rfl rfl rfl ?_
      refine sr_iload_n (i := 2) (q := 15) C (show decode cX12_mustAndNot 14 = .ok (.iload_n 2, 1) from by decide +kernel) rfl rfl rfl ?_
      refine sr_cVz (As := [.int v2]) (st := [.int v1]) (b := v0) (q := 18) C yvX12_leads ml_X12_351 (cnX12_leads (xo κ) v0 v2 hv0) hv0 (by decide) rfl rfl rfl (by decide) (by decide) (Nat.le_of_ble_eq_true rfl) rfl (show decode cX12_mustAndNot 15 = .ok (.invokevirtual 351, 3) from by decide +kernel) rfl (fun x15 => ?_)
      refine sr_if_eq (q := 21) C 46 (show decode cX12_mustAndNot 18 = .ok (.ifCond .eq 28, 3) from by decide +kernel) (by decide) rfl ?_ ?_
      · refine sr_weak (L' := [some (xad κ v0), none, some (.int v2)]) ⟨rfl, rfl, trivial⟩ ?_
        exact slX12_mustAndNot_J46 C K4 v0 v2 v1 hv0
      · refine sr_aload_n (i := 0) (q := 22) C (show decode cX12_mustAndNot 21 = .ok (.aload_n 0, 1) from by decide +kernel) rfl rfl rfl ?_
        refine sr_iload_n (i := 2) (q := 23) C (show decode cX12_mustAndNot 22 = .ok (.iload_n 2, 1) from by decide +kernel) rfl rfl rfl ?_
        refine sr_iconst (v := (3 : Int32)) (q := 24) C (show decode cX12_mustAndNot 23 = .ok (.iconst 3, 1) from by decide +kernel) (by decide) rfl ?_
        refine sr_cVi (As := [.int v2, .int (3 : Int32)]) (st := [.int v1]) (b := v0) (q := 27) C yvX12_sumOf ml_X12_360 (cnX12_sumOf (xo κ) v0 v2 (3 : Int32) hv0) hv0 (by decide) rfl rfl rfl (by decide) (by decide) (Nat.le_of_ble_eq_true rfl) rfl (show decode cX12_mustAndNot 24 = .ok (.invokevirtual 360, 3) from by decide +kernel) rfl (fun x24 => ?_)
        refine sr_if_le (q := 30) C 46 (show decode cX12_mustAndNot 27 = .ok (.ifCond .le 19, 3) from by decide +kernel) (by decide) rfl ?_ ?_
        · refine sr_weak (L' := [some (xad κ v0), none, some (.int v2)]) ⟨rfl, rfl, trivial⟩ ?_
          exact slX12_mustAndNot_J46 C K4 v0 v2 v1 hv0
        · refine sr_aload_n (i := 0) (q := 31) C (show decode cX12_mustAndNot 30 = .ok (.aload_n 0, 1) from by decide +kernel) rfl rfl rfl ?_
          refine sr_iload_n (i := 2) (q := 32) C (show decode cX12_mustAndNot 31 = .ok (.iload_n 2, 1) from by decide +kernel) rfl rfl rfl ?_
          refine sr_bipush (v := (99 : Int32)) (q := 34) C (show decode cX12_mustAndNot 32 = .ok (.bipush 99, 2) from by decide +kernel) (by decide) rfl ?_
          refine sr_cVz (As := [.int v2, .int (99 : Int32)]) (st := [.int v1]) (b := v0) (q := 37) C yvX12_isAt ml_X12_354 (cnX12_isAt (xo κ) v0 v2 (99 : Int32) hv0) hv0 (by decide) rfl rfl rfl (by decide) (by decide) (Nat.le_of_ble_eq_true rfl) rfl (show decode cX12_mustAndNot 34 = .ok (.invokevirtual 354, 3) from by decide +kernel) rfl (fun x34 => ?_)
          refine sr_if_ne (q := 40) C 46 (show decode cX12_mustAndNot 37 = .ok (.ifCond .ne 9, 3) from by decide +kernel) (by decide) rfl ?_ ?_
          · refine sr_weak (L' := [some (xad κ v0), none, some (.int v2)]) ⟨rfl, rfl, trivial⟩ ?_
            exact slX12_mustAndNot_J46 C K4 v0 v2 v1 hv0
          · refine sr_iconst (v := (1 : Int32)) (q := 41) C (show decode cX12_mustAndNot 40 = .ok (.iconst 1, 1) from by decide +kernel) (by decide) rfl ?_
            refine sr_iload_n (i := 2) (q := 42) C (show decode cX12_mustAndNot 41 = .ok (.iload_n 2, 1) from by decide +kernel) rfl rfl rfl ?_
            refine sr_ishl (q := 43) C (show decode cX12_mustAndNot 42 = .ok (.ishl, 1) from by decide +kernel) rfl ?_
            refine sr_goto (q := 47) C (show decode cX12_mustAndNot 43 = .ok (.goto 4, 3) from by decide +kernel) (by decide) ?_
            refine sr_weak (L' := [some (xad κ v0), none, some (.int v2)]) ⟨rfl, rfl, trivial⟩ ?_
            exact slX12_mustAndNot_J47 C K4 v0 v2 ((1 : Int32) <<< (v2 &&& 31)) v1 hv0
def fnX12_mustAndNot (v0 : Nat) : sm_M Int32 := fnX12_mustAndNot_L4 4096 v0 (0 : Int32) (0 : Int32)
set_option maxHeartbeats 4000000 in
set_option maxRecDepth 100000 in
theorem slX12_mustAndNot {κ : sm_X} (C : sm_C κ RX12 cX12_mustAndNot 3 4) (v0 : Nat) (hv0 : kd v0 = 12) : sm_S κ (fun r : Int32 => .inr (some (.int r))) (.inl (0, [some (xad κ v0), none, none], [])) (fnX12_mustAndNot v0) := by
  unfold fnX12_mustAndNot
  refine sr_iconst (v := (0 : Int32)) (q := 1) C (show decode cX12_mustAndNot 0 = .ok (.iconst 0, 1) from by decide +kernel) (by decide) rfl ?_
  refine sr_istore_n (i := 1) (L' := [some (xad κ v0), some (.int (0 : Int32)), none]) (q := 2) C (show decode cX12_mustAndNot 1 = .ok (.istore_n 1, 1) from by decide +kernel) rfl (by decide) rfl rfl ?_
  refine sr_iconst (v := (0 : Int32)) (q := 3) C (show decode cX12_mustAndNot 2 = .ok (.iconst 0, 1) from by decide +kernel) (by decide) rfl ?_
  refine sr_istore_n (i := 2) (L' := [some (xad κ v0), some (.int (0 : Int32)), some (.int (0 : Int32))]) (q := 4) C (show decode cX12_mustAndNot 3 = .ok (.istore_n 2, 1) from by decide +kernel) rfl (by decide) rfl rfl ?_
  exact slX12_mustAndNot_L4 C 4096 v0 (0 : Int32) (0 : Int32) hv0
theorem cnX12_mustAndNot (ω : sm_O) (v0 : Nat) (hv0 : kd v0 = 12) : sm_Mt 4 yX12_mustAndNot cX12_mustAndNot 3 (some .int) ω [.ref (ω.1 + v0)] (fun a => some (.int a)) (fnX12_mustAndNot v0) := by
  refine sm_conI (r := fun a => a) (by decide) (fun _ => rfl) (Nat.le_of_ble_eq_true rfl) ?_
  intro κ hκ C
  subst hκ
  exact slX12_mustAndNot C v0 hv0
def fnX12_takes (v0 : Nat) (v1 : Nat) : sm_M Bool := m_bnd (fnX12_is v0 v1) fun x2 => m_br ((bI x2) = 0)
    (m_ret x2)
    (m_bnd (fnX12_advance v0) fun _ => m_ret x2)
set_option maxHeartbeats 4000000 in
set_option maxRecDepth 100000 in
theorem slX12_takes {κ : sm_X} (C : sm_C κ RX12 cX12_takes 3 6) (v0 : Nat) (v1 : Nat) (hv0 : kd v0 = 12) (hv1 : v1 < strN) : sm_S κ (fun r : Bool => .inr (some (.int (bI r)))) (.inl (0, [some (xad κ v0), some (xst κ v1), none], [])) (fnX12_takes v0 v1) := by
  unfold fnX12_takes
  refine sr_aload_n (i := 0) (q := 1) C (show decode cX12_takes 0 = .ok (.aload_n 0, 1) from by decide +kernel) rfl rfl rfl ?_
  refine sr_aload_n (i := 1) (q := 2) C (show decode cX12_takes 1 = .ok (.aload_n 1, 1) from by decide +kernel) rfl rfl rfl ?_
  refine sr_cVz (As := [xst κ v1]) (st := []) (b := v0) (q := 5) C yvX12_is ml_X12_168 (cnX12_is (xo κ) v0 v1 hv0 hv1) hv0 (by decide) rfl rfl rfl (by decide) (by decide) (Nat.le_of_ble_eq_true rfl) rfl (show decode cX12_takes 2 = .ok (.invokevirtual 168, 3) from by decide +kernel) rfl (fun x2 => ?_)
  refine sr_istore_n (i := 2) (L' := [some (xad κ v0), some (xst κ v1), some (.int (bI x2))]) (q := 6) C (show decode cX12_takes 5 = .ok (.istore_n 2, 1) from by decide +kernel) rfl (by decide) rfl rfl ?_
  refine sr_iload_n (i := 2) (q := 7) C (show decode cX12_takes 6 = .ok (.iload_n 2, 1) from by decide +kernel) rfl rfl rfl ?_
  refine sr_if_eq (q := 10) C 14 (show decode cX12_takes 7 = .ok (.ifCond .eq 7, 3) from by decide +kernel) (by decide) rfl ?_ ?_
  · refine sr_iload_n (i := 2) (q := 15) C (show decode cX12_takes 14 = .ok (.iload_n 2, 1) from by decide +kernel) rfl rfl rfl ?_
    exact sr_ireturn C x2 rfl (show decode cX12_takes 15 = .ok (.ireturn, 1) from by decide +kernel)
  · refine sr_aload_n (i := 0) (q := 11) C (show decode cX12_takes 10 = .ok (.aload_n 0, 1) from by decide +kernel) rfl rfl rfl ?_
    refine sr_cVv (As := []) (st := []) (b := v0) (q := 14) C yvX12_advance ml_X12_172 (cnX12_advance (xo κ) v0 hv0) hv0 (by decide) rfl rfl rfl (by decide) (by decide) (Nat.le_of_ble_eq_true rfl) rfl (show decode cX12_takes 11 = .ok (.invokevirtual 172, 3) from by decide +kernel) rfl (fun _ => ?_)
    refine sr_iload_n (i := 2) (q := 15) C (show decode cX12_takes 14 = .ok (.iload_n 2, 1) from by decide +kernel) rfl rfl rfl ?_
    exact sr_ireturn C x2 rfl (show decode cX12_takes 15 = .ok (.ireturn, 1) from by decide +kernel)
theorem cnX12_takes (ω : sm_O) (v0 : Nat) (v1 : Nat) (hv0 : kd v0 = 12) (hv1 : v1 < strN) : sm_Mt 6 yX12_takes cX12_takes 3 (some .boolean) ω [.ref (ω.1 + v0), .ref (ω.2.2.2.1 v1)] (fun a => some (.int (bI a))) (fnX12_takes v0 v1) := by
  refine sm_conI (r := bI) (by decide) bI_nar (Nat.le_of_ble_eq_true rfl) ?_
  intro κ hκ C
  subst hκ
  exact slX12_takes C v0 v1 hv0 hv1
def fnX12_needs (v0 : Nat) (v1 : Nat) : sm_M Unit := m_bnd (fnX12_takes v0 v1) fun x2 => m_br ((bI x2) = 0)
    (m_bnd (fnX12_errs v0 (1 : Int32)) fun _ => m_ret ())
    (m_ret ())
set_option maxHeartbeats 4000000 in
set_option maxRecDepth 100000 in
theorem slX12_needs {κ : sm_X} (C : sm_C κ RX12 cX12_needs 2 7) (v0 : Nat) (v1 : Nat) (hv0 : kd v0 = 12) (hv1 : v1 < strN) : sm_S κ (fun _ : Unit => .inr none) (.inl (0, [some (xad κ v0), some (xst κ v1)], [])) (fnX12_needs v0 v1) := by
  unfold fnX12_needs
  refine sr_aload_n (i := 0) (q := 1) C (show decode cX12_needs 0 = .ok (.aload_n 0, 1) from by decide +kernel) rfl rfl rfl ?_
  refine sr_aload_n (i := 1) (q := 2) C (show decode cX12_needs 1 = .ok (.aload_n 1, 1) from by decide +kernel) rfl rfl rfl ?_
  refine sr_cVz (As := [xst κ v1]) (st := []) (b := v0) (q := 5) C yvX12_takes ml_X12_175 (cnX12_takes (xo κ) v0 v1 hv0 hv1) hv0 (by decide) rfl rfl rfl (by decide) (by decide) (Nat.le_of_ble_eq_true rfl) rfl (show decode cX12_needs 2 = .ok (.invokevirtual 175, 3) from by decide +kernel) rfl (fun x2 => ?_)
  refine sr_if_ne (q := 8) C 13 (show decode cX12_needs 5 = .ok (.ifCond .ne 8, 3) from by decide +kernel) (by decide) rfl ?_ ?_
  · exact sr_vreturn C _ rfl (show decode cX12_needs 13 = .ok (.return_, 1) from by decide +kernel)
  · refine sr_aload_n (i := 0) (q := 9) C (show decode cX12_needs 8 = .ok (.aload_n 0, 1) from by decide +kernel) rfl rfl rfl ?_
    refine sr_iconst (v := (1 : Int32)) (q := 10) C (show decode cX12_needs 9 = .ok (.iconst 1, 1) from by decide +kernel) (by decide) rfl ?_
    refine sr_cVv (As := [.int (1 : Int32)]) (st := []) (b := v0) (q := 13) C yvX12_errs ml_X12_178 (cnX12_errs (xo κ) v0 (1 : Int32) hv0) hv0 (by decide) rfl rfl rfl (by decide) (by decide) (Nat.le_of_ble_eq_true rfl) rfl (show decode cX12_needs 10 = .ok (.invokevirtual 178, 3) from by decide +kernel) rfl (fun _ => ?_)
    exact sr_vreturn C _ rfl (show decode cX12_needs 13 = .ok (.return_, 1) from by decide +kernel)
theorem cnX12_needs (ω : sm_O) (v0 : Nat) (v1 : Nat) (hv0 : kd v0 = 12) (hv1 : v1 < strN) : sm_Mt 7 yX12_needs cX12_needs 2 none ω [.ref (ω.1 + v0), .ref (ω.2.2.2.1 v1)] (fun _ => none) (fnX12_needs v0 v1) := by
  refine sm_conV (by decide) (Nat.le_of_ble_eq_true rfl) ?_
  intro κ hκ C
  subst hκ
  exact slX12_needs C v0 v1 hv0 hv1
def fnX12_nodeOf (v0 : Int32) : sm_M Int32 := m_br (v0 = (98 : Int32))
    (m_ret (0 : Int32))
    (m_br (v0 = (99 : Int32))
    (m_ret (1 : Int32))
    (m_ret ((2 : Int32) + v0)))
set_option maxHeartbeats 4000000 in
set_option maxRecDepth 100000 in
theorem slX12_nodeOf {κ : sm_X} (C : sm_C κ RX12 cX12_nodeOf 1 1) (v0 : Int32)  : sm_S κ (fun r : Int32 => .inr (some (.int r))) (.inl (0, [some (.int v0)], [])) (fnX12_nodeOf v0) := by
  unfold fnX12_nodeOf
  refine sr_iload_n (i := 0) (q := 1) C (show decode cX12_nodeOf 0 = .ok (.iload_n 0, 1) from by decide +kernel) rfl rfl rfl ?_
  refine sr_bipush (v := (98 : Int32)) (q := 3) C (show decode cX12_nodeOf 1 = .ok (.bipush 98, 2) from by decide +kernel) (by decide) rfl ?_
  refine sr_icmp_ne (q := 6) C 10 (show decode cX12_nodeOf 3 = .ok (.if_icmp .ne 7, 3) from by decide +kernel) (by decide) rfl ?_ ?_
  · refine sr_iload_n (i := 0) (q := 11) C (show decode cX12_nodeOf 10 = .ok (.iload_n 0, 1) from by decide +kernel) rfl rfl rfl ?_
    refine sr_bipush (v := (99 : Int32)) (q := 13) C (show decode cX12_nodeOf 11 = .ok (.bipush 99, 2) from by decide +kernel) (by decide) rfl ?_
    refine sr_icmp_ne (q := 16) C 20 (show decode cX12_nodeOf 13 = .ok (.if_icmp .ne 7, 3) from by decide +kernel) (by decide) rfl ?_ ?_
    · refine sr_iconst (v := (2 : Int32)) (q := 21) C (show decode cX12_nodeOf 20 = .ok (.iconst 2, 1) from by decide +kernel) (by decide) rfl ?_
      refine sr_iload_n (i := 0) (q := 22) C (show decode cX12_nodeOf 21 = .ok (.iload_n 0, 1) from by decide +kernel) rfl rfl rfl ?_
      refine sr_iadd (q := 23) C (show decode cX12_nodeOf 22 = .ok (.iadd, 1) from by decide +kernel) rfl ?_
      exact sr_ireturn C _ rfl (show decode cX12_nodeOf 23 = .ok (.ireturn, 1) from by decide +kernel)
    · refine sr_iconst (v := (1 : Int32)) (q := 17) C (show decode cX12_nodeOf 16 = .ok (.iconst 1, 1) from by decide +kernel) (by decide) rfl ?_
      refine sr_goto (q := 23) C (show decode cX12_nodeOf 17 = .ok (.goto 6, 3) from by decide +kernel) (by decide) ?_
      exact sr_ireturn C _ rfl (show decode cX12_nodeOf 23 = .ok (.ireturn, 1) from by decide +kernel)
  · refine sr_iconst (v := (0 : Int32)) (q := 7) C (show decode cX12_nodeOf 6 = .ok (.iconst 0, 1) from by decide +kernel) (by decide) rfl ?_
    refine sr_goto (q := 23) C (show decode cX12_nodeOf 7 = .ok (.goto 16, 3) from by decide +kernel) (by decide) ?_
    exact sr_ireturn C _ rfl (show decode cX12_nodeOf 23 = .ok (.ireturn, 1) from by decide +kernel)
theorem cnX12_nodeOf (ω : sm_O) (v0 : Int32)  : sm_Mt 1 yX12_nodeOf cX12_nodeOf 1 (some .int) ω [.int v0] (fun a => some (.int a)) (fnX12_nodeOf v0) := by
  refine sm_conI (r := fun a => a) (by decide) (fun _ => rfl) (Nat.le_of_ble_eq_true rfl) ?_
  intro κ hκ C
  subst hκ
  exact slX12_nodeOf C v0
def fnX12_noon_L32 : Nat → Nat → Int32 → Int32 → Int32 → sm_M Int32
  | 0, _, _, _, _ => m_fail
  | n + 1, v0, v1, v2, v3 => m_br (v3 < 0)
    (m_ret v3)
    (m_bnd (fnX12_lateOf v0 v1 v3) fun x39 => m_br (v2 ≤ x39)
    (m_ret v3)
    ((fnX12_noon_L32 n) v0 v1 v2 (v3 + (-1 : Int32))))
set_option maxHeartbeats 4000000 in
set_option maxRecDepth 100000 in
theorem slX12_noon_L32 {κ : sm_X} (C : sm_C κ RX12 cX12_noon 4 7) : ∀ (n : Nat) (v0 : Nat) (v1 : Int32) (v2 : Int32) (v3 : Int32) (hv0 : kd v0 = 12), sm_S κ (fun r : Int32 => .inr (some (.int r))) (.inl (32, [some (xad κ v0), some (.int v1), some (.int v2), some (.int v3)], [])) (fnX12_noon_L32 n v0 v1 v2 v3) := by
  intro n
  induction n with
  | zero =>
    intros
    exact sr_fail
  | succ n K32 =>
    intro v0 v1 v2 v3 hv0
    unfold fnX12_noon_L32
    refine sr_iload_n (i := 3) (q := 33) C (show decode cX12_noon 32 = .ok (.iload_n 3, 1) from by decide +kernel) rfl rfl rfl ?_
    refine sr_if_lt (q := 36) C 52 (show decode cX12_noon 33 = .ok (.ifCond .lt 19, 3) from by decide +kernel) (by decide) rfl ?_ ?_
    · refine sr_iload_n (i := 3) (q := 53) C (show decode cX12_noon 52 = .ok (.iload_n 3, 1) from by decide +kernel) rfl rfl rfl ?_
      exact sr_ireturn C _ rfl (show decode cX12_noon 53 = .ok (.ireturn, 1) from by decide +kernel)
    · refine sr_aload_n (i := 0) (q := 37) C (show decode cX12_noon 36 = .ok (.aload_n 0, 1) from by decide +kernel) rfl rfl rfl ?_
      refine sr_iload_n (i := 1) (q := 38) C (show decode cX12_noon 37 = .ok (.iload_n 1, 1) from by decide +kernel) rfl rfl rfl ?_
      refine sr_iload_n (i := 3) (q := 39) C (show decode cX12_noon 38 = .ok (.iload_n 3, 1) from by decide +kernel) rfl rfl rfl ?_
      refine sr_cVi (As := [.int v1, .int v3]) (st := []) (b := v0) (q := 42) C yvX12_lateOf ml_X12_503 (cnX12_lateOf (xo κ) v0 v1 v3 hv0) hv0 (by decide) rfl rfl rfl (by decide) (by decide) (Nat.le_of_ble_eq_true rfl) rfl (show decode cX12_noon 39 = .ok (.invokevirtual 503, 3) from by decide +kernel) rfl (fun x39 => ?_)
      refine sr_iload_n (i := 2) (q := 43) C (show decode cX12_noon 42 = .ok (.iload_n 2, 1) from by decide +kernel) rfl rfl rfl ?_
      refine sr_icmp_ge (q := 46) C 52 (show decode cX12_noon 43 = .ok (.if_icmp .ge 9, 3) from by decide +kernel) (by decide) rfl ?_ ?_
      · refine sr_iload_n (i := 3) (q := 53) C (show decode cX12_noon 52 = .ok (.iload_n 3, 1) from by decide +kernel) rfl rfl rfl ?_
        exact sr_ireturn C _ rfl (show decode cX12_noon 53 = .ok (.ireturn, 1) from by decide +kernel)
      · refine sr_iinc (v := v3 + (-1 : Int32)) (L' := [some (xad κ v0), some (.int v1), some (.int v2), some (.int (v3 + (-1 : Int32)))]) (q := 49) C (show decode cX12_noon 46 = .ok (.iinc 3 (-1), 3) from by decide +kernel) rfl rfl (by decide) rfl rfl ?_
        refine sr_goto (q := 32) C (show decode cX12_noon 49 = .ok (.goto (-17), 3) from by decide +kernel) (by decide) ?_
        exact K32 v0 v1 v2 (v3 + (-1 : Int32)) hv0
def fnX12_noon (v0 : Nat) (v1 : Int32) (v2 : Int32) : sm_M Int32 := m_bnd (fnX12_isRiver v0) fun x1 => m_br ((bI x1) = 0)
    (m_ret (-2 : Int32))
    (m_bnd (fnX12_isStride v1) fun x8 => m_br ((bI x8) = 0)
    (m_ret (-2 : Int32))
    (m_bnd (fnX12_in v2.toInt64 (0 : Int64) (999 : Int64)) fun x20 => m_br ((bI x20) = 0)
    (m_ret (-2 : Int32))
    (fnX12_noon_L32 4096 v0 v1 v2 (23 : Int32))))
set_option maxHeartbeats 4000000 in
set_option maxRecDepth 100000 in
theorem slX12_noon {κ : sm_X} (C : sm_C κ RX12 cX12_noon 4 7) (v0 : Nat) (v1 : Int32) (v2 : Int32) (hv0 : kd v0 = 12) : sm_S κ (fun r : Int32 => .inr (some (.int r))) (.inl (0, [some (xad κ v0), some (.int v1), some (.int v2), none], [])) (fnX12_noon v0 v1 v2) := by
  unfold fnX12_noon
  refine sr_aload_n (i := 0) (q := 1) C (show decode cX12_noon 0 = .ok (.aload_n 0, 1) from by decide +kernel) rfl rfl rfl ?_
  refine sr_cVz (As := []) (st := []) (b := v0) (q := 4) C yvX12_isRiver ml_X12_107 (cnX12_isRiver (xo κ) v0 hv0) hv0 (by decide) rfl rfl rfl (by decide) (by decide) (Nat.le_of_ble_eq_true rfl) rfl (show decode cX12_noon 1 = .ok (.invokevirtual 107, 3) from by decide +kernel) rfl (fun x1 => ?_)
  refine sr_if_eq (q := 7) C 26 (show decode cX12_noon 4 = .ok (.ifCond .eq 22, 3) from by decide +kernel) (by decide) rfl ?_ ?_
  · refine sr_bipush (v := (-2 : Int32)) (q := 28) C (show decode cX12_noon 26 = .ok (.bipush (-2), 2) from by decide +kernel) (by decide) rfl ?_
    exact sr_ireturn C _ rfl (show decode cX12_noon 28 = .ok (.ireturn, 1) from by decide +kernel)
  · refine sr_iload_n (i := 1) (q := 8) C (show decode cX12_noon 7 = .ok (.iload_n 1, 1) from by decide +kernel) rfl rfl rfl ?_
    refine sr_cSz (As := [.int v1]) (st := []) (q := 11) C ysX12_isStride ml_X12_267 (cnX12_isStride (xo κ) v1) rfl (by decide) (by decide) (Nat.le_of_ble_eq_true rfl) rfl (show decode cX12_noon 8 = .ok (.invokestatic 267, 3) from by decide +kernel) rfl (fun x8 => ?_)
    refine sr_if_eq (q := 14) C 26 (show decode cX12_noon 11 = .ok (.ifCond .eq 15, 3) from by decide +kernel) (by decide) rfl ?_ ?_
    · refine sr_bipush (v := (-2 : Int32)) (q := 28) C (show decode cX12_noon 26 = .ok (.bipush (-2), 2) from by decide +kernel) (by decide) rfl ?_
      exact sr_ireturn C _ rfl (show decode cX12_noon 28 = .ok (.ireturn, 1) from by decide +kernel)
    · refine sr_iload_n (i := 2) (q := 15) C (show decode cX12_noon 14 = .ok (.iload_n 2, 1) from by decide +kernel) rfl rfl rfl ?_
      refine sr_i2l (q := 16) C (show decode cX12_noon 15 = .ok (.i2l, 1) from by decide +kernel) rfl ?_
      refine sr_lconst (v := (0 : Int64)) (q := 17) C (show decode cX12_noon 16 = .ok (.lconst 0, 1) from by decide +kernel) (by decide) rfl ?_
      refine sr_ldc2 (q := 20) C co_X12_506 (show decode cX12_noon 17 = .ok (.ldc2_w 506, 3) from by decide +kernel) rfl ?_
      refine sr_cSz (As := [.long v2.toInt64, .long (0 : Int64), .long (999 : Int64)]) (st := []) (q := 23) C ysX12_in ml_X12_103 (cnX12_in (xo κ) v2.toInt64 (0 : Int64) (999 : Int64)) rfl (by decide) (by decide) (Nat.le_of_ble_eq_true rfl) rfl (show decode cX12_noon 20 = .ok (.invokestatic 103, 3) from by decide +kernel) rfl (fun x20 => ?_)
      refine sr_if_ne (q := 26) C 29 (show decode cX12_noon 23 = .ok (.ifCond .ne 6, 3) from by decide +kernel) (by decide) rfl ?_ ?_
      · refine sr_bipush (v := (23 : Int32)) (q := 31) C (show decode cX12_noon 29 = .ok (.bipush 23, 2) from by decide +kernel) (by decide) rfl ?_
        refine sr_istore_n (i := 3) (L' := [some (xad κ v0), some (.int v1), some (.int v2), some (.int (23 : Int32))]) (q := 32) C (show decode cX12_noon 31 = .ok (.istore_n 3, 1) from by decide +kernel) rfl (by decide) rfl rfl ?_
        exact slX12_noon_L32 C 4096 v0 v1 v2 (23 : Int32) hv0
      · refine sr_bipush (v := (-2 : Int32)) (q := 28) C (show decode cX12_noon 26 = .ok (.bipush (-2), 2) from by decide +kernel) (by decide) rfl ?_
        exact sr_ireturn C _ rfl (show decode cX12_noon 28 = .ok (.ireturn, 1) from by decide +kernel)
theorem cnX12_noon (ω : sm_O) (v0 : Nat) (v1 : Int32) (v2 : Int32) (hv0 : kd v0 = 12) : sm_Mt 7 yX12_noon cX12_noon 4 (some .int) ω [.ref (ω.1 + v0), .int v1, .int v2] (fun a => some (.int a)) (fnX12_noon v0 v1 v2) := by
  refine sm_conI (r := fun a => a) (by decide) (fun _ => rfl) (Nat.le_of_ble_eq_true rfl) ?_
  intro κ hκ C
  subst hκ
  exact slX12_noon C v0 v1 v2 hv0
def fnX12_number_J47 (v0 : Nat) : sm_M Int32 := m_bnd (fnX12_good v0) fun x48 => m_br ((bI x48) = 0)
    (m_ret (0 : Int32))
    (m_gi v0 11 fun x57 => m_bnd (fnX12_advance v0) fun _ => m_ret x57)
set_option maxHeartbeats 4000000 in
set_option maxRecDepth 100000 in
theorem slX12_number_J47 {κ : sm_X} (C : sm_C κ RX12 cX12_number 4 3) (v0 : Nat) (hv0 : kd v0 = 12) : sm_S κ (fun r : Int32 => .inr (some (.int r))) (.inl (47, [some (xad κ v0), none, none, none], [])) (fnX12_number_J47 v0) := by
  unfold fnX12_number_J47
  refine sr_aload_n (i := 0) (q := 48) C (show decode cX12_number 47 = .ok (.aload_n 0, 1) from by decide +kernel) rfl rfl rfl ?_
  refine sr_cVz (As := []) (st := []) (b := v0) (q := 51) C yvX12_good ml_X12_155 (cnX12_good (xo κ) v0 hv0) hv0 (by decide) rfl rfl rfl (by decide) (by decide) (Nat.le_of_ble_eq_true rfl) rfl (show decode cX12_number 48 = .ok (.invokevirtual 155, 3) from by decide +kernel) rfl (fun x48 => ?_)
  refine sr_if_ne (q := 54) C 56 (show decode cX12_number 51 = .ok (.ifCond .ne 5, 3) from by decide +kernel) (by decide) rfl ?_ ?_
  · refine sr_aload_n (i := 0) (q := 57) C (show decode cX12_number 56 = .ok (.aload_n 0, 1) from by decide +kernel) rfl rfl rfl ?_
    refine sr_geti (q := 60) C fl_X12_142 (Or.inl rfl) hv0 (show decode cX12_number 57 = .ok (.getfield 142, 3) from by decide +kernel) rfl (fun x57 => ?_)
    refine sr_istore_n (i := 3) (L' := [some (xad κ v0), none, none, some (.int x57)]) (q := 61) C (show decode cX12_number 60 = .ok (.istore_n 3, 1) from by decide +kernel) rfl (by decide) rfl rfl ?_
    refine sr_aload_n (i := 0) (q := 62) C (show decode cX12_number 61 = .ok (.aload_n 0, 1) from by decide +kernel) rfl rfl rfl ?_
    refine sr_cVv (As := []) (st := []) (b := v0) (q := 65) C yvX12_advance ml_X12_172 (cnX12_advance (xo κ) v0 hv0) hv0 (by decide) rfl rfl rfl (by decide) (by decide) (Nat.le_of_ble_eq_true rfl) rfl (show decode cX12_number 62 = .ok (.invokevirtual 172, 3) from by decide +kernel) rfl (fun _ => ?_)
    refine sr_iload_n (i := 3) (q := 66) C (show decode cX12_number 65 = .ok (.iload_n 3, 1) from by decide +kernel) rfl rfl rfl ?_
    exact sr_ireturn C _ rfl (show decode cX12_number 66 = .ok (.ireturn, 1) from by decide +kernel)
  · refine sr_iconst (v := (0 : Int32)) (q := 55) C (show decode cX12_number 54 = .ok (.iconst 0, 1) from by decide +kernel) (by decide) rfl ?_
    exact sr_ireturn C _ rfl (show decode cX12_number 55 = .ok (.ireturn, 1) from by decide +kernel)
def fnX12_number_J20 (v0 : Nat) (v1 : Int32) (v2 : Int32) : sm_M Int32 := m_bnd (fnX12_good v0) fun x21 => m_br ((bI x21) = 0)
    (fnX12_number_J47 v0)
    (m_gi v0 11 fun x28 => m_bnd (fnX12_in x28.toInt64 v1.toInt64 v2.toInt64) fun x36 => m_br ((bI x36) = 0)
    (m_bnd (fnX12_errs v0 (2 : Int32)) fun _ => fnX12_number_J47 v0)
    (fnX12_number_J47 v0))
set_option maxHeartbeats 4000000 in
set_option maxRecDepth 100000 in
theorem slX12_number_J20 {κ : sm_X} (C : sm_C κ RX12 cX12_number 4 3) (v0 : Nat) (v1 : Int32) (v2 : Int32) (hv0 : kd v0 = 12) : sm_S κ (fun r : Int32 => .inr (some (.int r))) (.inl (20, [some (xad κ v0), some (.int v1), some (.int v2), none], [])) (fnX12_number_J20 v0 v1 v2) := by
  unfold fnX12_number_J20
  refine sr_aload_n (i := 0) (q := 21) C (show decode cX12_number 20 = .ok (.aload_n 0, 1) from by decide +kernel) rfl rfl rfl ?_
  refine sr_cVz (As := []) (st := []) (b := v0) (q := 24) C yvX12_good ml_X12_155 (cnX12_good (xo κ) v0 hv0) hv0 (by decide) rfl rfl rfl (by decide) (by decide) (Nat.le_of_ble_eq_true rfl) rfl (show decode cX12_number 21 = .ok (.invokevirtual 155, 3) from by decide +kernel) rfl (fun x21 => ?_)
  refine sr_if_eq (q := 27) C 47 (show decode cX12_number 24 = .ok (.ifCond .eq 23, 3) from by decide +kernel) (by decide) rfl ?_ ?_
  · refine sr_weak (L' := [some (xad κ v0), none, none, none]) ⟨rfl, trivial⟩ ?_
    exact slX12_number_J47 C v0 hv0
  · refine sr_aload_n (i := 0) (q := 28) C (show decode cX12_number 27 = .ok (.aload_n 0, 1) from by decide +kernel) rfl rfl rfl ?_
    refine sr_geti (q := 31) C fl_X12_142 (Or.inl rfl) hv0 (show decode cX12_number 28 = .ok (.getfield 142, 3) from by decide +kernel) rfl (fun x28 => ?_)
    refine sr_i2l (q := 32) C (show decode cX12_number 31 = .ok (.i2l, 1) from by decide +kernel) rfl ?_
    refine sr_iload_n (i := 1) (q := 33) C (show decode cX12_number 32 = .ok (.iload_n 1, 1) from by decide +kernel) rfl rfl rfl ?_
    refine sr_i2l (q := 34) C (show decode cX12_number 33 = .ok (.i2l, 1) from by decide +kernel) rfl ?_
    refine sr_iload_n (i := 2) (q := 35) C (show decode cX12_number 34 = .ok (.iload_n 2, 1) from by decide +kernel) rfl rfl rfl ?_
    refine sr_i2l (q := 36) C (show decode cX12_number 35 = .ok (.i2l, 1) from by decide +kernel) rfl ?_
    refine sr_cSz (As := [.long x28.toInt64, .long v1.toInt64, .long v2.toInt64]) (st := []) (q := 39) C ysX12_in ml_X12_103 (cnX12_in (xo κ) x28.toInt64 v1.toInt64 v2.toInt64) rfl (by decide) (by decide) (Nat.le_of_ble_eq_true rfl) rfl (show decode cX12_number 36 = .ok (.invokestatic 103, 3) from by decide +kernel) rfl (fun x36 => ?_)
    refine sr_if_ne (q := 42) C 47 (show decode cX12_number 39 = .ok (.ifCond .ne 8, 3) from by decide +kernel) (by decide) rfl ?_ ?_
    · refine sr_weak (L' := [some (xad κ v0), none, none, none]) ⟨rfl, trivial⟩ ?_
      exact slX12_number_J47 C v0 hv0
    · refine sr_aload_n (i := 0) (q := 43) C (show decode cX12_number 42 = .ok (.aload_n 0, 1) from by decide +kernel) rfl rfl rfl ?_
      refine sr_iconst (v := (2 : Int32)) (q := 44) C (show decode cX12_number 43 = .ok (.iconst 2, 1) from by decide +kernel) (by decide) rfl ?_
      refine sr_cVv (As := [.int (2 : Int32)]) (st := []) (b := v0) (q := 47) C yvX12_errs ml_X12_178 (cnX12_errs (xo κ) v0 (2 : Int32) hv0) hv0 (by decide) rfl rfl rfl (by decide) (by decide) (Nat.le_of_ble_eq_true rfl) rfl (show decode cX12_number 44 = .ok (.invokevirtual 178, 3) from by decide +kernel) rfl (fun _ => ?_)
      refine sr_weak (L' := [some (xad κ v0), none, none, none]) ⟨rfl, trivial⟩ ?_
      exact slX12_number_J47 C v0 hv0
def fnX12_number (v0 : Nat) (v1 : Int32) (v2 : Int32) : sm_M Int32 := m_bnd (fnX12_good v0) fun x1 => m_br ((bI x1) = 0)
    (fnX12_number_J20 v0 v1 v2)
    (m_gi v0 10 fun x8 => m_br (x8 = (2 : Int32))
    (fnX12_number_J20 v0 v1 v2)
    (m_bnd (fnX12_errs v0 (1 : Int32)) fun _ => fnX12_number_J20 v0 v1 v2))
set_option maxHeartbeats 4000000 in
set_option maxRecDepth 100000 in
theorem slX12_number {κ : sm_X} (C : sm_C κ RX12 cX12_number 4 3) (v0 : Nat) (v1 : Int32) (v2 : Int32) (hv0 : kd v0 = 12) : sm_S κ (fun r : Int32 => .inr (some (.int r))) (.inl (0, [some (xad κ v0), some (.int v1), some (.int v2), none], [])) (fnX12_number v0 v1 v2) := by
  unfold fnX12_number
  refine sr_aload_n (i := 0) (q := 1) C (show decode cX12_number 0 = .ok (.aload_n 0, 1) from by decide +kernel) rfl rfl rfl ?_
  refine sr_cVz (As := []) (st := []) (b := v0) (q := 4) C yvX12_good ml_X12_155 (cnX12_good (xo κ) v0 hv0) hv0 (by decide) rfl rfl rfl (by decide) (by decide) (Nat.le_of_ble_eq_true rfl) rfl (show decode cX12_number 1 = .ok (.invokevirtual 155, 3) from by decide +kernel) rfl (fun x1 => ?_)
  refine sr_if_eq (q := 7) C 20 (show decode cX12_number 4 = .ok (.ifCond .eq 16, 3) from by decide +kernel) (by decide) rfl ?_ ?_
  · exact slX12_number_J20 C v0 v1 v2 hv0
  · refine sr_aload_n (i := 0) (q := 8) C (show decode cX12_number 7 = .ok (.aload_n 0, 1) from by decide +kernel) rfl rfl rfl ?_
    refine sr_geti (q := 11) C fl_X12_131 (Or.inl rfl) hv0 (show decode cX12_number 8 = .ok (.getfield 131, 3) from by decide +kernel) rfl (fun x8 => ?_)
    refine sr_iconst (v := (2 : Int32)) (q := 12) C (show decode cX12_number 11 = .ok (.iconst 2, 1) from by decide +kernel) (by decide) rfl ?_
    refine sr_icmp_eq (q := 15) C 20 (show decode cX12_number 12 = .ok (.if_icmp .eq 8, 3) from by decide +kernel) (by decide) rfl ?_ ?_
    · exact slX12_number_J20 C v0 v1 v2 hv0
    · refine sr_aload_n (i := 0) (q := 16) C (show decode cX12_number 15 = .ok (.aload_n 0, 1) from by decide +kernel) rfl rfl rfl ?_
      refine sr_iconst (v := (1 : Int32)) (q := 17) C (show decode cX12_number 16 = .ok (.iconst 1, 1) from by decide +kernel) (by decide) rfl ?_
      refine sr_cVv (As := [.int (1 : Int32)]) (st := []) (b := v0) (q := 20) C yvX12_errs ml_X12_178 (cnX12_errs (xo κ) v0 (1 : Int32) hv0) hv0 (by decide) rfl rfl rfl (by decide) (by decide) (Nat.le_of_ble_eq_true rfl) rfl (show decode cX12_number 17 = .ok (.invokevirtual 178, 3) from by decide +kernel) rfl (fun _ => ?_)
      exact slX12_number_J20 C v0 v1 v2 hv0
theorem cnX12_number (ω : sm_O) (v0 : Nat) (v1 : Int32) (v2 : Int32) (hv0 : kd v0 = 12) : sm_Mt 3 yX12_number cX12_number 4 (some .int) ω [.ref (ω.1 + v0), .int v1, .int v2] (fun a => some (.int a)) (fnX12_number v0 v1 v2) := by
  refine sm_conI (r := fun a => a) (by decide) (fun _ => rfl) (Nat.le_of_ble_eq_true rfl) ?_
  intro κ hκ C
  subst hκ
  exact slX12_number C v0 v1 v2 hv0
def fnX12_order (v0 : Nat) (v1 : Int32) (v2 : Int32) : sm_M Int32 := m_bnd (fnX12_isWay v0 v1) fun x2 => m_br ((bI x2) = 0)
    (m_ret (-2 : Int32))
    (m_bnd (fnX12_in v2.toInt64 (0 : Int64) (7 : Int64)) fun x14 => m_br ((bI x14) = 0)
    (m_ret (-2 : Int32))
    (m_bnd (fnX12_fillWaiting v0) fun _ => m_gi v0 27 fun x28 => m_br (x28 ≤ (6 : Int32))
    (m_bnd (fnX12_findsOrder v0 v1) fun _ => m_br (v2 = 0)
    (m_gi v0 30 fun x49 => m_ret x49)
    (m_br (v2 = (1 : Int32))
    (m_gi v0 31 fun x61 => m_ret x61)
    (m_gi v0 27 fun x71 => m_br (x71 ≤ (v2 - (2 : Int32)))
    (m_ret (-1 : Int32))
    (m_ai (lk v0 29) (v2 - (2 : Int32)) fun x84 => m_ret x84))))
    (m_ret (-3 : Int32))))
set_option maxHeartbeats 4000000 in
set_option maxRecDepth 100000 in
theorem slX12_order {κ : sm_X} (C : sm_C κ RX12 cX12_order 3 11) (v0 : Nat) (v1 : Int32) (v2 : Int32) (hv0 : kd v0 = 12) : sm_S κ (fun r : Int32 => .inr (some (.int r))) (.inl (0, [some (xad κ v0), some (.int v1), some (.int v2)], [])) (fnX12_order v0 v1 v2) := by
  unfold fnX12_order
  refine sr_aload_n (i := 0) (q := 1) C (show decode cX12_order 0 = .ok (.aload_n 0, 1) from by decide +kernel) rfl rfl rfl ?_
  refine sr_iload_n (i := 1) (q := 2) C (show decode cX12_order 1 = .ok (.iload_n 1, 1) from by decide +kernel) rfl rfl rfl ?_
  refine sr_cVz (As := [.int v1]) (st := []) (b := v0) (q := 5) C yvX12_isWay ml_X12_366 (cnX12_isWay (xo κ) v0 v1 hv0) hv0 (by decide) rfl rfl rfl (by decide) (by decide) (Nat.le_of_ble_eq_true rfl) rfl (show decode cX12_order 2 = .ok (.invokevirtual 366, 3) from by decide +kernel) rfl (fun x2 => ?_)
  refine sr_if_eq (q := 8) C 20 (show decode cX12_order 5 = .ok (.ifCond .eq 15, 3) from by decide +kernel) (by decide) rfl ?_ ?_
  · refine sr_bipush (v := (-2 : Int32)) (q := 22) C (show decode cX12_order 20 = .ok (.bipush (-2), 2) from by decide +kernel) (by decide) rfl ?_
    exact sr_ireturn C _ rfl (show decode cX12_order 22 = .ok (.ireturn, 1) from by decide +kernel)
  · refine sr_iload_n (i := 2) (q := 9) C (show decode cX12_order 8 = .ok (.iload_n 2, 1) from by decide +kernel) rfl rfl rfl ?_
    refine sr_i2l (q := 10) C (show decode cX12_order 9 = .ok (.i2l, 1) from by decide +kernel) rfl ?_
    refine sr_lconst (v := (0 : Int64)) (q := 11) C (show decode cX12_order 10 = .ok (.lconst 0, 1) from by decide +kernel) (by decide) rfl ?_
    refine sr_ldc2 (q := 14) C co_X12_420 (show decode cX12_order 11 = .ok (.ldc2_w 420, 3) from by decide +kernel) rfl ?_
    refine sr_cSz (As := [.long v2.toInt64, .long (0 : Int64), .long (7 : Int64)]) (st := []) (q := 17) C ysX12_in ml_X12_103 (cnX12_in (xo κ) v2.toInt64 (0 : Int64) (7 : Int64)) rfl (by decide) (by decide) (Nat.le_of_ble_eq_true rfl) rfl (show decode cX12_order 14 = .ok (.invokestatic 103, 3) from by decide +kernel) rfl (fun x14 => ?_)
    refine sr_if_ne (q := 20) C 23 (show decode cX12_order 17 = .ok (.ifCond .ne 6, 3) from by decide +kernel) (by decide) rfl ?_ ?_
    · refine sr_aload_n (i := 0) (q := 24) C (show decode cX12_order 23 = .ok (.aload_n 0, 1) from by decide +kernel) rfl rfl rfl ?_
      refine sr_cVv (As := []) (st := []) (b := v0) (q := 27) C yvX12_fillWaiting ml_X12_422 (cnX12_fillWaiting (xo κ) v0 hv0) hv0 (by decide) rfl rfl rfl (by decide) (by decide) (Nat.le_of_ble_eq_true rfl) rfl (show decode cX12_order 24 = .ok (.invokevirtual 422, 3) from by decide +kernel) rfl (fun _ => ?_)
      refine sr_aload_n (i := 0) (q := 28) C (show decode cX12_order 27 = .ok (.aload_n 0, 1) from by decide +kernel) rfl rfl rfl ?_
      refine sr_geti (q := 31) C fl_X12_405 (Or.inl rfl) hv0 (show decode cX12_order 28 = .ok (.getfield 405, 3) from by decide +kernel) rfl (fun x28 => ?_)
      refine sr_bipush (v := (6 : Int32)) (q := 33) C (show decode cX12_order 31 = .ok (.bipush 6, 2) from by decide +kernel) (by decide) rfl ?_
      refine sr_icmp_le (q := 36) C 39 (show decode cX12_order 33 = .ok (.if_icmp .le 6, 3) from by decide +kernel) (by decide) rfl ?_ ?_
      · refine sr_aload_n (i := 0) (q := 40) C (show decode cX12_order 39 = .ok (.aload_n 0, 1) from by decide +kernel) rfl rfl rfl ?_
        refine sr_iload_n (i := 1) (q := 41) C (show decode cX12_order 40 = .ok (.iload_n 1, 1) from by decide +kernel) rfl rfl rfl ?_
        refine sr_cVv (As := [.int v1]) (st := []) (b := v0) (q := 44) C yvX12_findsOrder ml_X12_425 (cnX12_findsOrder (xo κ) v0 v1 hv0) hv0 (by decide) rfl rfl rfl (by decide) (by decide) (Nat.le_of_ble_eq_true rfl) rfl (show decode cX12_order 41 = .ok (.invokevirtual 425, 3) from by decide +kernel) rfl (fun _ => ?_)
        refine sr_iload_n (i := 2) (q := 45) C (show decode cX12_order 44 = .ok (.iload_n 2, 1) from by decide +kernel) rfl rfl rfl ?_
        refine sr_if_ne (q := 48) C 55 (show decode cX12_order 45 = .ok (.ifCond .ne 10, 3) from by decide +kernel) (by decide) rfl ?_ ?_
        · refine sr_iload_n (i := 2) (q := 56) C (show decode cX12_order 55 = .ok (.iload_n 2, 1) from by decide +kernel) rfl rfl rfl ?_
          refine sr_iconst (v := (1 : Int32)) (q := 57) C (show decode cX12_order 56 = .ok (.iconst 1, 1) from by decide +kernel) (by decide) rfl ?_
          refine sr_icmp_ne (q := 60) C 67 (show decode cX12_order 57 = .ok (.if_icmp .ne 10, 3) from by decide +kernel) (by decide) rfl ?_ ?_
          · refine sr_iload_n (i := 2) (q := 68) C (show decode cX12_order 67 = .ok (.iload_n 2, 1) from by decide +kernel) rfl rfl rfl ?_
            refine sr_iconst (v := (2 : Int32)) (q := 69) C (show decode cX12_order 68 = .ok (.iconst 2, 1) from by decide +kernel) (by decide) rfl ?_
            refine sr_isub (q := 70) C (show decode cX12_order 69 = .ok (.isub, 1) from by decide +kernel) rfl ?_
            refine sr_aload_n (i := 0) (q := 71) C (show decode cX12_order 70 = .ok (.aload_n 0, 1) from by decide +kernel) rfl rfl rfl ?_
            refine sr_geti (q := 74) C fl_X12_405 (Or.inl rfl) hv0 (show decode cX12_order 71 = .ok (.getfield 405, 3) from by decide +kernel) rfl (fun x71 => ?_)
            refine sr_icmp_ge (q := 77) C 88 (show decode cX12_order 74 = .ok (.if_icmp .ge 14, 3) from by decide +kernel) (by decide) rfl ?_ ?_
            · refine sr_iconst (v := (-1 : Int32)) (q := 89) C (show decode cX12_order 88 = .ok (.iconst (-1), 1) from by decide +kernel) (by decide) rfl ?_
              exact sr_ireturn C _ rfl (show decode cX12_order 89 = .ok (.ireturn, 1) from by decide +kernel)
            · refine sr_aload_n (i := 0) (q := 78) C (show decode cX12_order 77 = .ok (.aload_n 0, 1) from by decide +kernel) rfl rfl rfl ?_
              refine sr_getr (q := 81) C fl_X12_55 hv0 (show decode cX12_order 78 = .ok (.getfield 55, 3) from by decide +kernel) rfl ?_
              refine sr_iload_n (i := 2) (q := 82) C (show decode cX12_order 81 = .ok (.iload_n 2, 1) from by decide +kernel) rfl rfl rfl ?_
              refine sr_iconst (v := (2 : Int32)) (q := 83) C (show decode cX12_order 82 = .ok (.iconst 2, 1) from by decide +kernel) (by decide) rfl ?_
              refine sr_isub (q := 84) C (show decode cX12_order 83 = .ok (.isub, 1) from by decide +kernel) rfl ?_
              refine sr_iaload (q := 85) C (kt hv0 kp_12_29) (show decode cX12_order 84 = .ok (.iaload, 1) from by decide +kernel) rfl (fun x84 => ?_)
              refine sr_goto (q := 89) C (show decode cX12_order 85 = .ok (.goto 4, 3) from by decide +kernel) (by decide) ?_
              exact sr_ireturn C _ rfl (show decode cX12_order 89 = .ok (.ireturn, 1) from by decide +kernel)
          · refine sr_aload_n (i := 0) (q := 61) C (show decode cX12_order 60 = .ok (.aload_n 0, 1) from by decide +kernel) rfl rfl rfl ?_
            refine sr_geti (q := 64) C fl_X12_411 (Or.inl rfl) hv0 (show decode cX12_order 61 = .ok (.getfield 411, 3) from by decide +kernel) rfl (fun x61 => ?_)
            refine sr_goto (q := 89) C (show decode cX12_order 64 = .ok (.goto 25, 3) from by decide +kernel) (by decide) ?_
            exact sr_ireturn C _ rfl (show decode cX12_order 89 = .ok (.ireturn, 1) from by decide +kernel)
        · refine sr_aload_n (i := 0) (q := 49) C (show decode cX12_order 48 = .ok (.aload_n 0, 1) from by decide +kernel) rfl rfl rfl ?_
          refine sr_geti (q := 52) C fl_X12_414 (Or.inl rfl) hv0 (show decode cX12_order 49 = .ok (.getfield 414, 3) from by decide +kernel) rfl (fun x49 => ?_)
          refine sr_goto (q := 89) C (show decode cX12_order 52 = .ok (.goto 37, 3) from by decide +kernel) (by decide) ?_
          exact sr_ireturn C _ rfl (show decode cX12_order 89 = .ok (.ireturn, 1) from by decide +kernel)
      · refine sr_bipush (v := (-3 : Int32)) (q := 38) C (show decode cX12_order 36 = .ok (.bipush (-3), 2) from by decide +kernel) (by decide) rfl ?_
        exact sr_ireturn C _ rfl (show decode cX12_order 38 = .ok (.ireturn, 1) from by decide +kernel)
    · refine sr_bipush (v := (-2 : Int32)) (q := 22) C (show decode cX12_order 20 = .ok (.bipush (-2), 2) from by decide +kernel) (by decide) rfl ?_
      exact sr_ireturn C _ rfl (show decode cX12_order 22 = .ok (.ireturn, 1) from by decide +kernel)
theorem cnX12_order (ω : sm_O) (v0 : Nat) (v1 : Int32) (v2 : Int32) (hv0 : kd v0 = 12) : sm_Mt 11 yX12_order cX12_order 3 (some .int) ω [.ref (ω.1 + v0), .int v1, .int v2] (fun a => some (.int a)) (fnX12_order v0 v1 v2) := by
  refine sm_conI (r := fun a => a) (by decide) (fun _ => rfl) (Nat.le_of_ble_eq_true rfl) ?_
  intro κ hκ C
  subst hκ
  exact slX12_order C v0 v1 v2 hv0
def fnX12_over (v0 : Nat) (v1 : Int32) (v2 : Int32) : sm_M Int32 := m_bnd (fnX12_isWay v0 v1) fun x2 => m_br ((bI x2) = 0)
    (m_ret (-2 : Int32))
    (m_bnd (fnX12_in v2.toInt64 (0 : Int64) (3 : Int64)) fun x14 => m_br ((bI x14) = 0)
    (m_ret (-2 : Int32))
    (m_bnd (fnX12_thinks v0) fun _ => m_bnd (fnX12_allGoOver v0 v1) fun _ => m_bnd (fnX12_mustAndNot v0) fun x33 => m_bnd (fnX12_wakes v0) fun _ => m_br (v2 = 0)
    (m_gi v0 22 fun x46 => m_ret x46)
    (m_br (v2 = (1 : Int32))
    (m_gi v0 23 fun x58 => m_ret x58)
    (m_br (v2 = (2 : Int32))
    (m_gi v0 24 fun x70 => m_ret x70)
    (m_ret x33)))))
set_option maxHeartbeats 4000000 in
set_option maxRecDepth 100000 in
theorem slX12_over {κ : sm_X} (C : sm_C κ RX12 cX12_over 4 11) (v0 : Nat) (v1 : Int32) (v2 : Int32) (hv0 : kd v0 = 12) : sm_S κ (fun r : Int32 => .inr (some (.int r))) (.inl (0, [some (xad κ v0), some (.int v1), some (.int v2), none], [])) (fnX12_over v0 v1 v2) := by
  unfold fnX12_over
  refine sr_aload_n (i := 0) (q := 1) C (show decode cX12_over 0 = .ok (.aload_n 0, 1) from by decide +kernel) rfl rfl rfl ?_
  refine sr_iload_n (i := 1) (q := 2) C (show decode cX12_over 1 = .ok (.iload_n 1, 1) from by decide +kernel) rfl rfl rfl ?_
  refine sr_cVz (As := [.int v1]) (st := []) (b := v0) (q := 5) C yvX12_isWay ml_X12_366 (cnX12_isWay (xo κ) v0 v1 hv0) hv0 (by decide) rfl rfl rfl (by decide) (by decide) (Nat.le_of_ble_eq_true rfl) rfl (show decode cX12_over 2 = .ok (.invokevirtual 366, 3) from by decide +kernel) rfl (fun x2 => ?_)
  refine sr_if_eq (q := 8) C 20 (show decode cX12_over 5 = .ok (.ifCond .eq 15, 3) from by decide +kernel) (by decide) rfl ?_ ?_
  · refine sr_bipush (v := (-2 : Int32)) (q := 22) C (show decode cX12_over 20 = .ok (.bipush (-2), 2) from by decide +kernel) (by decide) rfl ?_
    exact sr_ireturn C _ rfl (show decode cX12_over 22 = .ok (.ireturn, 1) from by decide +kernel)
  · refine sr_iload_n (i := 2) (q := 9) C (show decode cX12_over 8 = .ok (.iload_n 2, 1) from by decide +kernel) rfl rfl rfl ?_
    refine sr_i2l (q := 10) C (show decode cX12_over 9 = .ok (.i2l, 1) from by decide +kernel) rfl ?_
    refine sr_lconst (v := (0 : Int64)) (q := 11) C (show decode cX12_over 10 = .ok (.lconst 0, 1) from by decide +kernel) (by decide) rfl ?_
    refine sr_ldc2 (q := 14) C co_X12_308 (show decode cX12_over 11 = .ok (.ldc2_w 308, 3) from by decide +kernel) rfl ?_
    refine sr_cSz (As := [.long v2.toInt64, .long (0 : Int64), .long (3 : Int64)]) (st := []) (q := 17) C ysX12_in ml_X12_103 (cnX12_in (xo κ) v2.toInt64 (0 : Int64) (3 : Int64)) rfl (by decide) (by decide) (Nat.le_of_ble_eq_true rfl) rfl (show decode cX12_over 14 = .ok (.invokestatic 103, 3) from by decide +kernel) rfl (fun x14 => ?_)
    refine sr_if_ne (q := 20) C 23 (show decode cX12_over 17 = .ok (.ifCond .ne 6, 3) from by decide +kernel) (by decide) rfl ?_ ?_
    · refine sr_aload_n (i := 0) (q := 24) C (show decode cX12_over 23 = .ok (.aload_n 0, 1) from by decide +kernel) rfl rfl rfl ?_
      refine sr_cVv (As := []) (st := []) (b := v0) (q := 27) C yvX12_thinks ml_X12_339 (cnX12_thinks (xo κ) v0 hv0) hv0 (by decide) rfl rfl rfl (by decide) (by decide) (Nat.le_of_ble_eq_true rfl) rfl (show decode cX12_over 24 = .ok (.invokevirtual 339, 3) from by decide +kernel) rfl (fun _ => ?_)
      refine sr_aload_n (i := 0) (q := 28) C (show decode cX12_over 27 = .ok (.aload_n 0, 1) from by decide +kernel) rfl rfl rfl ?_
      refine sr_iload_n (i := 1) (q := 29) C (show decode cX12_over 28 = .ok (.iload_n 1, 1) from by decide +kernel) rfl rfl rfl ?_
      refine sr_cVv (As := [.int v1]) (st := []) (b := v0) (q := 32) C yvX12_allGoOver ml_X12_399 (cnX12_allGoOver (xo κ) v0 v1 hv0) hv0 (by decide) rfl rfl rfl (by decide) (by decide) (Nat.le_of_ble_eq_true rfl) rfl (show decode cX12_over 29 = .ok (.invokevirtual 399, 3) from by decide +kernel) rfl (fun _ => ?_)
      refine sr_aload_n (i := 0) (q := 33) C (show decode cX12_over 32 = .ok (.aload_n 0, 1) from by decide +kernel) rfl rfl rfl ?_
      refine sr_cVi (As := []) (st := []) (b := v0) (q := 36) C yvX12_mustAndNot ml_X12_402 (cnX12_mustAndNot (xo κ) v0 hv0) hv0 (by decide) rfl rfl rfl (by decide) (by decide) (Nat.le_of_ble_eq_true rfl) rfl (show decode cX12_over 33 = .ok (.invokevirtual 402, 3) from by decide +kernel) rfl (fun x33 => ?_)
      refine sr_istore_n (i := 3) (L' := [some (xad κ v0), some (.int v1), some (.int v2), some (.int x33)]) (q := 37) C (show decode cX12_over 36 = .ok (.istore_n 3, 1) from by decide +kernel) rfl (by decide) rfl rfl ?_
      refine sr_aload_n (i := 0) (q := 38) C (show decode cX12_over 37 = .ok (.aload_n 0, 1) from by decide +kernel) rfl rfl rfl ?_
      refine sr_cVv (As := []) (st := []) (b := v0) (q := 41) C yvX12_wakes ml_X12_345 (cnX12_wakes (xo κ) v0 hv0) hv0 (by decide) rfl rfl rfl (by decide) (by decide) (Nat.le_of_ble_eq_true rfl) rfl (show decode cX12_over 38 = .ok (.invokevirtual 345, 3) from by decide +kernel) rfl (fun _ => ?_)
      refine sr_iload_n (i := 2) (q := 42) C (show decode cX12_over 41 = .ok (.iload_n 2, 1) from by decide +kernel) rfl rfl rfl ?_
      refine sr_if_ne (q := 45) C 52 (show decode cX12_over 42 = .ok (.ifCond .ne 10, 3) from by decide +kernel) (by decide) rfl ?_ ?_
      · refine sr_iload_n (i := 2) (q := 53) C (show decode cX12_over 52 = .ok (.iload_n 2, 1) from by decide +kernel) rfl rfl rfl ?_
        refine sr_iconst (v := (1 : Int32)) (q := 54) C (show decode cX12_over 53 = .ok (.iconst 1, 1) from by decide +kernel) (by decide) rfl ?_
        refine sr_icmp_ne (q := 57) C 64 (show decode cX12_over 54 = .ok (.if_icmp .ne 10, 3) from by decide +kernel) (by decide) rfl ?_ ?_
        · refine sr_iload_n (i := 2) (q := 65) C (show decode cX12_over 64 = .ok (.iload_n 2, 1) from by decide +kernel) rfl rfl rfl ?_
          refine sr_iconst (v := (2 : Int32)) (q := 66) C (show decode cX12_over 65 = .ok (.iconst 2, 1) from by decide +kernel) (by decide) rfl ?_
          refine sr_icmp_ne (q := 69) C 76 (show decode cX12_over 66 = .ok (.if_icmp .ne 10, 3) from by decide +kernel) (by decide) rfl ?_ ?_
          · refine sr_iload_n (i := 3) (q := 77) C (show decode cX12_over 76 = .ok (.iload_n 3, 1) from by decide +kernel) rfl rfl rfl ?_
            exact sr_ireturn C _ rfl (show decode cX12_over 77 = .ok (.ireturn, 1) from by decide +kernel)
          · refine sr_aload_n (i := 0) (q := 70) C (show decode cX12_over 69 = .ok (.aload_n 0, 1) from by decide +kernel) rfl rfl rfl ?_
            refine sr_geti (q := 73) C fl_X12_378 (Or.inl rfl) hv0 (show decode cX12_over 70 = .ok (.getfield 378, 3) from by decide +kernel) rfl (fun x70 => ?_)
            refine sr_goto (q := 77) C (show decode cX12_over 73 = .ok (.goto 4, 3) from by decide +kernel) (by decide) ?_
            exact sr_ireturn C _ rfl (show decode cX12_over 77 = .ok (.ireturn, 1) from by decide +kernel)
        · refine sr_aload_n (i := 0) (q := 58) C (show decode cX12_over 57 = .ok (.aload_n 0, 1) from by decide +kernel) rfl rfl rfl ?_
          refine sr_geti (q := 61) C fl_X12_375 (Or.inl rfl) hv0 (show decode cX12_over 58 = .ok (.getfield 375, 3) from by decide +kernel) rfl (fun x58 => ?_)
          refine sr_goto (q := 77) C (show decode cX12_over 61 = .ok (.goto 16, 3) from by decide +kernel) (by decide) ?_
          exact sr_ireturn C _ rfl (show decode cX12_over 77 = .ok (.ireturn, 1) from by decide +kernel)
      · refine sr_aload_n (i := 0) (q := 46) C (show decode cX12_over 45 = .ok (.aload_n 0, 1) from by decide +kernel) rfl rfl rfl ?_
        refine sr_geti (q := 49) C fl_X12_372 (Or.inl rfl) hv0 (show decode cX12_over 46 = .ok (.getfield 372, 3) from by decide +kernel) rfl (fun x46 => ?_)
        refine sr_goto (q := 77) C (show decode cX12_over 49 = .ok (.goto 28, 3) from by decide +kernel) (by decide) ?_
        exact sr_ireturn C _ rfl (show decode cX12_over 77 = .ok (.ireturn, 1) from by decide +kernel)
    · refine sr_bipush (v := (-2 : Int32)) (q := 22) C (show decode cX12_over 20 = .ok (.bipush (-2), 2) from by decide +kernel) (by decide) rfl ?_
      exact sr_ireturn C _ rfl (show decode cX12_over 22 = .ok (.ireturn, 1) from by decide +kernel)
theorem cnX12_over (ω : sm_O) (v0 : Nat) (v1 : Int32) (v2 : Int32) (hv0 : kd v0 = 12) : sm_Mt 11 yX12_over cX12_over 4 (some .int) ω [.ref (ω.1 + v0), .int v1, .int v2] (fun a => some (.int a)) (fnX12_over v0 v1 v2) := by
  refine sm_conI (r := fun a => a) (by decide) (fun _ => rfl) (Nat.le_of_ble_eq_true rfl) ?_
  intro κ hκ C
  subst hκ
  exact slX12_over C v0 v1 v2 hv0
def fnX12_paste_L150 : Nat → Nat → Int32 → Int32 → Int32 → Int32 → sm_M Int32
  | 0, _, _, _, _, _ => m_fail
  | n + 1, v0, v3, v4, v5, v6 => m_br (v5 ≤ v6)
    (m_ret (0 : Int32))
    (m_al (lk v0 46) v6 fun x177 => m_sal (lk v0 45) ((((60 : Int32) * v3) + v4) + v6) x177 <| (fnX12_paste_L150 n) v0 v3 v4 v5 (v6 + (1 : Int32)))
set_option maxHeartbeats 4000000 in
set_option maxRecDepth 100000 in
theorem slX12_paste_L150 {κ : sm_X} (C : sm_C κ RX12 cX12_paste 7 3) : ∀ (n : Nat) (v0 : Nat) (v3 : Int32) (v4 : Int32) (v5 : Int32) (v6 : Int32) (hv0 : kd v0 = 12), sm_S κ (fun r : Int32 => .inr (some (.int r))) (.inl (150, [some (xad κ v0), none, none, some (.int v3), some (.int v4), some (.int v5), some (.int v6)], [])) (fnX12_paste_L150 n v0 v3 v4 v5 v6) := by
  intro n
  induction n with
  | zero =>
    intros
    exact sr_fail
  | succ n K150 =>
    intro v0 v3 v4 v5 v6 hv0
    unfold fnX12_paste_L150
    refine sr_iload (i := 6) (q := 152) C (show decode cX12_paste 150 = .ok (.iload 6, 2) from by decide +kernel) rfl rfl ?_
    refine sr_iload (i := 5) (q := 154) C (show decode cX12_paste 152 = .ok (.iload 5, 2) from by decide +kernel) rfl rfl ?_
    refine sr_icmp_ge (q := 157) C 185 (show decode cX12_paste 154 = .ok (.if_icmp .ge 31, 3) from by decide +kernel) (by decide) rfl ?_ ?_
    · refine sr_iconst (v := (0 : Int32)) (q := 186) C (show decode cX12_paste 185 = .ok (.iconst 0, 1) from by decide +kernel) (by decide) rfl ?_
      exact sr_ireturn C _ rfl (show decode cX12_paste 186 = .ok (.ireturn, 1) from by decide +kernel)
    · refine sr_aload_n (i := 0) (q := 158) C (show decode cX12_paste 157 = .ok (.aload_n 0, 1) from by decide +kernel) rfl rfl rfl ?_
      refine sr_getr (q := 161) C fl_X12_92 hv0 (show decode cX12_paste 158 = .ok (.getfield 92, 3) from by decide +kernel) rfl ?_
      refine sr_bipush (v := (60 : Int32)) (q := 163) C (show decode cX12_paste 161 = .ok (.bipush 60, 2) from by decide +kernel) (by decide) rfl ?_
      refine sr_iload_n (i := 3) (q := 164) C (show decode cX12_paste 163 = .ok (.iload_n 3, 1) from by decide +kernel) rfl rfl rfl ?_
      refine sr_imul (q := 165) C (show decode cX12_paste 164 = .ok (.imul, 1) from by decide +kernel) rfl ?_
      refine sr_iload (i := 4) (q := 167) C (show decode cX12_paste 165 = .ok (.iload 4, 2) from by decide +kernel) rfl rfl ?_
      refine sr_iadd (q := 168) C (show decode cX12_paste 167 = .ok (.iadd, 1) from by decide +kernel) rfl ?_
      refine sr_iload (i := 6) (q := 170) C (show decode cX12_paste 168 = .ok (.iload 6, 2) from by decide +kernel) rfl rfl ?_
      refine sr_iadd (q := 171) C (show decode cX12_paste 170 = .ok (.iadd, 1) from by decide +kernel) rfl ?_
      refine sr_aload_n (i := 0) (q := 172) C (show decode cX12_paste 171 = .ok (.aload_n 0, 1) from by decide +kernel) rfl rfl rfl ?_
      refine sr_getr (q := 175) C fl_X12_95 hv0 (show decode cX12_paste 172 = .ok (.getfield 95, 3) from by decide +kernel) rfl ?_
      refine sr_iload (i := 6) (q := 177) C (show decode cX12_paste 175 = .ok (.iload 6, 2) from by decide +kernel) rfl rfl ?_
      refine sr_laload (q := 178) C (kt hv0 kp_12_46) (show decode cX12_paste 177 = .ok (.laload, 1) from by decide +kernel) rfl (fun x177 => ?_)
      refine sr_lastore (q := 179) C (kt hv0 kp_12_45) (show decode cX12_paste 178 = .ok (.lastore, 1) from by decide +kernel) rfl ?_
      refine sr_iinc (v := v6 + (1 : Int32)) (L' := [some (xad κ v0), none, none, some (.int v3), some (.int v4), some (.int v5), some (.int (v6 + (1 : Int32)))]) (q := 182) C (show decode cX12_paste 179 = .ok (.iinc 6 1, 3) from by decide +kernel) rfl rfl (by decide) rfl rfl ?_
      refine sr_goto (q := 150) C (show decode cX12_paste 182 = .ok (.goto (-32), 3) from by decide +kernel) (by decide) ?_
      exact K150 v0 v3 v4 v5 (v6 + (1 : Int32)) hv0
def fnX12_paste_J147 (v0 : Nat) (v3 : Int32) (v4 : Int32) (v5 : Int32) : sm_M Int32 := fnX12_paste_L150 4096 v0 v3 v4 v5 (0 : Int32)
set_option maxHeartbeats 4000000 in
set_option maxRecDepth 100000 in
theorem slX12_paste_J147 {κ : sm_X} (C : sm_C κ RX12 cX12_paste 7 3) (v0 : Nat) (v3 : Int32) (v4 : Int32) (v5 : Int32) (hv0 : kd v0 = 12) : sm_S κ (fun r : Int32 => .inr (some (.int r))) (.inl (147, [some (xad κ v0), none, none, some (.int v3), some (.int v4), some (.int v5), none], [])) (fnX12_paste_J147 v0 v3 v4 v5) := by
  unfold fnX12_paste_J147
  refine sr_iconst (v := (0 : Int32)) (q := 148) C (show decode cX12_paste 147 = .ok (.iconst 0, 1) from by decide +kernel) (by decide) rfl ?_
  refine sr_istore (i := 6) (L' := [some (xad κ v0), none, none, some (.int v3), some (.int v4), some (.int v5), some (.int (0 : Int32))]) (q := 150) C (show decode cX12_paste 148 = .ok (.istore 6, 2) from by decide +kernel) (by decide) rfl rfl ?_
  exact slX12_paste_L150 C 4096 v0 v3 v4 v5 (0 : Int32) hv0
def fnX12_paste_L113 : Nat → Nat → Int32 → Int32 → Int32 → Int32 → Int32 → Int32 → sm_M Int32
  | 0, _, _, _, _, _, _, _ => m_fail
  | n + 1, v0, v1, v2, v3, v4, v5, v6 => m_br (v5 ≤ v6)
    (fnX12_paste_J147 v0 v3 v4 v5)
    (m_al (lk v0 45) ((((60 : Int32) * v1) + v2) + v6) fun x139 => m_sal (lk v0 46) v6 x139 <| (fnX12_paste_L113 n) v0 v1 v2 v3 v4 v5 (v6 + (1 : Int32)))
set_option maxHeartbeats 4000000 in
set_option maxRecDepth 100000 in
theorem slX12_paste_L113 {κ : sm_X} (C : sm_C κ RX12 cX12_paste 7 3) : ∀ (n : Nat) (v0 : Nat) (v1 : Int32) (v2 : Int32) (v3 : Int32) (v4 : Int32) (v5 : Int32) (v6 : Int32) (hv0 : kd v0 = 12), sm_S κ (fun r : Int32 => .inr (some (.int r))) (.inl (113, [some (xad κ v0), some (.int v1), some (.int v2), some (.int v3), some (.int v4), some (.int v5), some (.int v6)], [])) (fnX12_paste_L113 n v0 v1 v2 v3 v4 v5 v6) := by
  intro n
  induction n with
  | zero =>
    intros
    exact sr_fail
  | succ n K113 =>
    intro v0 v1 v2 v3 v4 v5 v6 hv0
    unfold fnX12_paste_L113
    refine sr_iload (i := 6) (q := 115) C (show decode cX12_paste 113 = .ok (.iload 6, 2) from by decide +kernel) rfl rfl ?_
    refine sr_iload (i := 5) (q := 117) C (show decode cX12_paste 115 = .ok (.iload 5, 2) from by decide +kernel) rfl rfl ?_
    refine sr_icmp_ge (q := 120) C 147 (show decode cX12_paste 117 = .ok (.if_icmp .ge 30, 3) from by decide +kernel) (by decide) rfl ?_ ?_
    · refine sr_weak (L' := [some (xad κ v0), none, none, some (.int v3), some (.int v4), some (.int v5), none]) ⟨rfl, rfl, rfl, rfl, trivial⟩ ?_
      exact slX12_paste_J147 C v0 v3 v4 v5 hv0
    · refine sr_aload_n (i := 0) (q := 121) C (show decode cX12_paste 120 = .ok (.aload_n 0, 1) from by decide +kernel) rfl rfl rfl ?_
      refine sr_getr (q := 124) C fl_X12_95 hv0 (show decode cX12_paste 121 = .ok (.getfield 95, 3) from by decide +kernel) rfl ?_
      refine sr_iload (i := 6) (q := 126) C (show decode cX12_paste 124 = .ok (.iload 6, 2) from by decide +kernel) rfl rfl ?_
      refine sr_aload_n (i := 0) (q := 127) C (show decode cX12_paste 126 = .ok (.aload_n 0, 1) from by decide +kernel) rfl rfl rfl ?_
      refine sr_getr (q := 130) C fl_X12_92 hv0 (show decode cX12_paste 127 = .ok (.getfield 92, 3) from by decide +kernel) rfl ?_
      refine sr_bipush (v := (60 : Int32)) (q := 132) C (show decode cX12_paste 130 = .ok (.bipush 60, 2) from by decide +kernel) (by decide) rfl ?_
      refine sr_iload_n (i := 1) (q := 133) C (show decode cX12_paste 132 = .ok (.iload_n 1, 1) from by decide +kernel) rfl rfl rfl ?_
      refine sr_imul (q := 134) C (show decode cX12_paste 133 = .ok (.imul, 1) from by decide +kernel) rfl ?_
      refine sr_iload_n (i := 2) (q := 135) C (show decode cX12_paste 134 = .ok (.iload_n 2, 1) from by decide +kernel) rfl rfl rfl ?_
      refine sr_iadd (q := 136) C (show decode cX12_paste 135 = .ok (.iadd, 1) from by decide +kernel) rfl ?_
      refine sr_iload (i := 6) (q := 138) C (show decode cX12_paste 136 = .ok (.iload 6, 2) from by decide +kernel) rfl rfl ?_
      refine sr_iadd (q := 139) C (show decode cX12_paste 138 = .ok (.iadd, 1) from by decide +kernel) rfl ?_
      refine sr_laload (q := 140) C (kt hv0 kp_12_45) (show decode cX12_paste 139 = .ok (.laload, 1) from by decide +kernel) rfl (fun x139 => ?_)
      refine sr_lastore (q := 141) C (kt hv0 kp_12_46) (show decode cX12_paste 140 = .ok (.lastore, 1) from by decide +kernel) rfl ?_
      refine sr_iinc (v := v6 + (1 : Int32)) (L' := [some (xad κ v0), some (.int v1), some (.int v2), some (.int v3), some (.int v4), some (.int v5), some (.int (v6 + (1 : Int32)))]) (q := 144) C (show decode cX12_paste 141 = .ok (.iinc 6 1, 3) from by decide +kernel) rfl rfl (by decide) rfl rfl ?_
      refine sr_goto (q := 113) C (show decode cX12_paste 144 = .ok (.goto (-31), 3) from by decide +kernel) (by decide) ?_
      exact K113 v0 v1 v2 v3 v4 v5 (v6 + (1 : Int32)) hv0
def fnX12_paste (v0 : Nat) (v1 : Int32) (v2 : Int32) (v3 : Int32) (v4 : Int32) (v5 : Int32) : sm_M Int32 := m_bnd (fnX12_isSlot v1) fun x1 => m_br ((bI x1) = 0)
    (m_ret (-2 : Int32))
    (m_bnd (fnX12_isSlot v3) fun x8 => m_br ((bI x8) = 0)
    (m_ret (-2 : Int32))
    (m_ai (lk v0 43) v1 fun x22 => m_br (x22 = (-1 : Int32))
    (m_ret (-6 : Int32))
    (m_ai (lk v0 43) v3 fun x32 => m_br (x32 = (-1 : Int32))
    (m_ret (-6 : Int32))
    (m_ai (lk v0 44) v1 fun x45 => m_ai (lk v0 44) v3 fun x51 => m_br (x45 = x51)
    (m_br (v2 < 0)
    (m_ret (-7 : Int32))
    (m_br (v4 < 0)
    (m_ret (-7 : Int32))
    (m_br (v5 < 0)
    (m_ret (-7 : Int32))
    (m_ai (lk v0 43) v1 fun x83 => m_br (0 < (lg_cmp (v2.toInt64 + v5.toInt64) x83.toInt64))
    (m_ret (-7 : Int32))
    (m_ai (lk v0 43) v3 fun x101 => m_br ((lg_cmp (v4.toInt64 + v5.toInt64) x101.toInt64) ≤ 0)
    (fnX12_paste_L113 4096 v0 v1 v2 v3 v4 v5 (0 : Int32))
    (m_ret (-7 : Int32)))))))
    (m_ret (-8 : Int32))))))
set_option maxHeartbeats 4000000 in
set_option maxRecDepth 100000 in
theorem slX12_paste {κ : sm_X} (C : sm_C κ RX12 cX12_paste 7 3) (v0 : Nat) (v1 : Int32) (v2 : Int32) (v3 : Int32) (v4 : Int32) (v5 : Int32) (hv0 : kd v0 = 12) : sm_S κ (fun r : Int32 => .inr (some (.int r))) (.inl (0, [some (xad κ v0), some (.int v1), some (.int v2), some (.int v3), some (.int v4), some (.int v5), none], [])) (fnX12_paste v0 v1 v2 v3 v4 v5) := by
  unfold fnX12_paste
  refine sr_iload_n (i := 1) (q := 1) C (show decode cX12_paste 0 = .ok (.iload_n 1, 1) from by decide +kernel) rfl rfl rfl ?_
  refine sr_cSz (As := [.int v1]) (st := []) (q := 4) C ysX12_isSlot ml_X12_336 (cnX12_isSlot (xo κ) v1) rfl (by decide) (by decide) (Nat.le_of_ble_eq_true rfl) rfl (show decode cX12_paste 1 = .ok (.invokestatic 336, 3) from by decide +kernel) rfl (fun x1 => ?_)
  refine sr_if_eq (q := 7) C 14 (show decode cX12_paste 4 = .ok (.ifCond .eq 10, 3) from by decide +kernel) (by decide) rfl ?_ ?_
  · refine sr_bipush (v := (-2 : Int32)) (q := 16) C (show decode cX12_paste 14 = .ok (.bipush (-2), 2) from by decide +kernel) (by decide) rfl ?_
    exact sr_ireturn C _ rfl (show decode cX12_paste 16 = .ok (.ireturn, 1) from by decide +kernel)
  · refine sr_iload_n (i := 3) (q := 8) C (show decode cX12_paste 7 = .ok (.iload_n 3, 1) from by decide +kernel) rfl rfl rfl ?_
    refine sr_cSz (As := [.int v3]) (st := []) (q := 11) C ysX12_isSlot ml_X12_336 (cnX12_isSlot (xo κ) v3) rfl (by decide) (by decide) (Nat.le_of_ble_eq_true rfl) rfl (show decode cX12_paste 8 = .ok (.invokestatic 336, 3) from by decide +kernel) rfl (fun x8 => ?_)
    refine sr_if_ne (q := 14) C 17 (show decode cX12_paste 11 = .ok (.ifCond .ne 6, 3) from by decide +kernel) (by decide) rfl ?_ ?_
    · refine sr_aload_n (i := 0) (q := 18) C (show decode cX12_paste 17 = .ok (.aload_n 0, 1) from by decide +kernel) rfl rfl rfl ?_
      refine sr_getr (q := 21) C fl_X12_86 hv0 (show decode cX12_paste 18 = .ok (.getfield 86, 3) from by decide +kernel) rfl ?_
      refine sr_iload_n (i := 1) (q := 22) C (show decode cX12_paste 21 = .ok (.iload_n 1, 1) from by decide +kernel) rfl rfl rfl ?_
      refine sr_iaload (q := 23) C (kt hv0 kp_12_43) (show decode cX12_paste 22 = .ok (.iaload, 1) from by decide +kernel) rfl (fun x22 => ?_)
      refine sr_iconst (v := (-1 : Int32)) (q := 24) C (show decode cX12_paste 23 = .ok (.iconst (-1), 1) from by decide +kernel) (by decide) rfl ?_
      refine sr_icmp_eq (q := 27) C 37 (show decode cX12_paste 24 = .ok (.if_icmp .eq 13, 3) from by decide +kernel) (by decide) rfl ?_ ?_
      · refine sr_bipush (v := (-6 : Int32)) (q := 39) C (show decode cX12_paste 37 = .ok (.bipush (-6), 2) from by decide +kernel) (by decide) rfl ?_
        exact sr_ireturn C _ rfl (show decode cX12_paste 39 = .ok (.ireturn, 1) from by decide +kernel)
      · refine sr_aload_n (i := 0) (q := 28) C (show decode cX12_paste 27 = .ok (.aload_n 0, 1) from by decide +kernel) rfl rfl rfl ?_
        refine sr_getr (q := 31) C fl_X12_86 hv0 (show decode cX12_paste 28 = .ok (.getfield 86, 3) from by decide +kernel) rfl ?_
        refine sr_iload_n (i := 3) (q := 32) C (show decode cX12_paste 31 = .ok (.iload_n 3, 1) from by decide +kernel) rfl rfl rfl ?_
        refine sr_iaload (q := 33) C (kt hv0 kp_12_43) (show decode cX12_paste 32 = .ok (.iaload, 1) from by decide +kernel) rfl (fun x32 => ?_)
        refine sr_iconst (v := (-1 : Int32)) (q := 34) C (show decode cX12_paste 33 = .ok (.iconst (-1), 1) from by decide +kernel) (by decide) rfl ?_
        refine sr_icmp_ne (q := 37) C 40 (show decode cX12_paste 34 = .ok (.if_icmp .ne 6, 3) from by decide +kernel) (by decide) rfl ?_ ?_
        · refine sr_aload_n (i := 0) (q := 41) C (show decode cX12_paste 40 = .ok (.aload_n 0, 1) from by decide +kernel) rfl rfl rfl ?_
          refine sr_getr (q := 44) C fl_X12_89 hv0 (show decode cX12_paste 41 = .ok (.getfield 89, 3) from by decide +kernel) rfl ?_
          refine sr_iload_n (i := 1) (q := 45) C (show decode cX12_paste 44 = .ok (.iload_n 1, 1) from by decide +kernel) rfl rfl rfl ?_
          refine sr_iaload (q := 46) C (kt hv0 kp_12_44) (show decode cX12_paste 45 = .ok (.iaload, 1) from by decide +kernel) rfl (fun x45 => ?_)
          refine sr_aload_n (i := 0) (q := 47) C (show decode cX12_paste 46 = .ok (.aload_n 0, 1) from by decide +kernel) rfl rfl rfl ?_
          refine sr_getr (q := 50) C fl_X12_89 hv0 (show decode cX12_paste 47 = .ok (.getfield 89, 3) from by decide +kernel) rfl ?_
          refine sr_iload_n (i := 3) (q := 51) C (show decode cX12_paste 50 = .ok (.iload_n 3, 1) from by decide +kernel) rfl rfl rfl ?_
          refine sr_iaload (q := 52) C (kt hv0 kp_12_44) (show decode cX12_paste 51 = .ok (.iaload, 1) from by decide +kernel) rfl (fun x51 => ?_)
          refine sr_icmp_eq (q := 55) C 58 (show decode cX12_paste 52 = .ok (.if_icmp .eq 6, 3) from by decide +kernel) (by decide) rfl ?_ ?_
          · refine sr_iload_n (i := 2) (q := 59) C (show decode cX12_paste 58 = .ok (.iload_n 2, 1) from by decide +kernel) rfl rfl rfl ?_
            refine sr_if_lt (q := 62) C 107 (show decode cX12_paste 59 = .ok (.ifCond .lt 48, 3) from by decide +kernel) (by decide) rfl ?_ ?_
            · refine sr_bipush (v := (-7 : Int32)) (q := 109) C (show decode cX12_paste 107 = .ok (.bipush (-7), 2) from by decide +kernel) (by decide) rfl ?_
              exact sr_ireturn C _ rfl (show decode cX12_paste 109 = .ok (.ireturn, 1) from by decide +kernel)
            · refine sr_iload (i := 4) (q := 64) C (show decode cX12_paste 62 = .ok (.iload 4, 2) from by decide +kernel) rfl rfl ?_
              refine sr_if_lt (q := 67) C 107 (show decode cX12_paste 64 = .ok (.ifCond .lt 43, 3) from by decide +kernel) (by decide) rfl ?_ ?_
              · refine sr_bipush (v := (-7 : Int32)) (q := 109) C (show decode cX12_paste 107 = .ok (.bipush (-7), 2) from by decide +kernel) (by decide) rfl ?_
                exact sr_ireturn C _ rfl (show decode cX12_paste 109 = .ok (.ireturn, 1) from by decide +kernel)
              · refine sr_iload (i := 5) (q := 69) C (show decode cX12_paste 67 = .ok (.iload 5, 2) from by decide +kernel) rfl rfl ?_
                refine sr_if_lt (q := 72) C 107 (show decode cX12_paste 69 = .ok (.ifCond .lt 38, 3) from by decide +kernel) (by decide) rfl ?_ ?_
                · refine sr_bipush (v := (-7 : Int32)) (q := 109) C (show decode cX12_paste 107 = .ok (.bipush (-7), 2) from by decide +kernel) (by decide) rfl ?_
                  exact sr_ireturn C _ rfl (show decode cX12_paste 109 = .ok (.ireturn, 1) from by decide +kernel)
                · refine sr_iload_n (i := 2) (q := 73) C (show decode cX12_paste 72 = .ok (.iload_n 2, 1) from by decide +kernel) rfl rfl rfl ?_
                  refine sr_i2l (q := 74) C (show decode cX12_paste 73 = .ok (.i2l, 1) from by decide +kernel) rfl ?_
                  refine sr_iload (i := 5) (q := 76) C (show decode cX12_paste 74 = .ok (.iload 5, 2) from by decide +kernel) rfl rfl ?_
                  refine sr_i2l (q := 77) C (show decode cX12_paste 76 = .ok (.i2l, 1) from by decide +kernel) rfl ?_
                  refine sr_ladd (q := 78) C (show decode cX12_paste 77 = .ok (.ladd, 1) from by decide +kernel) rfl ?_
                  refine sr_aload_n (i := 0) (q := 79) C (show decode cX12_paste 78 = .ok (.aload_n 0, 1) from by decide +kernel) rfl rfl rfl ?_
                  refine sr_getr (q := 82) C fl_X12_86 hv0 (show decode cX12_paste 79 = .ok (.getfield 86, 3) from by decide +kernel) rfl ?_
                  refine sr_iload_n (i := 1) (q := 83) C (show decode cX12_paste 82 = .ok (.iload_n 1, 1) from by decide +kernel) rfl rfl rfl ?_
                  refine sr_iaload (q := 84) C (kt hv0 kp_12_43) (show decode cX12_paste 83 = .ok (.iaload, 1) from by decide +kernel) rfl (fun x83 => ?_)
                  refine sr_i2l (q := 85) C (show decode cX12_paste 84 = .ok (.i2l, 1) from by decide +kernel) rfl ?_
                  refine sr_lcmp (q := 86) C (show decode cX12_paste 85 = .ok (.lcmp, 1) from by decide +kernel) rfl ?_
                  refine sr_if_gt (q := 89) C 107 (show decode cX12_paste 86 = .ok (.ifCond .gt 21, 3) from by decide +kernel) (by decide) rfl ?_ ?_
                  · refine sr_bipush (v := (-7 : Int32)) (q := 109) C (show decode cX12_paste 107 = .ok (.bipush (-7), 2) from by decide +kernel) (by decide) rfl ?_
                    exact sr_ireturn C _ rfl (show decode cX12_paste 109 = .ok (.ireturn, 1) from by decide +kernel)
                  · refine sr_iload (i := 4) (q := 91) C (show decode cX12_paste 89 = .ok (.iload 4, 2) from by decide +kernel) rfl rfl ?_
                    refine sr_i2l (q := 92) C (show decode cX12_paste 91 = .ok (.i2l, 1) from by decide +kernel) rfl ?_
                    refine sr_iload (i := 5) (q := 94) C (show decode cX12_paste 92 = .ok (.iload 5, 2) from by decide +kernel) rfl rfl ?_
                    refine sr_i2l (q := 95) C (show decode cX12_paste 94 = .ok (.i2l, 1) from by decide +kernel) rfl ?_
                    refine sr_ladd (q := 96) C (show decode cX12_paste 95 = .ok (.ladd, 1) from by decide +kernel) rfl ?_
                    refine sr_aload_n (i := 0) (q := 97) C (show decode cX12_paste 96 = .ok (.aload_n 0, 1) from by decide +kernel) rfl rfl rfl ?_
                    refine sr_getr (q := 100) C fl_X12_86 hv0 (show decode cX12_paste 97 = .ok (.getfield 86, 3) from by decide +kernel) rfl ?_
                    refine sr_iload_n (i := 3) (q := 101) C (show decode cX12_paste 100 = .ok (.iload_n 3, 1) from by decide +kernel) rfl rfl rfl ?_
                    refine sr_iaload (q := 102) C (kt hv0 kp_12_43) (show decode cX12_paste 101 = .ok (.iaload, 1) from by decide +kernel) rfl (fun x101 => ?_)
                    refine sr_i2l (q := 103) C (show decode cX12_paste 102 = .ok (.i2l, 1) from by decide +kernel) rfl ?_
                    refine sr_lcmp (q := 104) C (show decode cX12_paste 103 = .ok (.lcmp, 1) from by decide +kernel) rfl ?_
                    refine sr_if_le (q := 107) C 110 (show decode cX12_paste 104 = .ok (.ifCond .le 6, 3) from by decide +kernel) (by decide) rfl ?_ ?_
                    · refine sr_iconst (v := (0 : Int32)) (q := 111) C (show decode cX12_paste 110 = .ok (.iconst 0, 1) from by decide +kernel) (by decide) rfl ?_
                      refine sr_istore (i := 6) (L' := [some (xad κ v0), some (.int v1), some (.int v2), some (.int v3), some (.int v4), some (.int v5), some (.int (0 : Int32))]) (q := 113) C (show decode cX12_paste 111 = .ok (.istore 6, 2) from by decide +kernel) (by decide) rfl rfl ?_
                      exact slX12_paste_L113 C 4096 v0 v1 v2 v3 v4 v5 (0 : Int32) hv0
                    · refine sr_bipush (v := (-7 : Int32)) (q := 109) C (show decode cX12_paste 107 = .ok (.bipush (-7), 2) from by decide +kernel) (by decide) rfl ?_
                      exact sr_ireturn C _ rfl (show decode cX12_paste 109 = .ok (.ireturn, 1) from by decide +kernel)
          · refine sr_bipush (v := (-8 : Int32)) (q := 57) C (show decode cX12_paste 55 = .ok (.bipush (-8), 2) from by decide +kernel) (by decide) rfl ?_
            exact sr_ireturn C _ rfl (show decode cX12_paste 57 = .ok (.ireturn, 1) from by decide +kernel)
        · refine sr_bipush (v := (-6 : Int32)) (q := 39) C (show decode cX12_paste 37 = .ok (.bipush (-6), 2) from by decide +kernel) (by decide) rfl ?_
          exact sr_ireturn C _ rfl (show decode cX12_paste 39 = .ok (.ireturn, 1) from by decide +kernel)
    · refine sr_bipush (v := (-2 : Int32)) (q := 16) C (show decode cX12_paste 14 = .ok (.bipush (-2), 2) from by decide +kernel) (by decide) rfl ?_
      exact sr_ireturn C _ rfl (show decode cX12_paste 16 = .ok (.ireturn, 1) from by decide +kernel)
theorem cnX12_paste (ω : sm_O) (v0 : Nat) (v1 : Int32) (v2 : Int32) (v3 : Int32) (v4 : Int32) (v5 : Int32) (hv0 : kd v0 = 12) : sm_Mt 3 yX12_paste cX12_paste 7 (some .int) ω [.ref (ω.1 + v0), .int v1, .int v2, .int v3, .int v4, .int v5] (fun a => some (.int a)) (fnX12_paste v0 v1 v2 v3 v4 v5) := by
  refine sm_conI (r := fun a => a) (by decide) (fun _ => rfl) (Nat.le_of_ble_eq_true rfl) ?_
  intro κ hκ C
  subst hκ
  exact slX12_paste C v0 v1 v2 v3 v4 v5 hv0
def fnX12_path (v0 : Nat) (v1 : Int32) (v2 : Int32) (v3 : Int32) (v4 : Int32) : sm_M Int32 := m_bnd (fnX12_isAsked v0 v1 v2 v3) fun x4 => m_br ((bI x4) = 0)
    (m_ret (-2 : Int32))
    (m_bnd (fnX12_finds v0 v1 v2 v3 (98 : Int32)) fun x19 => m_br ((bI x19) = 0)
    (m_ret (-1 : Int32))
    (m_gi v0 19 fun x30 => m_bnd (fnX12_in v4.toInt64 (0 : Int64) ((x30 - (1 : Int32)).toInt64)) fun x36 => m_br ((bI x36) = 0)
    (m_ret (-1 : Int32))
    (m_ai (lk v0 18) v4 fun x48 => m_ret x48)))
set_option maxHeartbeats 4000000 in
set_option maxRecDepth 100000 in
theorem slX12_path {κ : sm_X} (C : sm_C κ RX12 cX12_path 5 8) (v0 : Nat) (v1 : Int32) (v2 : Int32) (v3 : Int32) (v4 : Int32) (hv0 : kd v0 = 12) : sm_S κ (fun r : Int32 => .inr (some (.int r))) (.inl (0, [some (xad κ v0), some (.int v1), some (.int v2), some (.int v3), some (.int v4)], [])) (fnX12_path v0 v1 v2 v3 v4) := by
  unfold fnX12_path
  refine sr_aload_n (i := 0) (q := 1) C (show decode cX12_path 0 = .ok (.aload_n 0, 1) from by decide +kernel) rfl rfl rfl ?_
  refine sr_iload_n (i := 1) (q := 2) C (show decode cX12_path 1 = .ok (.iload_n 1, 1) from by decide +kernel) rfl rfl rfl ?_
  refine sr_iload_n (i := 2) (q := 3) C (show decode cX12_path 2 = .ok (.iload_n 2, 1) from by decide +kernel) rfl rfl rfl ?_
  refine sr_iload_n (i := 3) (q := 4) C (show decode cX12_path 3 = .ok (.iload_n 3, 1) from by decide +kernel) rfl rfl rfl ?_
  refine sr_cVz (As := [.int v1, .int v2, .int v3]) (st := []) (b := v0) (q := 7) C yvX12_isAsked ml_X12_310 (cnX12_isAsked (xo κ) v0 v1 v2 v3 hv0) hv0 (by decide) rfl rfl rfl (by decide) (by decide) (Nat.le_of_ble_eq_true rfl) rfl (show decode cX12_path 4 = .ok (.invokevirtual 310, 3) from by decide +kernel) rfl (fun x4 => ?_)
  refine sr_if_ne (q := 10) C 13 (show decode cX12_path 7 = .ok (.ifCond .ne 6, 3) from by decide +kernel) (by decide) rfl ?_ ?_
  · refine sr_aload_n (i := 0) (q := 14) C (show decode cX12_path 13 = .ok (.aload_n 0, 1) from by decide +kernel) rfl rfl rfl ?_
    refine sr_iload_n (i := 1) (q := 15) C (show decode cX12_path 14 = .ok (.iload_n 1, 1) from by decide +kernel) rfl rfl rfl ?_
    refine sr_iload_n (i := 2) (q := 16) C (show decode cX12_path 15 = .ok (.iload_n 2, 1) from by decide +kernel) rfl rfl rfl ?_
    refine sr_iload_n (i := 3) (q := 17) C (show decode cX12_path 16 = .ok (.iload_n 3, 1) from by decide +kernel) rfl rfl rfl ?_
    refine sr_bipush (v := (98 : Int32)) (q := 19) C (show decode cX12_path 17 = .ok (.bipush 98, 2) from by decide +kernel) (by decide) rfl ?_
    refine sr_cVz (As := [.int v1, .int v2, .int v3, .int (98 : Int32)]) (st := []) (b := v0) (q := 22) C yvX12_finds ml_X12_313 (cnX12_finds (xo κ) v0 v1 v2 v3 (98 : Int32) hv0) hv0 (by decide) rfl rfl rfl (by decide) (by decide) (Nat.le_of_ble_eq_true rfl) rfl (show decode cX12_path 19 = .ok (.invokevirtual 313, 3) from by decide +kernel) rfl (fun x19 => ?_)
    refine sr_if_eq (q := 25) C 52 (show decode cX12_path 22 = .ok (.ifCond .eq 30, 3) from by decide +kernel) (by decide) rfl ?_ ?_
    · refine sr_iconst (v := (-1 : Int32)) (q := 53) C (show decode cX12_path 52 = .ok (.iconst (-1), 1) from by decide +kernel) (by decide) rfl ?_
      exact sr_ireturn C _ rfl (show decode cX12_path 53 = .ok (.ireturn, 1) from by decide +kernel)
    · refine sr_iload (i := 4) (q := 27) C (show decode cX12_path 25 = .ok (.iload 4, 2) from by decide +kernel) rfl rfl ?_
      refine sr_i2l (q := 28) C (show decode cX12_path 27 = .ok (.i2l, 1) from by decide +kernel) rfl ?_
      refine sr_lconst (v := (0 : Int64)) (q := 29) C (show decode cX12_path 28 = .ok (.lconst 0, 1) from by decide +kernel) (by decide) rfl ?_
      refine sr_aload_n (i := 0) (q := 30) C (show decode cX12_path 29 = .ok (.aload_n 0, 1) from by decide +kernel) rfl rfl rfl ?_
      refine sr_geti (q := 33) C fl_X12_297 (Or.inl rfl) hv0 (show decode cX12_path 30 = .ok (.getfield 297, 3) from by decide +kernel) rfl (fun x30 => ?_)
      refine sr_iconst (v := (1 : Int32)) (q := 34) C (show decode cX12_path 33 = .ok (.iconst 1, 1) from by decide +kernel) (by decide) rfl ?_
      refine sr_isub (q := 35) C (show decode cX12_path 34 = .ok (.isub, 1) from by decide +kernel) rfl ?_
      refine sr_i2l (q := 36) C (show decode cX12_path 35 = .ok (.i2l, 1) from by decide +kernel) rfl ?_
      refine sr_cSz (As := [.long v4.toInt64, .long (0 : Int64), .long ((x30 - (1 : Int32)).toInt64)]) (st := []) (q := 39) C ysX12_in ml_X12_103 (cnX12_in (xo κ) v4.toInt64 (0 : Int64) ((x30 - (1 : Int32)).toInt64)) rfl (by decide) (by decide) (Nat.le_of_ble_eq_true rfl) rfl (show decode cX12_path 36 = .ok (.invokestatic 103, 3) from by decide +kernel) rfl (fun x36 => ?_)
      refine sr_if_eq (q := 42) C 52 (show decode cX12_path 39 = .ok (.ifCond .eq 13, 3) from by decide +kernel) (by decide) rfl ?_ ?_
      · refine sr_iconst (v := (-1 : Int32)) (q := 53) C (show decode cX12_path 52 = .ok (.iconst (-1), 1) from by decide +kernel) (by decide) rfl ?_
        exact sr_ireturn C _ rfl (show decode cX12_path 53 = .ok (.ireturn, 1) from by decide +kernel)
      · refine sr_aload_n (i := 0) (q := 43) C (show decode cX12_path 42 = .ok (.aload_n 0, 1) from by decide +kernel) rfl rfl rfl ?_
        refine sr_getr (q := 46) C fl_X12_43 hv0 (show decode cX12_path 43 = .ok (.getfield 43, 3) from by decide +kernel) rfl ?_
        refine sr_iload (i := 4) (q := 48) C (show decode cX12_path 46 = .ok (.iload 4, 2) from by decide +kernel) rfl rfl ?_
        refine sr_iaload (q := 49) C (kt hv0 kp_12_18) (show decode cX12_path 48 = .ok (.iaload, 1) from by decide +kernel) rfl (fun x48 => ?_)
        refine sr_goto (q := 53) C (show decode cX12_path 49 = .ok (.goto 4, 3) from by decide +kernel) (by decide) ?_
        exact sr_ireturn C _ rfl (show decode cX12_path 53 = .ok (.ireturn, 1) from by decide +kernel)
  · refine sr_bipush (v := (-2 : Int32)) (q := 12) C (show decode cX12_path 10 = .ok (.bipush (-2), 2) from by decide +kernel) (by decide) rfl ?_
    exact sr_ireturn C _ rfl (show decode cX12_path 12 = .ok (.ireturn, 1) from by decide +kernel)
theorem cnX12_path (ω : sm_O) (v0 : Nat) (v1 : Int32) (v2 : Int32) (v3 : Int32) (v4 : Int32) (hv0 : kd v0 = 12) : sm_Mt 8 yX12_path cX12_path 5 (some .int) ω [.ref (ω.1 + v0), .int v1, .int v2, .int v3, .int v4] (fun a => some (.int a)) (fnX12_path v0 v1 v2 v3 v4) := by
  refine sm_conI (r := fun a => a) (by decide) (fun _ => rfl) (Nat.le_of_ble_eq_true rfl) ?_
  intro κ hκ C
  subst hκ
  exact slX12_path C v0 v1 v2 v3 v4 hv0
def fnX12_person (v0 : Nat) (v1 : Int32) (v2 : Int32) : sm_M Int32 := m_bnd (fnX12_isPerson v0 v1) fun x2 => m_br ((bI x2) = 0)
    (m_ret (-2 : Int32))
    (m_bnd (fnX12_in v2.toInt64 (0 : Int64) (2 : Int64)) fun x14 => m_br ((bI x14) = 0)
    (m_ret (-2 : Int32))
    (m_br (v2 = 0)
    (m_bnd (fnX12_of v0 v1 (6 : Int32)) fun x31 => m_ret x31)
    (m_br (v2 = (1 : Int32))
    (m_bnd (fnX12_of v0 v1 (5 : Int32)) fun x45 => m_ret x45)
    (m_bnd (fnX12_leads v0 v1) fun x53 => m_br ((bI x53) = 0)
    (m_bnd (fnX12_of v0 v1 (5 : Int32)) fun x66 => m_ret x66)
    (m_ret v1)))))
set_option maxHeartbeats 4000000 in
set_option maxRecDepth 100000 in
theorem slX12_person {κ : sm_X} (C : sm_C κ RX12 cX12_person 3 3) (v0 : Nat) (v1 : Int32) (v2 : Int32) (hv0 : kd v0 = 12) : sm_S κ (fun r : Int32 => .inr (some (.int r))) (.inl (0, [some (xad κ v0), some (.int v1), some (.int v2)], [])) (fnX12_person v0 v1 v2) := by
  unfold fnX12_person
  refine sr_aload_n (i := 0) (q := 1) C (show decode cX12_person 0 = .ok (.aload_n 0, 1) from by decide +kernel) rfl rfl rfl ?_
  refine sr_iload_n (i := 1) (q := 2) C (show decode cX12_person 1 = .ok (.iload_n 1, 1) from by decide +kernel) rfl rfl rfl ?_
  refine sr_cVz (As := [.int v1]) (st := []) (b := v0) (q := 5) C yvX12_isPerson ml_X12_322 (cnX12_isPerson (xo κ) v0 v1 hv0) hv0 (by decide) rfl rfl rfl (by decide) (by decide) (Nat.le_of_ble_eq_true rfl) rfl (show decode cX12_person 2 = .ok (.invokevirtual 322, 3) from by decide +kernel) rfl (fun x2 => ?_)
  refine sr_if_eq (q := 8) C 20 (show decode cX12_person 5 = .ok (.ifCond .eq 15, 3) from by decide +kernel) (by decide) rfl ?_ ?_
  · refine sr_bipush (v := (-2 : Int32)) (q := 22) C (show decode cX12_person 20 = .ok (.bipush (-2), 2) from by decide +kernel) (by decide) rfl ?_
    exact sr_ireturn C _ rfl (show decode cX12_person 22 = .ok (.ireturn, 1) from by decide +kernel)
  · refine sr_iload_n (i := 2) (q := 9) C (show decode cX12_person 8 = .ok (.iload_n 2, 1) from by decide +kernel) rfl rfl rfl ?_
    refine sr_i2l (q := 10) C (show decode cX12_person 9 = .ok (.i2l, 1) from by decide +kernel) rfl ?_
    refine sr_lconst (v := (0 : Int64)) (q := 11) C (show decode cX12_person 10 = .ok (.lconst 0, 1) from by decide +kernel) (by decide) rfl ?_
    refine sr_ldc2 (q := 14) C co_X12_101 (show decode cX12_person 11 = .ok (.ldc2_w 101, 3) from by decide +kernel) rfl ?_
    refine sr_cSz (As := [.long v2.toInt64, .long (0 : Int64), .long (2 : Int64)]) (st := []) (q := 17) C ysX12_in ml_X12_103 (cnX12_in (xo κ) v2.toInt64 (0 : Int64) (2 : Int64)) rfl (by decide) (by decide) (Nat.le_of_ble_eq_true rfl) rfl (show decode cX12_person 14 = .ok (.invokestatic 103, 3) from by decide +kernel) rfl (fun x14 => ?_)
    refine sr_if_ne (q := 20) C 23 (show decode cX12_person 17 = .ok (.ifCond .ne 6, 3) from by decide +kernel) (by decide) rfl ?_ ?_
    · refine sr_iload_n (i := 2) (q := 24) C (show decode cX12_person 23 = .ok (.iload_n 2, 1) from by decide +kernel) rfl rfl rfl ?_
      refine sr_if_ne (q := 27) C 37 (show decode cX12_person 24 = .ok (.ifCond .ne 13, 3) from by decide +kernel) (by decide) rfl ?_ ?_
      · refine sr_iload_n (i := 2) (q := 38) C (show decode cX12_person 37 = .ok (.iload_n 2, 1) from by decide +kernel) rfl rfl rfl ?_
        refine sr_iconst (v := (1 : Int32)) (q := 39) C (show decode cX12_person 38 = .ok (.iconst 1, 1) from by decide +kernel) (by decide) rfl ?_
        refine sr_icmp_ne (q := 42) C 51 (show decode cX12_person 39 = .ok (.if_icmp .ne 12, 3) from by decide +kernel) (by decide) rfl ?_ ?_
        · refine sr_aload_n (i := 0) (q := 52) C (show decode cX12_person 51 = .ok (.aload_n 0, 1) from by decide +kernel) rfl rfl rfl ?_
          refine sr_iload_n (i := 1) (q := 53) C (show decode cX12_person 52 = .ok (.iload_n 1, 1) from by decide +kernel) rfl rfl rfl ?_
          refine sr_cVz (As := [.int v1]) (st := []) (b := v0) (q := 56) C yvX12_leads ml_X12_351 (cnX12_leads (xo κ) v0 v1 hv0) hv0 (by decide) rfl rfl rfl (by decide) (by decide) (Nat.le_of_ble_eq_true rfl) rfl (show decode cX12_person 53 = .ok (.invokevirtual 351, 3) from by decide +kernel) rfl (fun x53 => ?_)
          refine sr_if_eq (q := 59) C 63 (show decode cX12_person 56 = .ok (.ifCond .eq 7, 3) from by decide +kernel) (by decide) rfl ?_ ?_
          · refine sr_aload_n (i := 0) (q := 64) C (show decode cX12_person 63 = .ok (.aload_n 0, 1) from by decide +kernel) rfl rfl rfl ?_
            refine sr_iload_n (i := 1) (q := 65) C (show decode cX12_person 64 = .ok (.iload_n 1, 1) from by decide +kernel) rfl rfl rfl ?_
            refine sr_iconst (v := (5 : Int32)) (q := 66) C (show decode cX12_person 65 = .ok (.iconst 5, 1) from by decide +kernel) (by decide) rfl ?_
            refine sr_cVi (As := [.int v1, .int (5 : Int32)]) (st := []) (b := v0) (q := 69) C yvX12_of ml_X12_289 (cnX12_of (xo κ) v0 v1 (5 : Int32) hv0) hv0 (by decide) rfl rfl rfl (by decide) (by decide) (Nat.le_of_ble_eq_true rfl) rfl (show decode cX12_person 66 = .ok (.invokevirtual 289, 3) from by decide +kernel) rfl (fun x66 => ?_)
            exact sr_ireturn C _ rfl (show decode cX12_person 69 = .ok (.ireturn, 1) from by decide +kernel)
          · refine sr_iload_n (i := 1) (q := 60) C (show decode cX12_person 59 = .ok (.iload_n 1, 1) from by decide +kernel) rfl rfl rfl ?_
            refine sr_goto (q := 69) C (show decode cX12_person 60 = .ok (.goto 9, 3) from by decide +kernel) (by decide) ?_
            exact sr_ireturn C _ rfl (show decode cX12_person 69 = .ok (.ireturn, 1) from by decide +kernel)
        · refine sr_aload_n (i := 0) (q := 43) C (show decode cX12_person 42 = .ok (.aload_n 0, 1) from by decide +kernel) rfl rfl rfl ?_
          refine sr_iload_n (i := 1) (q := 44) C (show decode cX12_person 43 = .ok (.iload_n 1, 1) from by decide +kernel) rfl rfl rfl ?_
          refine sr_iconst (v := (5 : Int32)) (q := 45) C (show decode cX12_person 44 = .ok (.iconst 5, 1) from by decide +kernel) (by decide) rfl ?_
          refine sr_cVi (As := [.int v1, .int (5 : Int32)]) (st := []) (b := v0) (q := 48) C yvX12_of ml_X12_289 (cnX12_of (xo κ) v0 v1 (5 : Int32) hv0) hv0 (by decide) rfl rfl rfl (by decide) (by decide) (Nat.le_of_ble_eq_true rfl) rfl (show decode cX12_person 45 = .ok (.invokevirtual 289, 3) from by decide +kernel) rfl (fun x45 => ?_)
          refine sr_goto (q := 69) C (show decode cX12_person 48 = .ok (.goto 21, 3) from by decide +kernel) (by decide) ?_
          exact sr_ireturn C _ rfl (show decode cX12_person 69 = .ok (.ireturn, 1) from by decide +kernel)
      · refine sr_aload_n (i := 0) (q := 28) C (show decode cX12_person 27 = .ok (.aload_n 0, 1) from by decide +kernel) rfl rfl rfl ?_
        refine sr_iload_n (i := 1) (q := 29) C (show decode cX12_person 28 = .ok (.iload_n 1, 1) from by decide +kernel) rfl rfl rfl ?_
        refine sr_bipush (v := (6 : Int32)) (q := 31) C (show decode cX12_person 29 = .ok (.bipush 6, 2) from by decide +kernel) (by decide) rfl ?_
        refine sr_cVi (As := [.int v1, .int (6 : Int32)]) (st := []) (b := v0) (q := 34) C yvX12_of ml_X12_289 (cnX12_of (xo κ) v0 v1 (6 : Int32) hv0) hv0 (by decide) rfl rfl rfl (by decide) (by decide) (Nat.le_of_ble_eq_true rfl) rfl (show decode cX12_person 31 = .ok (.invokevirtual 289, 3) from by decide +kernel) rfl (fun x31 => ?_)
        refine sr_goto (q := 69) C (show decode cX12_person 34 = .ok (.goto 35, 3) from by decide +kernel) (by decide) ?_
        exact sr_ireturn C _ rfl (show decode cX12_person 69 = .ok (.ireturn, 1) from by decide +kernel)
    · refine sr_bipush (v := (-2 : Int32)) (q := 22) C (show decode cX12_person 20 = .ok (.bipush (-2), 2) from by decide +kernel) (by decide) rfl ?_
      exact sr_ireturn C _ rfl (show decode cX12_person 22 = .ok (.ireturn, 1) from by decide +kernel)
theorem cnX12_person (ω : sm_O) (v0 : Nat) (v1 : Int32) (v2 : Int32) (hv0 : kd v0 = 12) : sm_Mt 3 yX12_person cX12_person 3 (some .int) ω [.ref (ω.1 + v0), .int v1, .int v2] (fun a => some (.int a)) (fnX12_person v0 v1 v2) := by
  refine sm_conI (r := fun a => a) (by decide) (fun _ => rfl) (Nat.le_of_ble_eq_true rfl) ?_
  intro κ hκ C
  subst hκ
  exact slX12_person C v0 v1 v2 hv0
def fnX12_plankOf (v0 : Nat) (v1 : Int32) (v2 : Int32) (v3 : Int32) : sm_M Int32 := m_bnd (fnX12_squares v0 v1 v2) fun x3 => m_ai (lk v0 1) (6 : Int32) fun x12 => m_ai (lk v0 1) (6 : Int32) fun x19 => m_br (x3 ≤ (x12 * x19))
    (m_bnd (fnX12_fillNodes v0 (1 : Int32)) fun _ => m_bnd (fnX12_nodeOf v1) fun x34 => m_si v0 39 x34 <| m_bnd (fnX12_nodeOf v2) fun x42 => m_si v0 40 x42 <| m_bnd (fnX12_flow v0 v3) fun x50 => m_si v0 39 (-1 : Int32) <| m_si v0 40 (-1 : Int32) <| m_ret x50)
    (m_ret (-5 : Int32))
set_option maxHeartbeats 4000000 in
set_option maxRecDepth 100000 in
theorem slX12_plankOf {κ : sm_X} (C : sm_C κ RX12 cX12_plankOf 5 5) (v0 : Nat) (v1 : Int32) (v2 : Int32) (v3 : Int32) (hv0 : kd v0 = 12) : sm_S κ (fun r : Int32 => .inr (some (.int r))) (.inl (0, [some (xad κ v0), some (.int v1), some (.int v2), some (.int v3), none], [])) (fnX12_plankOf v0 v1 v2 v3) := by
  unfold fnX12_plankOf
  refine sr_aload_n (i := 0) (q := 1) C (show decode cX12_plankOf 0 = .ok (.aload_n 0, 1) from by decide +kernel) rfl rfl rfl ?_
  refine sr_iload_n (i := 1) (q := 2) C (show decode cX12_plankOf 1 = .ok (.iload_n 1, 1) from by decide +kernel) rfl rfl rfl ?_
  refine sr_iload_n (i := 2) (q := 3) C (show decode cX12_plankOf 2 = .ok (.iload_n 2, 1) from by decide +kernel) rfl rfl rfl ?_
  refine sr_cVi (As := [.int v1, .int v2]) (st := []) (b := v0) (q := 6) C yvX12_squares ml_X12_259 (cnX12_squares (xo κ) v0 v1 v2 hv0) hv0 (by decide) rfl rfl rfl (by decide) (by decide) (Nat.le_of_ble_eq_true rfl) rfl (show decode cX12_plankOf 3 = .ok (.invokevirtual 259, 3) from by decide +kernel) rfl (fun x3 => ?_)
  refine sr_aload_n (i := 0) (q := 7) C (show decode cX12_plankOf 6 = .ok (.aload_n 0, 1) from by decide +kernel) rfl rfl rfl ?_
  refine sr_getr (q := 10) C fl_X12_9 hv0 (show decode cX12_plankOf 7 = .ok (.getfield 9, 3) from by decide +kernel) rfl ?_
  refine sr_bipush (v := (6 : Int32)) (q := 12) C (show decode cX12_plankOf 10 = .ok (.bipush 6, 2) from by decide +kernel) (by decide) rfl ?_
  refine sr_iaload (q := 13) C (kt hv0 kp_12_1) (show decode cX12_plankOf 12 = .ok (.iaload, 1) from by decide +kernel) rfl (fun x12 => ?_)
  refine sr_aload_n (i := 0) (q := 14) C (show decode cX12_plankOf 13 = .ok (.aload_n 0, 1) from by decide +kernel) rfl rfl rfl ?_
  refine sr_getr (q := 17) C fl_X12_9 hv0 (show decode cX12_plankOf 14 = .ok (.getfield 9, 3) from by decide +kernel) rfl ?_
  refine sr_bipush (v := (6 : Int32)) (q := 19) C (show decode cX12_plankOf 17 = .ok (.bipush 6, 2) from by decide +kernel) (by decide) rfl ?_
  refine sr_iaload (q := 20) C (kt hv0 kp_12_1) (show decode cX12_plankOf 19 = .ok (.iaload, 1) from by decide +kernel) rfl (fun x19 => ?_)
  refine sr_imul (q := 21) C (show decode cX12_plankOf 20 = .ok (.imul, 1) from by decide +kernel) rfl ?_
  refine sr_icmp_le (q := 24) C 27 (show decode cX12_plankOf 21 = .ok (.if_icmp .le 6, 3) from by decide +kernel) (by decide) rfl ?_ ?_
  · refine sr_aload_n (i := 0) (q := 28) C (show decode cX12_plankOf 27 = .ok (.aload_n 0, 1) from by decide +kernel) rfl rfl rfl ?_
    refine sr_iconst (v := (1 : Int32)) (q := 29) C (show decode cX12_plankOf 28 = .ok (.iconst 1, 1) from by decide +kernel) (by decide) rfl ?_
    refine sr_cVv (As := [.int (1 : Int32)]) (st := []) (b := v0) (q := 32) C yvX12_fillNodes ml_X12_447 (cnX12_fillNodes (xo κ) v0 (1 : Int32) hv0) hv0 (by decide) rfl rfl rfl (by decide) (by decide) (Nat.le_of_ble_eq_true rfl) rfl (show decode cX12_plankOf 29 = .ok (.invokevirtual 447, 3) from by decide +kernel) rfl (fun _ => ?_)
    refine sr_aload_n (i := 0) (q := 33) C (show decode cX12_plankOf 32 = .ok (.aload_n 0, 1) from by decide +kernel) rfl rfl rfl ?_
    refine sr_iload_n (i := 1) (q := 34) C (show decode cX12_plankOf 33 = .ok (.iload_n 1, 1) from by decide +kernel) rfl rfl rfl ?_
    refine sr_cSi (As := [.int v1]) (st := [xad κ v0]) (q := 37) C ysX12_nodeOf ml_X12_473 (cnX12_nodeOf (xo κ) v1) rfl (by decide) (by decide) (Nat.le_of_ble_eq_true rfl) rfl (show decode cX12_plankOf 34 = .ok (.invokestatic 473, 3) from by decide +kernel) rfl (fun x34 => ?_)
    refine sr_puti (q := 40) C fp_X12_76 hv0 (show decode cX12_plankOf 37 = .ok (.putfield 76, 3) from by decide +kernel) rfl ?_
    refine sr_aload_n (i := 0) (q := 41) C (show decode cX12_plankOf 40 = .ok (.aload_n 0, 1) from by decide +kernel) rfl rfl rfl ?_
    refine sr_iload_n (i := 2) (q := 42) C (show decode cX12_plankOf 41 = .ok (.iload_n 2, 1) from by decide +kernel) rfl rfl rfl ?_
    refine sr_cSi (As := [.int v2]) (st := [xad κ v0]) (q := 45) C ysX12_nodeOf ml_X12_473 (cnX12_nodeOf (xo κ) v2) rfl (by decide) (by decide) (Nat.le_of_ble_eq_true rfl) rfl (show decode cX12_plankOf 42 = .ok (.invokestatic 473, 3) from by decide +kernel) rfl (fun x42 => ?_)
    refine sr_puti (q := 48) C fp_X12_79 hv0 (show decode cX12_plankOf 45 = .ok (.putfield 79, 3) from by decide +kernel) rfl ?_
    refine sr_aload_n (i := 0) (q := 49) C (show decode cX12_plankOf 48 = .ok (.aload_n 0, 1) from by decide +kernel) rfl rfl rfl ?_
    refine sr_iload_n (i := 3) (q := 50) C (show decode cX12_plankOf 49 = .ok (.iload_n 3, 1) from by decide +kernel) rfl rfl rfl ?_
    refine sr_cVi (As := [.int v3]) (st := []) (b := v0) (q := 53) C yvX12_flow ml_X12_450 (cnX12_flow (xo κ) v0 v3 hv0) hv0 (by decide) rfl rfl rfl (by decide) (by decide) (Nat.le_of_ble_eq_true rfl) rfl (show decode cX12_plankOf 50 = .ok (.invokevirtual 450, 3) from by decide +kernel) rfl (fun x50 => ?_)
    refine sr_istore (i := 4) (L' := [some (xad κ v0), some (.int v1), some (.int v2), some (.int v3), some (.int x50)]) (q := 55) C (show decode cX12_plankOf 53 = .ok (.istore 4, 2) from by decide +kernel) (by decide) rfl rfl ?_
    refine sr_aload_n (i := 0) (q := 56) C (show decode cX12_plankOf 55 = .ok (.aload_n 0, 1) from by decide +kernel) rfl rfl rfl ?_
    refine sr_iconst (v := (-1 : Int32)) (q := 57) C (show decode cX12_plankOf 56 = .ok (.iconst (-1), 1) from by decide +kernel) (by decide) rfl ?_
    refine sr_puti (q := 60) C fp_X12_76 hv0 (show decode cX12_plankOf 57 = .ok (.putfield 76, 3) from by decide +kernel) rfl ?_
    refine sr_aload_n (i := 0) (q := 61) C (show decode cX12_plankOf 60 = .ok (.aload_n 0, 1) from by decide +kernel) rfl rfl rfl ?_
    refine sr_iconst (v := (-1 : Int32)) (q := 62) C (show decode cX12_plankOf 61 = .ok (.iconst (-1), 1) from by decide +kernel) (by decide) rfl ?_
    refine sr_puti (q := 65) C fp_X12_79 hv0 (show decode cX12_plankOf 62 = .ok (.putfield 79, 3) from by decide +kernel) rfl ?_
    refine sr_iload (i := 4) (q := 67) C (show decode cX12_plankOf 65 = .ok (.iload 4, 2) from by decide +kernel) rfl rfl ?_
    exact sr_ireturn C _ rfl (show decode cX12_plankOf 67 = .ok (.ireturn, 1) from by decide +kernel)
  · refine sr_bipush (v := (-5 : Int32)) (q := 26) C (show decode cX12_plankOf 24 = .ok (.bipush (-5), 2) from by decide +kernel) (by decide) rfl ?_
    exact sr_ireturn C _ rfl (show decode cX12_plankOf 26 = .ok (.ireturn, 1) from by decide +kernel)
theorem cnX12_plankOf (ω : sm_O) (v0 : Nat) (v1 : Int32) (v2 : Int32) (v3 : Int32) (hv0 : kd v0 = 12) : sm_Mt 5 yX12_plankOf cX12_plankOf 5 (some .int) ω [.ref (ω.1 + v0), .int v1, .int v2, .int v3] (fun a => some (.int a)) (fnX12_plankOf v0 v1 v2 v3) := by
  refine sm_conI (r := fun a => a) (by decide) (fun _ => rfl) (Nat.le_of_ble_eq_true rfl) ?_
  intro κ hκ C
  subst hκ
  exact slX12_plankOf C v0 v1 v2 v3 hv0
