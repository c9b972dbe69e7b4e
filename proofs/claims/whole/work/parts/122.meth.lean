def fnX12_plank (v0 : Nat) (v1 : Int32) (v2 : Int32) (v3 : Int32) : sm_M Int32 := m_bnd (fnX12_isPlace v0 v1) fun x2 => m_br ((bI x2) = 0)
    (m_ret (-2 : Int32))
    (m_bnd (fnX12_isPlace v0 v2) fun x10 => m_br ((bI x10) = 0)
    (m_ret (-2 : Int32))
    (m_br (v1 = v2)
    (m_ret (-2 : Int32))
    (m_bnd (fnX12_isStride v3) fun x22 => m_br ((bI x22) = 0)
    (m_ret (-2 : Int32))
    (m_bnd (fnX12_plankOf v0 v1 v2 v3) fun x32 => m_ret x32))))
set_option maxHeartbeats 4000000 in
set_option maxRecDepth 100000 in
theorem slX12_plank {κ : sm_X} (C : sm_C κ RX12 cX12_plank 4 6) (v0 : Nat) (v1 : Int32) (v2 : Int32) (v3 : Int32) (hv0 : kd v0 = 12) : sm_S κ (fun r : Int32 => .inr (some (.int r))) (.inl (0, [some (xad κ v0), some (.int v1), some (.int v2), some (.int v3)], [])) (fnX12_plank v0 v1 v2 v3) := by
  unfold fnX12_plank
  refine sr_aload_n (i := 0) (q := 1) C (show decode cX12_plank 0 = .ok (.aload_n 0, 1) from by decide +kernel) rfl rfl rfl ?_
  refine sr_iload_n (i := 1) (q := 2) C (show decode cX12_plank 1 = .ok (.iload_n 1, 1) from by decide +kernel) rfl rfl rfl ?_
  refine sr_cVz (As := [.int v1]) (st := []) (b := v0) (q := 5) C yvX12_isPlace ml_X12_264 (cnX12_isPlace (xo κ) v0 v1 hv0) hv0 (by decide) rfl rfl rfl (by decide) (by decide) (Nat.le_of_ble_eq_true rfl) rfl (show decode cX12_plank 2 = .ok (.invokevirtual 264, 3) from by decide +kernel) rfl (fun x2 => ?_)
  refine sr_if_eq (q := 8) C 38 (show decode cX12_plank 5 = .ok (.ifCond .eq 33, 3) from by decide +kernel) (by decide) rfl ?_ ?_
  · refine sr_bipush (v := (-2 : Int32)) (q := 40) C (show decode cX12_plank 38 = .ok (.bipush (-2), 2) from by decide +kernel) (by decide) rfl ?_
    exact sr_ireturn C _ rfl (show decode cX12_plank 40 = .ok (.ireturn, 1) from by decide +kernel)
  · refine sr_aload_n (i := 0) (q := 9) C (show decode cX12_plank 8 = .ok (.aload_n 0, 1) from by decide +kernel) rfl rfl rfl ?_
    refine sr_iload_n (i := 2) (q := 10) C (show decode cX12_plank 9 = .ok (.iload_n 2, 1) from by decide +kernel) rfl rfl rfl ?_
    refine sr_cVz (As := [.int v2]) (st := []) (b := v0) (q := 13) C yvX12_isPlace ml_X12_264 (cnX12_isPlace (xo κ) v0 v2 hv0) hv0 (by decide) rfl rfl rfl (by decide) (by decide) (Nat.le_of_ble_eq_true rfl) rfl (show decode cX12_plank 10 = .ok (.invokevirtual 264, 3) from by decide +kernel) rfl (fun x10 => ?_)
    refine sr_if_eq (q := 16) C 38 (show decode cX12_plank 13 = .ok (.ifCond .eq 25, 3) from by decide +kernel) (by decide) rfl ?_ ?_
    · refine sr_bipush (v := (-2 : Int32)) (q := 40) C (show decode cX12_plank 38 = .ok (.bipush (-2), 2) from by decide +kernel) (by decide) rfl ?_
      exact sr_ireturn C _ rfl (show decode cX12_plank 40 = .ok (.ireturn, 1) from by decide +kernel)
    · refine sr_iload_n (i := 1) (q := 17) C (show decode cX12_plank 16 = .ok (.iload_n 1, 1) from by decide +kernel) rfl rfl rfl ?_
      refine sr_iload_n (i := 2) (q := 18) C (show decode cX12_plank 17 = .ok (.iload_n 2, 1) from by decide +kernel) rfl rfl rfl ?_
      refine sr_icmp_eq (q := 21) C 38 (show decode cX12_plank 18 = .ok (.if_icmp .eq 20, 3) from by decide +kernel) (by decide) rfl ?_ ?_
      · refine sr_bipush (v := (-2 : Int32)) (q := 40) C (show decode cX12_plank 38 = .ok (.bipush (-2), 2) from by decide +kernel) (by decide) rfl ?_
        exact sr_ireturn C _ rfl (show decode cX12_plank 40 = .ok (.ireturn, 1) from by decide +kernel)
      · refine sr_iload_n (i := 3) (q := 22) C (show decode cX12_plank 21 = .ok (.iload_n 3, 1) from by decide +kernel) rfl rfl rfl ?_
        refine sr_cSz (As := [.int v3]) (st := []) (q := 25) C ysX12_isStride ml_X12_267 (cnX12_isStride (xo κ) v3) rfl (by decide) (by decide) (Nat.le_of_ble_eq_true rfl) rfl (show decode cX12_plank 22 = .ok (.invokestatic 267, 3) from by decide +kernel) rfl (fun x22 => ?_)
        refine sr_if_eq (q := 28) C 38 (show decode cX12_plank 25 = .ok (.ifCond .eq 13, 3) from by decide +kernel) (by decide) rfl ?_ ?_
        · refine sr_bipush (v := (-2 : Int32)) (q := 40) C (show decode cX12_plank 38 = .ok (.bipush (-2), 2) from by decide +kernel) (by decide) rfl ?_
          exact sr_ireturn C _ rfl (show decode cX12_plank 40 = .ok (.ireturn, 1) from by decide +kernel)
        · refine sr_aload_n (i := 0) (q := 29) C (show decode cX12_plank 28 = .ok (.aload_n 0, 1) from by decide +kernel) rfl rfl rfl ?_
          refine sr_iload_n (i := 1) (q := 30) C (show decode cX12_plank 29 = .ok (.iload_n 1, 1) from by decide +kernel) rfl rfl rfl ?_
          refine sr_iload_n (i := 2) (q := 31) C (show decode cX12_plank 30 = .ok (.iload_n 2, 1) from by decide +kernel) rfl rfl rfl ?_
          refine sr_iload_n (i := 3) (q := 32) C (show decode cX12_plank 31 = .ok (.iload_n 3, 1) from by decide +kernel) rfl rfl rfl ?_
          refine sr_cVi (As := [.int v1, .int v2, .int v3]) (st := []) (b := v0) (q := 35) C yvX12_plankOf ml_X12_476 (cnX12_plankOf (xo κ) v0 v1 v2 v3 hv0) hv0 (by decide) rfl rfl rfl (by decide) (by decide) (Nat.le_of_ble_eq_true rfl) rfl (show decode cX12_plank 32 = .ok (.invokevirtual 476, 3) from by decide +kernel) rfl (fun x32 => ?_)
          refine sr_goto (q := 40) C (show decode cX12_plank 35 = .ok (.goto 5, 3) from by decide +kernel) (by decide) ?_
          exact sr_ireturn C _ rfl (show decode cX12_plank 40 = .ok (.ireturn, 1) from by decide +kernel)
theorem cnX12_plank (ω : sm_O) (v0 : Nat) (v1 : Int32) (v2 : Int32) (v3 : Int32) (hv0 : kd v0 = 12) : sm_Mt 6 yX12_plank cX12_plank 4 (some .int) ω [.ref (ω.1 + v0), .int v1, .int v2, .int v3] (fun a => some (.int a)) (fnX12_plank v0 v1 v2 v3) := by
  refine sm_conI (r := fun a => a) (by decide) (fun _ => rfl) (Nat.le_of_ble_eq_true rfl) ?_
  intro κ hκ C
  subst hκ
  exact slX12_plank C v0 v1 v2 v3 hv0
def fnX12_planks_J104 (k24 : Nat → Int32 → Int32 → Int32 → Int32 → sm_M Int32) (v0 : Nat) (v1 : Int32) (v2 : Int32) (v3 : Int32) (v4 : Int32) : sm_M Int32 := k24 v0 v1 v2 v3 (v4 + (1 : Int32))
set_option maxHeartbeats 4000000 in
set_option maxRecDepth 100000 in
theorem slX12_planks_J104 {κ : sm_X} (C : sm_C κ RX12 cX12_planks 7 6) {k24 : Nat → Int32 → Int32 → Int32 → Int32 → sm_M Int32} (K24 : ∀ (v0 : Nat) (v1 : Int32) (v2 : Int32) (v3 : Int32) (v4 : Int32) (hv0 : kd v0 = 12), sm_S κ (fun r : Int32 => .inr (some (.int r))) (.inl (24, [some (xad κ v0), some (.int v1), some (.int v2), some (.int v3), some (.int v4), none, none], [])) (k24 v0 v1 v2 v3 v4)) (v0 : Nat) (v1 : Int32) (v2 : Int32) (v3 : Int32) (v4 : Int32) (hv0 : kd v0 = 12) : sm_S κ (fun r : Int32 => .inr (some (.int r))) (.inl (104, [some (xad κ v0), some (.int v1), some (.int v2), some (.int v3), some (.int v4), none, none], [])) (fnX12_planks_J104 k24 v0 v1 v2 v3 v4) := by
  unfold fnX12_planks_J104
  refine sr_iinc (v := v4 + (1 : Int32)) (L' := [some (xad κ v0), some (.int v1), some (.int v2), some (.int v3), some (.int (v4 + (1 : Int32))), none, none]) (q := 107) C (show decode cX12_planks 104 = .ok (.iinc 4 1, 3) from by decide +kernel) rfl rfl (by decide) rfl rfl ?_
  refine sr_goto (q := 24) C (show decode cX12_planks 107 = .ok (.goto (-83), 3) from by decide +kernel) (by decide) ?_
  exact K24 v0 v1 v2 v3 (v4 + (1 : Int32)) hv0
def fnX12_planks_J98 (k24 : Nat → Int32 → Int32 → Int32 → Int32 → sm_M Int32) (k37 : Nat → Int32 → Int32 → Int32 → Int32 → Int32 → sm_M Int32) (v0 : Nat) (v1 : Int32) (v2 : Int32) (v3 : Int32) (v4 : Int32) (v5 : Int32) : sm_M Int32 := k37 v0 v1 v2 v3 v4 (v5 + (1 : Int32))
set_option maxHeartbeats 4000000 in
set_option maxRecDepth 100000 in
theorem slX12_planks_J98 {κ : sm_X} (C : sm_C κ RX12 cX12_planks 7 6) {k24 : Nat → Int32 → Int32 → Int32 → Int32 → sm_M Int32} (K24 : ∀ (v0 : Nat) (v1 : Int32) (v2 : Int32) (v3 : Int32) (v4 : Int32) (hv0 : kd v0 = 12), sm_S κ (fun r : Int32 => .inr (some (.int r))) (.inl (24, [some (xad κ v0), some (.int v1), some (.int v2), some (.int v3), some (.int v4), none, none], [])) (k24 v0 v1 v2 v3 v4)) {k37 : Nat → Int32 → Int32 → Int32 → Int32 → Int32 → sm_M Int32} (K37 : ∀ (v0 : Nat) (v1 : Int32) (v2 : Int32) (v3 : Int32) (v4 : Int32) (v5 : Int32) (hv0 : kd v0 = 12), sm_S κ (fun r : Int32 => .inr (some (.int r))) (.inl (37, [some (xad κ v0), some (.int v1), some (.int v2), some (.int v3), some (.int v4), some (.int v5), none], [])) (k37 v0 v1 v2 v3 v4 v5)) (v0 : Nat) (v1 : Int32) (v2 : Int32) (v3 : Int32) (v4 : Int32) (v5 : Int32) (hv0 : kd v0 = 12) : sm_S κ (fun r : Int32 => .inr (some (.int r))) (.inl (98, [some (xad κ v0), some (.int v1), some (.int v2), some (.int v3), some (.int v4), some (.int v5), none], [])) (fnX12_planks_J98 k24 k37 v0 v1 v2 v3 v4 v5) := by
  unfold fnX12_planks_J98
  refine sr_iinc (v := v5 + (1 : Int32)) (L' := [some (xad κ v0), some (.int v1), some (.int v2), some (.int v3), some (.int v4), some (.int (v5 + (1 : Int32))), none]) (q := 101) C (show decode cX12_planks 98 = .ok (.iinc 5 1, 3) from by decide +kernel) rfl rfl (by decide) rfl rfl ?_
  refine sr_goto (q := 37) C (show decode cX12_planks 101 = .ok (.goto (-64), 3) from by decide +kernel) (by decide) ?_
  exact K37 v0 v1 v2 v3 v4 (v5 + (1 : Int32)) hv0
def fnX12_planks_J75 (k24 : Nat → Int32 → Int32 → Int32 → Int32 → sm_M Int32) (k37 : Nat → Int32 → Int32 → Int32 → Int32 → Int32 → sm_M Int32) (v0 : Nat) (v1 : Int32) (v2 : Int32) (v3 : Int32) (v4 : Int32) (v5 : Int32) (s0 : Int32) : sm_M Int32 := m_br (v3 < s0)
    (m_nm (((100 : Int32) * v4) + v5) fun y94 => fnX12_planks_J98 k24 k37 v0 v1 y94 s0 v4 v5)
    (fnX12_planks_J98 k24 k37 v0 v1 v2 v3 v4 v5)
set_option maxHeartbeats 4000000 in
set_option maxRecDepth 100000 in
theorem slX12_planks_J75 {κ : sm_X} (C : sm_C κ RX12 cX12_planks 7 6) {k24 : Nat → Int32 → Int32 → Int32 → Int32 → sm_M Int32} (K24 : ∀ (v0 : Nat) (v1 : Int32) (v2 : Int32) (v3 : Int32) (v4 : Int32) (hv0 : kd v0 = 12), sm_S κ (fun r : Int32 => .inr (some (.int r))) (.inl (24, [some (xad κ v0), some (.int v1), some (.int v2), some (.int v3), some (.int v4), none, none], [])) (k24 v0 v1 v2 v3 v4)) {k37 : Nat → Int32 → Int32 → Int32 → Int32 → Int32 → sm_M Int32} (K37 : ∀ (v0 : Nat) (v1 : Int32) (v2 : Int32) (v3 : Int32) (v4 : Int32) (v5 : Int32) (hv0 : kd v0 = 12), sm_S κ (fun r : Int32 => .inr (some (.int r))) (.inl (37, [some (xad κ v0), some (.int v1), some (.int v2), some (.int v3), some (.int v4), some (.int v5), none], [])) (k37 v0 v1 v2 v3 v4 v5)) (v0 : Nat) (v1 : Int32) (v2 : Int32) (v3 : Int32) (v4 : Int32) (v5 : Int32) (s0 : Int32) (hv0 : kd v0 = 12) : sm_S κ (fun r : Int32 => .inr (some (.int r))) (.inl (75, [some (xad κ v0), some (.int v1), some (.int v2), some (.int v3), some (.int v4), some (.int v5), none], [.int s0])) (fnX12_planks_J75 k24 k37 v0 v1 v2 v3 v4 v5 s0) := by
  unfold fnX12_planks_J75
  refine sr_istore (i := 6) (L' := [some (xad κ v0), some (.int v1), some (.int v2), some (.int v3), some (.int v4), some (.int v5), some (.int s0)]) (q := 77) C (show decode cX12_planks 75 = .ok (.istore 6, 2) from by decide +kernel) (by decide) rfl rfl ?_
  refine sr_iload (i := 6) (q := 79) C (show decode cX12_planks 77 = .ok (.iload 6, 2) from by decide +kernel) rfl rfl ?_
  refine sr_iload_n (i := 3) (q := 80) C (show decode cX12_planks 79 = .ok (.iload_n 3, 1) from by decide +kernel) rfl rfl rfl ?_
  refine sr_icmp_gt (q := 83) C 86 (show decode cX12_planks 80 = .ok (.if_icmp .gt 6, 3) from by decide +kernel) (by decide) rfl ?_ ?_
  · refine sr_bipush (v := (100 : Int32)) (q := 88) C (show decode cX12_planks 86 = .ok (.bipush 100, 2) from by decide +kernel) (by decide) rfl ?_
    refine sr_iload (i := 4) (q := 90) C (show decode cX12_planks 88 = .ok (.iload 4, 2) from by decide +kernel) rfl rfl ?_
    refine sr_imul (q := 91) C (show decode cX12_planks 90 = .ok (.imul, 1) from by decide +kernel) rfl ?_
    refine sr_iload (i := 5) (q := 93) C (show decode cX12_planks 91 = .ok (.iload 5, 2) from by decide +kernel) rfl rfl ?_
    refine sr_iadd (q := 94) C (show decode cX12_planks 93 = .ok (.iadd, 1) from by decide +kernel) rfl ?_
    refine sr_nmi (fun y94 => ?_)
    refine sr_istore_n (i := 2) (L' := [some (xad κ v0), some (.int v1), some (.int y94), some (.int v3), some (.int v4), some (.int v5), some (.int s0)]) (q := 95) C (show decode cX12_planks 94 = .ok (.istore_n 2, 1) from by decide +kernel) rfl (by decide) rfl rfl ?_
    refine sr_iload (i := 6) (q := 97) C (show decode cX12_planks 95 = .ok (.iload 6, 2) from by decide +kernel) rfl rfl ?_
    refine sr_istore_n (i := 3) (L' := [some (xad κ v0), some (.int v1), some (.int y94), some (.int s0), some (.int v4), some (.int v5), some (.int s0)]) (q := 98) C (show decode cX12_planks 97 = .ok (.istore_n 3, 1) from by decide +kernel) rfl (by decide) rfl rfl ?_
    refine sr_weak (L' := [some (xad κ v0), some (.int v1), some (.int y94), some (.int s0), some (.int v4), some (.int v5), none]) ⟨rfl, rfl, rfl, rfl, rfl, rfl, trivial⟩ ?_
    exact slX12_planks_J98 C K24 K37 v0 v1 y94 s0 v4 v5 hv0
  · refine sr_goto (q := 98) C (show decode cX12_planks 83 = .ok (.goto 15, 3) from by decide +kernel) (by decide) ?_
    refine sr_weak (L' := [some (xad κ v0), some (.int v1), some (.int v2), some (.int v3), some (.int v4), some (.int v5), none]) ⟨rfl, rfl, rfl, rfl, rfl, rfl, trivial⟩ ?_
    exact slX12_planks_J98 C K24 K37 v0 v1 v2 v3 v4 v5 hv0
def fnX12_planks_L37 (k24 : Nat → Int32 → Int32 → Int32 → Int32 → sm_M Int32) : Nat → Nat → Int32 → Int32 → Int32 → Int32 → Int32 → sm_M Int32
  | 0, _, _, _, _, _, _ => m_fail
  | n + 1, v0, v1, v2, v3, v4, v5 => m_br ((99 : Int32) < v5)
    (fnX12_planks_J104 k24 v0 v1 v2 v3 v4)
    (m_bnd (fnX12_isPlace v0 v4) fun x47 => m_br ((bI x47) = 0)
    (fnX12_planks_J104 k24 v0 v1 v2 v3 v4)
    (m_bnd (fnX12_isPlace v0 v5) fun x56 => m_br ((bI x56) = 0)
    (fnX12_planks_J75 k24 (fnX12_planks_L37 k24 n) v0 v1 v2 v3 v4 v5 (-1 : Int32))
    (m_bnd (fnX12_plankOf v0 v4 v5 v1) fun x68 => fnX12_planks_J75 k24 (fnX12_planks_L37 k24 n) v0 v1 v2 v3 v4 v5 x68)))
set_option maxHeartbeats 4000000 in
set_option maxRecDepth 100000 in
theorem slX12_planks_L37 {κ : sm_X} (C : sm_C κ RX12 cX12_planks 7 6) {k24 : Nat → Int32 → Int32 → Int32 → Int32 → sm_M Int32} (K24 : ∀ (v0 : Nat) (v1 : Int32) (v2 : Int32) (v3 : Int32) (v4 : Int32) (hv0 : kd v0 = 12), sm_S κ (fun r : Int32 => .inr (some (.int r))) (.inl (24, [some (xad κ v0), some (.int v1), some (.int v2), some (.int v3), some (.int v4), none, none], [])) (k24 v0 v1 v2 v3 v4)) : ∀ (n : Nat) (v0 : Nat) (v1 : Int32) (v2 : Int32) (v3 : Int32) (v4 : Int32) (v5 : Int32) (hv0 : kd v0 = 12), sm_S κ (fun r : Int32 => .inr (some (.int r))) (.inl (37, [some (xad κ v0), some (.int v1), some (.int v2), some (.int v3), some (.int v4), some (.int v5), none], [])) (fnX12_planks_L37 k24 n v0 v1 v2 v3 v4 v5) := by
  intro n
  induction n with
  | zero =>
    intros
    exact sr_fail
  | succ n K37 =>
    intro v0 v1 v2 v3 v4 v5 hv0
    unfold fnX12_planks_L37
    refine sr_iload (i := 5) (q := 39) C (show decode cX12_planks 37 = .ok (.iload 5, 2) from by decide +kernel) rfl rfl ?_
    refine sr_bipush (v := (99 : Int32)) (q := 41) C (show decode cX12_planks 39 = .ok (.bipush 99, 2) from by decide +kernel) (by decide) rfl ?_
    refine sr_icmp_gt (q := 44) C 104 (show decode cX12_planks 41 = .ok (.if_icmp .gt 63, 3) from by decide +kernel) (by decide) rfl ?_ ?_
    · refine sr_weak (L' := [some (xad κ v0), some (.int v1), some (.int v2), some (.int v3), some (.int v4), none, none]) ⟨rfl, rfl, rfl, rfl, rfl, trivial⟩ ?_
      exact slX12_planks_J104 C K24 v0 v1 v2 v3 v4 hv0
    · refine sr_aload_n (i := 0) (q := 45) C (show decode cX12_planks 44 = .ok (.aload_n 0, 1) from by decide +kernel) rfl rfl rfl ?_
      refine sr_iload (i := 4) (q := 47) C (show decode cX12_planks 45 = .ok (.iload 4, 2) from by decide +kernel) rfl rfl ?_
      refine sr_cVz (As := [.int v4]) (st := []) (b := v0) (q := 50) C yvX12_isPlace ml_X12_264 (cnX12_isPlace (xo κ) v0 v4 hv0) hv0 (by decide) rfl rfl rfl (by decide) (by decide) (Nat.le_of_ble_eq_true rfl) rfl (show decode cX12_planks 47 = .ok (.invokevirtual 264, 3) from by decide +kernel) rfl (fun x47 => ?_)
      refine sr_if_eq (q := 53) C 104 (show decode cX12_planks 50 = .ok (.ifCond .eq 54, 3) from by decide +kernel) (by decide) rfl ?_ ?_
      · refine sr_weak (L' := [some (xad κ v0), some (.int v1), some (.int v2), some (.int v3), some (.int v4), none, none]) ⟨rfl, rfl, rfl, rfl, rfl, trivial⟩ ?_
        exact slX12_planks_J104 C K24 v0 v1 v2 v3 v4 hv0
      · refine sr_aload_n (i := 0) (q := 54) C (show decode cX12_planks 53 = .ok (.aload_n 0, 1) from by decide +kernel) rfl rfl rfl ?_
        refine sr_iload (i := 5) (q := 56) C (show decode cX12_planks 54 = .ok (.iload 5, 2) from by decide +kernel) rfl rfl ?_
        refine sr_cVz (As := [.int v5]) (st := []) (b := v0) (q := 59) C yvX12_isPlace ml_X12_264 (cnX12_isPlace (xo κ) v0 v5 hv0) hv0 (by decide) rfl rfl rfl (by decide) (by decide) (Nat.le_of_ble_eq_true rfl) rfl (show decode cX12_planks 56 = .ok (.invokevirtual 264, 3) from by decide +kernel) rfl (fun x56 => ?_)
        refine sr_if_eq (q := 62) C 74 (show decode cX12_planks 59 = .ok (.ifCond .eq 15, 3) from by decide +kernel) (by decide) rfl ?_ ?_
        · refine sr_iconst (v := (-1 : Int32)) (q := 75) C (show decode cX12_planks 74 = .ok (.iconst (-1), 1) from by decide +kernel) (by decide) rfl ?_
          exact slX12_planks_J75 C K24 K37 v0 v1 v2 v3 v4 v5 (-1 : Int32) hv0
        · refine sr_aload_n (i := 0) (q := 63) C (show decode cX12_planks 62 = .ok (.aload_n 0, 1) from by decide +kernel) rfl rfl rfl ?_
          refine sr_iload (i := 4) (q := 65) C (show decode cX12_planks 63 = .ok (.iload 4, 2) from by decide +kernel) rfl rfl ?_
          refine sr_iload (i := 5) (q := 67) C (show decode cX12_planks 65 = .ok (.iload 5, 2) from by decide +kernel) rfl rfl ?_
          refine sr_iload_n (i := 1) (q := 68) C (show decode cX12_planks 67 = .ok (.iload_n 1, 1) from by decide +kernel) rfl rfl rfl ?_
          refine sr_cVi (As := [.int v4, .int v5, .int v1]) (st := []) (b := v0) (q := 71) C yvX12_plankOf ml_X12_476 (cnX12_plankOf (xo κ) v0 v4 v5 v1 hv0) hv0 (by decide) rfl rfl rfl (by decide) (by decide) (Nat.le_of_ble_eq_true rfl) rfl (show decode cX12_planks 68 = .ok (.invokevirtual 476, 3) from by decide +kernel) rfl (fun x68 => ?_)
          refine sr_goto (q := 75) C (show decode cX12_planks 71 = .ok (.goto 4, 3) from by decide +kernel) (by decide) ?_
          exact slX12_planks_J75 C K24 K37 v0 v1 v2 v3 v4 v5 x68 hv0
def fnX12_planks_L24 : Nat → Nat → Int32 → Int32 → Int32 → Int32 → sm_M Int32
  | 0, _, _, _, _, _ => m_fail
  | n + 1, v0, v1, v2, v3, v4 => m_br ((99 : Int32) ≤ v4)
    (m_ret v2)
    (m_nm (v4 + (1 : Int32)) fun y35 => fnX12_planks_L37 (fnX12_planks_L24 n) 4096 v0 v1 v2 v3 v4 y35)
set_option maxHeartbeats 4000000 in
set_option maxRecDepth 100000 in
theorem slX12_planks_L24 {κ : sm_X} (C : sm_C κ RX12 cX12_planks 7 6) : ∀ (n : Nat) (v0 : Nat) (v1 : Int32) (v2 : Int32) (v3 : Int32) (v4 : Int32) (hv0 : kd v0 = 12), sm_S κ (fun r : Int32 => .inr (some (.int r))) (.inl (24, [some (xad κ v0), some (.int v1), some (.int v2), some (.int v3), some (.int v4), none, none], [])) (fnX12_planks_L24 n v0 v1 v2 v3 v4) := by
  intro n
  induction n with
  | zero =>
    intros
    exact sr_fail
  | succ n K24 =>
    intro v0 v1 v2 v3 v4 hv0
    unfold fnX12_planks_L24
    refine sr_iload (i := 4) (q := 26) C (show decode cX12_planks 24 = .ok (.iload 4, 2) from by decide +kernel) rfl rfl ?_
    refine sr_bipush (v := (99 : Int32)) (q := 28) C (show decode cX12_planks 26 = .ok (.bipush 99, 2) from by decide +kernel) (by decide) rfl ?_
    refine sr_icmp_ge (q := 31) C 110 (show decode cX12_planks 28 = .ok (.if_icmp .ge 82, 3) from by decide +kernel) (by decide) rfl ?_ ?_
    · refine sr_iload_n (i := 2) (q := 111) C (show decode cX12_planks 110 = .ok (.iload_n 2, 1) from by decide +kernel) rfl rfl rfl ?_
      exact sr_ireturn C _ rfl (show decode cX12_planks 111 = .ok (.ireturn, 1) from by decide +kernel)
    · refine sr_iload (i := 4) (q := 33) C (show decode cX12_planks 31 = .ok (.iload 4, 2) from by decide +kernel) rfl rfl ?_
      refine sr_iconst (v := (1 : Int32)) (q := 34) C (show decode cX12_planks 33 = .ok (.iconst 1, 1) from by decide +kernel) (by decide) rfl ?_
      refine sr_iadd (q := 35) C (show decode cX12_planks 34 = .ok (.iadd, 1) from by decide +kernel) rfl ?_
      refine sr_nmi (fun y35 => ?_)
      refine sr_istore (i := 5) (L' := [some (xad κ v0), some (.int v1), some (.int v2), some (.int v3), some (.int v4), some (.int y35), none]) (q := 37) C (show decode cX12_planks 35 = .ok (.istore 5, 2) from by decide +kernel) (by decide) rfl rfl ?_
      exact slX12_planks_L37 C K24 4096 v0 v1 v2 v3 v4 y35 hv0
def fnX12_planks (v0 : Nat) (v1 : Int32) : sm_M Int32 := m_bnd (fnX12_isRiver v0) fun x1 => m_br ((bI x1) = 0)
    (m_ret (-2 : Int32))
    (m_bnd (fnX12_isStride v1) fun x8 => m_br ((bI x8) = 0)
    (m_ret (-2 : Int32))
    (fnX12_planks_L24 4096 v0 v1 (-1 : Int32) (-1 : Int32) (0 : Int32)))
set_option maxHeartbeats 4000000 in
set_option maxRecDepth 100000 in
theorem slX12_planks {κ : sm_X} (C : sm_C κ RX12 cX12_planks 7 6) (v0 : Nat) (v1 : Int32) (hv0 : kd v0 = 12) : sm_S κ (fun r : Int32 => .inr (some (.int r))) (.inl (0, [some (xad κ v0), some (.int v1), none, none, none, none, none], [])) (fnX12_planks v0 v1) := by
  unfold fnX12_planks
  refine sr_aload_n (i := 0) (q := 1) C (show decode cX12_planks 0 = .ok (.aload_n 0, 1) from by decide +kernel) rfl rfl rfl ?_
  refine sr_cVz (As := []) (st := []) (b := v0) (q := 4) C yvX12_isRiver ml_X12_107 (cnX12_isRiver (xo κ) v0 hv0) hv0 (by decide) rfl rfl rfl (by decide) (by decide) (Nat.le_of_ble_eq_true rfl) rfl (show decode cX12_planks 1 = .ok (.invokevirtual 107, 3) from by decide +kernel) rfl (fun x1 => ?_)
  refine sr_if_eq (q := 7) C 14 (show decode cX12_planks 4 = .ok (.ifCond .eq 10, 3) from by decide +kernel) (by decide) rfl ?_ ?_
  · refine sr_bipush (v := (-2 : Int32)) (q := 16) C (show decode cX12_planks 14 = .ok (.bipush (-2), 2) from by decide +kernel) (by decide) rfl ?_
    exact sr_ireturn C _ rfl (show decode cX12_planks 16 = .ok (.ireturn, 1) from by decide +kernel)
  · refine sr_iload_n (i := 1) (q := 8) C (show decode cX12_planks 7 = .ok (.iload_n 1, 1) from by decide +kernel) rfl rfl rfl ?_
    refine sr_cSz (As := [.int v1]) (st := []) (q := 11) C ysX12_isStride ml_X12_267 (cnX12_isStride (xo κ) v1) rfl (by decide) (by decide) (Nat.le_of_ble_eq_true rfl) rfl (show decode cX12_planks 8 = .ok (.invokestatic 267, 3) from by decide +kernel) rfl (fun x8 => ?_)
    refine sr_if_ne (q := 14) C 17 (show decode cX12_planks 11 = .ok (.ifCond .ne 6, 3) from by decide +kernel) (by decide) rfl ?_ ?_
    · refine sr_iconst (v := (-1 : Int32)) (q := 18) C (show decode cX12_planks 17 = .ok (.iconst (-1), 1) from by decide +kernel) (by decide) rfl ?_
      refine sr_istore_n (i := 2) (L' := [some (xad κ v0), some (.int v1), some (.int (-1 : Int32)), none, none, none, none]) (q := 19) C (show decode cX12_planks 18 = .ok (.istore_n 2, 1) from by decide +kernel) rfl (by decide) rfl rfl ?_
      refine sr_iconst (v := (-1 : Int32)) (q := 20) C (show decode cX12_planks 19 = .ok (.iconst (-1), 1) from by decide +kernel) (by decide) rfl ?_
      refine sr_istore_n (i := 3) (L' := [some (xad κ v0), some (.int v1), some (.int (-1 : Int32)), some (.int (-1 : Int32)), none, none, none]) (q := 21) C (show decode cX12_planks 20 = .ok (.istore_n 3, 1) from by decide +kernel) rfl (by decide) rfl rfl ?_
      refine sr_iconst (v := (0 : Int32)) (q := 22) C (show decode cX12_planks 21 = .ok (.iconst 0, 1) from by decide +kernel) (by decide) rfl ?_
      refine sr_istore (i := 4) (L' := [some (xad κ v0), some (.int v1), some (.int (-1 : Int32)), some (.int (-1 : Int32)), some (.int (0 : Int32)), none, none]) (q := 24) C (show decode cX12_planks 22 = .ok (.istore 4, 2) from by decide +kernel) (by decide) rfl rfl ?_
      exact slX12_planks_L24 C 4096 v0 v1 (-1 : Int32) (-1 : Int32) (0 : Int32) hv0
    · refine sr_bipush (v := (-2 : Int32)) (q := 16) C (show decode cX12_planks 14 = .ok (.bipush (-2), 2) from by decide +kernel) (by decide) rfl ?_
      exact sr_ireturn C _ rfl (show decode cX12_planks 16 = .ok (.ireturn, 1) from by decide +kernel)
theorem cnX12_planks (ω : sm_O) (v0 : Nat) (v1 : Int32) (hv0 : kd v0 = 12) : sm_Mt 6 yX12_planks cX12_planks 7 (some .int) ω [.ref (ω.1 + v0), .int v1] (fun a => some (.int a)) (fnX12_planks v0 v1) := by
  refine sm_conI (r := fun a => a) (by decide) (fun _ => rfl) (Nat.le_of_ble_eq_true rfl) ?_
  intro κ hκ C
  subst hκ
  exact slX12_planks C v0 v1 hv0
def fnX12_price (v0 : Nat) (v1 : Int32) (v2 : Int32) (v3 : Int32) : sm_M Int32 := m_bnd (fnX12_isAsked v0 v2 (1 : Int32) v3) fun x4 => m_br ((bI x4) = 0)
    (m_ret (-2 : Int32))
    (m_bnd (fnX12_isStride v1) fun x11 => m_br ((bI x11) = 0)
    (m_ret (-2 : Int32))
    (m_bnd (fnX12_priceOf v0 v1 v2 v3) fun x24 => m_br (x24 = (-1000000 : Int32))
    (m_ret (-1 : Int32))
    (m_ret x24)))
set_option maxHeartbeats 4000000 in
set_option maxRecDepth 100000 in
theorem slX12_price {κ : sm_X} (C : sm_C κ RX12 cX12_price 5 9) (v0 : Nat) (v1 : Int32) (v2 : Int32) (v3 : Int32) (hv0 : kd v0 = 12) : sm_S κ (fun r : Int32 => .inr (some (.int r))) (.inl (0, [some (xad κ v0), some (.int v1), some (.int v2), some (.int v3), none], [])) (fnX12_price v0 v1 v2 v3) := by
  unfold fnX12_price
  refine sr_aload_n (i := 0) (q := 1) C (show decode cX12_price 0 = .ok (.aload_n 0, 1) from by decide +kernel) rfl rfl rfl ?_
  refine sr_iload_n (i := 2) (q := 2) C (show decode cX12_price 1 = .ok (.iload_n 2, 1) from by decide +kernel) rfl rfl rfl ?_
  refine sr_iconst (v := (1 : Int32)) (q := 3) C (show decode cX12_price 2 = .ok (.iconst 1, 1) from by decide +kernel) (by decide) rfl ?_
  refine sr_iload_n (i := 3) (q := 4) C (show decode cX12_price 3 = .ok (.iload_n 3, 1) from by decide +kernel) rfl rfl rfl ?_
  refine sr_cVz (As := [.int v2, .int (1 : Int32), .int v3]) (st := []) (b := v0) (q := 7) C yvX12_isAsked ml_X12_310 (cnX12_isAsked (xo κ) v0 v2 (1 : Int32) v3 hv0) hv0 (by decide) rfl rfl rfl (by decide) (by decide) (Nat.le_of_ble_eq_true rfl) rfl (show decode cX12_price 4 = .ok (.invokevirtual 310, 3) from by decide +kernel) rfl (fun x4 => ?_)
  refine sr_if_eq (q := 10) C 17 (show decode cX12_price 7 = .ok (.ifCond .eq 10, 3) from by decide +kernel) (by decide) rfl ?_ ?_
  · refine sr_bipush (v := (-2 : Int32)) (q := 19) C (show decode cX12_price 17 = .ok (.bipush (-2), 2) from by decide +kernel) (by decide) rfl ?_
    exact sr_ireturn C _ rfl (show decode cX12_price 19 = .ok (.ireturn, 1) from by decide +kernel)
  · refine sr_iload_n (i := 1) (q := 11) C (show decode cX12_price 10 = .ok (.iload_n 1, 1) from by decide +kernel) rfl rfl rfl ?_
    refine sr_cSz (As := [.int v1]) (st := []) (q := 14) C ysX12_isStride ml_X12_267 (cnX12_isStride (xo κ) v1) rfl (by decide) (by decide) (Nat.le_of_ble_eq_true rfl) rfl (show decode cX12_price 11 = .ok (.invokestatic 267, 3) from by decide +kernel) rfl (fun x11 => ?_)
    refine sr_if_ne (q := 17) C 20 (show decode cX12_price 14 = .ok (.ifCond .ne 6, 3) from by decide +kernel) (by decide) rfl ?_ ?_
    · refine sr_aload_n (i := 0) (q := 21) C (show decode cX12_price 20 = .ok (.aload_n 0, 1) from by decide +kernel) rfl rfl rfl ?_
      refine sr_iload_n (i := 1) (q := 22) C (show decode cX12_price 21 = .ok (.iload_n 1, 1) from by decide +kernel) rfl rfl rfl ?_
      refine sr_iload_n (i := 2) (q := 23) C (show decode cX12_price 22 = .ok (.iload_n 2, 1) from by decide +kernel) rfl rfl rfl ?_
      refine sr_iload_n (i := 3) (q := 24) C (show decode cX12_price 23 = .ok (.iload_n 3, 1) from by decide +kernel) rfl rfl rfl ?_
      refine sr_cVi (As := [.int v1, .int v2, .int v3]) (st := []) (b := v0) (q := 27) C yvX12_priceOf ml_X12_500 (cnX12_priceOf (xo κ) v0 v1 v2 v3 hv0) hv0 (by decide) rfl rfl rfl (by decide) (by decide) (Nat.le_of_ble_eq_true rfl) rfl (show decode cX12_price 24 = .ok (.invokevirtual 500, 3) from by decide +kernel) rfl (fun x24 => ?_)
      refine sr_istore (i := 4) (L' := [some (xad κ v0), some (.int v1), some (.int v2), some (.int v3), some (.int x24)]) (q := 29) C (show decode cX12_price 27 = .ok (.istore 4, 2) from by decide +kernel) (by decide) rfl rfl ?_
      refine sr_iload (i := 4) (q := 31) C (show decode cX12_price 29 = .ok (.iload 4, 2) from by decide +kernel) rfl rfl ?_
      refine sr_ldcw (q := 34) C co_X12_428 (show decode cX12_price 31 = .ok (.ldc_w 428, 3) from by decide +kernel) rfl ?_
      refine sr_icmp_ne (q := 37) C 41 (show decode cX12_price 34 = .ok (.if_icmp .ne 7, 3) from by decide +kernel) (by decide) rfl ?_ ?_
      · refine sr_iload (i := 4) (q := 43) C (show decode cX12_price 41 = .ok (.iload 4, 2) from by decide +kernel) rfl rfl ?_
        exact sr_ireturn C _ rfl (show decode cX12_price 43 = .ok (.ireturn, 1) from by decide +kernel)
      · refine sr_iconst (v := (-1 : Int32)) (q := 38) C (show decode cX12_price 37 = .ok (.iconst (-1), 1) from by decide +kernel) (by decide) rfl ?_
        refine sr_goto (q := 43) C (show decode cX12_price 38 = .ok (.goto 5, 3) from by decide +kernel) (by decide) ?_
        exact sr_ireturn C _ rfl (show decode cX12_price 43 = .ok (.ireturn, 1) from by decide +kernel)
    · refine sr_bipush (v := (-2 : Int32)) (q := 19) C (show decode cX12_price 17 = .ok (.bipush (-2), 2) from by decide +kernel) (by decide) rfl ?_
      exact sr_ireturn C _ rfl (show decode cX12_price 19 = .ok (.ireturn, 1) from by decide +kernel)
theorem cnX12_price (ω : sm_O) (v0 : Nat) (v1 : Int32) (v2 : Int32) (v3 : Int32) (hv0 : kd v0 = 12) : sm_Mt 9 yX12_price cX12_price 5 (some .int) ω [.ref (ω.1 + v0), .int v1, .int v2, .int v3] (fun a => some (.int a)) (fnX12_price v0 v1 v2 v3) := by
  refine sm_conI (r := fun a => a) (by decide) (fun _ => rfl) (Nat.le_of_ble_eq_true rfl) ?_
  intro κ hκ C
  subst hκ
  exact slX12_price C v0 v1 v2 v3 hv0
def fnX12_reach (v0 : Nat) (v1 : Int32) : sm_M Int32 := m_bnd (fnX12_isRiver v0) fun x1 => m_br ((bI x1) = 0)
    (m_ret (-2 : Int32))
    (m_bnd (fnX12_isStride v1) fun x8 => m_br ((bI x8) = 0)
    (m_ret (-2 : Int32))
    (m_bnd (fnX12_reachOf v0 v1) fun x16 => m_ret x16))
set_option maxHeartbeats 4000000 in
set_option maxRecDepth 100000 in
theorem slX12_reach {κ : sm_X} (C : sm_C κ RX12 cX12_reach 2 6) (v0 : Nat) (v1 : Int32) (hv0 : kd v0 = 12) : sm_S κ (fun r : Int32 => .inr (some (.int r))) (.inl (0, [some (xad κ v0), some (.int v1)], [])) (fnX12_reach v0 v1) := by
  unfold fnX12_reach
  refine sr_aload_n (i := 0) (q := 1) C (show decode cX12_reach 0 = .ok (.aload_n 0, 1) from by decide +kernel) rfl rfl rfl ?_
  refine sr_cVz (As := []) (st := []) (b := v0) (q := 4) C yvX12_isRiver ml_X12_107 (cnX12_isRiver (xo κ) v0 hv0) hv0 (by decide) rfl rfl rfl (by decide) (by decide) (Nat.le_of_ble_eq_true rfl) rfl (show decode cX12_reach 1 = .ok (.invokevirtual 107, 3) from by decide +kernel) rfl (fun x1 => ?_)
  refine sr_if_eq (q := 7) C 22 (show decode cX12_reach 4 = .ok (.ifCond .eq 18, 3) from by decide +kernel) (by decide) rfl ?_ ?_
  · refine sr_bipush (v := (-2 : Int32)) (q := 24) C (show decode cX12_reach 22 = .ok (.bipush (-2), 2) from by decide +kernel) (by decide) rfl ?_
    exact sr_ireturn C _ rfl (show decode cX12_reach 24 = .ok (.ireturn, 1) from by decide +kernel)
  · refine sr_iload_n (i := 1) (q := 8) C (show decode cX12_reach 7 = .ok (.iload_n 1, 1) from by decide +kernel) rfl rfl rfl ?_
    refine sr_cSz (As := [.int v1]) (st := []) (q := 11) C ysX12_isStride ml_X12_267 (cnX12_isStride (xo κ) v1) rfl (by decide) (by decide) (Nat.le_of_ble_eq_true rfl) rfl (show decode cX12_reach 8 = .ok (.invokestatic 267, 3) from by decide +kernel) rfl (fun x8 => ?_)
    refine sr_if_eq (q := 14) C 22 (show decode cX12_reach 11 = .ok (.ifCond .eq 11, 3) from by decide +kernel) (by decide) rfl ?_ ?_
    · refine sr_bipush (v := (-2 : Int32)) (q := 24) C (show decode cX12_reach 22 = .ok (.bipush (-2), 2) from by decide +kernel) (by decide) rfl ?_
      exact sr_ireturn C _ rfl (show decode cX12_reach 24 = .ok (.ireturn, 1) from by decide +kernel)
    · refine sr_aload_n (i := 0) (q := 15) C (show decode cX12_reach 14 = .ok (.aload_n 0, 1) from by decide +kernel) rfl rfl rfl ?_
      refine sr_iload_n (i := 1) (q := 16) C (show decode cX12_reach 15 = .ok (.iload_n 1, 1) from by decide +kernel) rfl rfl rfl ?_
      refine sr_cVi (As := [.int v1]) (st := []) (b := v0) (q := 19) C yvX12_reachOf ml_X12_274 (cnX12_reachOf (xo κ) v0 v1 hv0) hv0 (by decide) rfl rfl rfl (by decide) (by decide) (Nat.le_of_ble_eq_true rfl) rfl (show decode cX12_reach 16 = .ok (.invokevirtual 274, 3) from by decide +kernel) rfl (fun x16 => ?_)
      refine sr_goto (q := 24) C (show decode cX12_reach 19 = .ok (.goto 5, 3) from by decide +kernel) (by decide) ?_
      exact sr_ireturn C _ rfl (show decode cX12_reach 24 = .ok (.ireturn, 1) from by decide +kernel)
theorem cnX12_reach (ω : sm_O) (v0 : Nat) (v1 : Int32) (hv0 : kd v0 = 12) : sm_Mt 6 yX12_reach cX12_reach 2 (some .int) ω [.ref (ω.1 + v0), .int v1] (fun a => some (.int a)) (fnX12_reach v0 v1) := by
  refine sm_conI (r := fun a => a) (by decide) (fun _ => rfl) (Nat.le_of_ble_eq_true rfl) ?_
  intro κ hκ C
  subst hκ
  exact slX12_reach C v0 v1 hv0
def fnX12_told (v0 : Nat) (v1 : Nat) (v2 : Int32) (v3 : Int32) : sm_M Int32 := m_bnd (fnX12_needs v0 v1) fun _ => m_bnd (fnX12_number v0 v2 v3) fun x8 => m_ret x8
set_option maxHeartbeats 4000000 in
set_option maxRecDepth 100000 in
theorem slX12_told {κ : sm_X} (C : sm_C κ RX12 cX12_told 4 8) (v0 : Nat) (v1 : Nat) (v2 : Int32) (v3 : Int32) (hv0 : kd v0 = 12) (hv1 : v1 < strN) : sm_S κ (fun r : Int32 => .inr (some (.int r))) (.inl (0, [some (xad κ v0), some (xst κ v1), some (.int v2), some (.int v3)], [])) (fnX12_told v0 v1 v2 v3) := by
  unfold fnX12_told
  refine sr_aload_n (i := 0) (q := 1) C (show decode cX12_told 0 = .ok (.aload_n 0, 1) from by decide +kernel) rfl rfl rfl ?_
  refine sr_aload_n (i := 1) (q := 2) C (show decode cX12_told 1 = .ok (.aload_n 1, 1) from by decide +kernel) rfl rfl rfl ?_
  refine sr_cVv (As := [xst κ v1]) (st := []) (b := v0) (q := 5) C yvX12_needs ml_X12_182 (cnX12_needs (xo κ) v0 v1 hv0 hv1) hv0 (by decide) rfl rfl rfl (by decide) (by decide) (Nat.le_of_ble_eq_true rfl) rfl (show decode cX12_told 2 = .ok (.invokevirtual 182, 3) from by decide +kernel) rfl (fun _ => ?_)
  refine sr_aload_n (i := 0) (q := 6) C (show decode cX12_told 5 = .ok (.aload_n 0, 1) from by decide +kernel) rfl rfl rfl ?_
  refine sr_iload_n (i := 2) (q := 7) C (show decode cX12_told 6 = .ok (.iload_n 2, 1) from by decide +kernel) rfl rfl rfl ?_
  refine sr_iload_n (i := 3) (q := 8) C (show decode cX12_told 7 = .ok (.iload_n 3, 1) from by decide +kernel) rfl rfl rfl ?_
  refine sr_cVi (As := [.int v2, .int v3]) (st := []) (b := v0) (q := 11) C yvX12_number ml_X12_186 (cnX12_number (xo κ) v0 v2 v3 hv0) hv0 (by decide) rfl rfl rfl (by decide) (by decide) (Nat.le_of_ble_eq_true rfl) rfl (show decode cX12_told 8 = .ok (.invokevirtual 186, 3) from by decide +kernel) rfl (fun x8 => ?_)
  exact sr_ireturn C _ rfl (show decode cX12_told 11 = .ok (.ireturn, 1) from by decide +kernel)
theorem cnX12_told (ω : sm_O) (v0 : Nat) (v1 : Nat) (v2 : Int32) (v3 : Int32) (hv0 : kd v0 = 12) (hv1 : v1 < strN) : sm_Mt 8 yX12_told cX12_told 4 (some .int) ω [.ref (ω.1 + v0), .ref (ω.2.2.2.1 v1), .int v2, .int v3] (fun a => some (.int a)) (fnX12_told v0 v1 v2 v3) := by
  refine sm_conI (r := fun a => a) (by decide) (fun _ => rfl) (Nat.le_of_ble_eq_true rfl) ?_
  intro κ hκ C
  subst hκ
  exact slX12_told C v0 v1 v2 v3 hv0 hv1
def fnX12_readPerson_J238 (v0 : Nat) : sm_M Unit := m_ai (lk v0 14) (4 : Int32) fun x244 => m_sai (lk v0 14) (4 : Int32) (x244 + (1 : Int32)) <| m_ret ()
set_option maxHeartbeats 4000000 in
set_option maxRecDepth 100000 in
theorem slX12_readPerson_J238 {κ : sm_X} (C : sm_C κ RX12 cX12_readPerson 4 9) (v0 : Nat) (hv0 : kd v0 = 12) : sm_S κ (fun _ : Unit => .inr none) (.inl (238, [some (xad κ v0), none, none, none], [])) (fnX12_readPerson_J238 v0) := by
  unfold fnX12_readPerson_J238
  refine sr_aload_n (i := 0) (q := 239) C (show decode cX12_readPerson 238 = .ok (.aload_n 0, 1) from by decide +kernel) rfl rfl rfl ?_
  refine sr_getr (q := 242) C fl_X12_31 hv0 (show decode cX12_readPerson 239 = .ok (.getfield 31, 3) from by decide +kernel) rfl ?_
  refine sr_iconst (v := (4 : Int32)) (q := 243) C (show decode cX12_readPerson 242 = .ok (.iconst 4, 1) from by decide +kernel) (by decide) rfl ?_
  refine sr_dup2 (q := 244) C (show decode cX12_readPerson 243 = .ok (.dup2, 1) from by decide +kernel) rfl rfl rfl ?_
  refine sr_iaload (q := 245) C (kt hv0 kp_12_14) (show decode cX12_readPerson 244 = .ok (.iaload, 1) from by decide +kernel) rfl (fun x244 => ?_)
  refine sr_iconst (v := (1 : Int32)) (q := 246) C (show decode cX12_readPerson 245 = .ok (.iconst 1, 1) from by decide +kernel) (by decide) rfl ?_
  refine sr_iadd (q := 247) C (show decode cX12_readPerson 246 = .ok (.iadd, 1) from by decide +kernel) rfl ?_
  refine sr_iastore (q := 248) C (kt hv0 kp_12_14) (show decode cX12_readPerson 247 = .ok (.iastore, 1) from by decide +kernel) rfl ?_
  exact sr_vreturn C _ rfl (show decode cX12_readPerson 248 = .ok (.return_, 1) from by decide +kernel)
def fnX12_readPerson_J197 (v0 : Nat) (v1 : Int32) (v2 : Int32) : sm_M Unit := m_bnd (fnX12_number v0 (0 : Int32) (v1 - (1 : Int32))) fun x202 => m_bnd (fnX12_good v0) fun x207 => m_br ((bI x207) = 0)
    (fnX12_readPerson_J238 v0)
    (m_sai (lk v0 14) (v2 + (5 : Int32)) x202 <| m_sai (lk v0 14) (((185 : Int32) + ((7 : Int32) * x202)) + (5 : Int32)) v1 <| fnX12_readPerson_J238 v0)
set_option maxHeartbeats 4000000 in
set_option maxRecDepth 100000 in
theorem slX12_readPerson_J197 {κ : sm_X} (C : sm_C κ RX12 cX12_readPerson 4 9) (v0 : Nat) (v1 : Int32) (v2 : Int32) (hv0 : kd v0 = 12) : sm_S κ (fun _ : Unit => .inr none) (.inl (197, [some (xad κ v0), some (.int v1), some (.int v2), none], [])) (fnX12_readPerson_J197 v0 v1 v2) := by
  unfold fnX12_readPerson_J197
  refine sr_aload_n (i := 0) (q := 198) C (show decode cX12_readPerson 197 = .ok (.aload_n 0, 1) from by decide +kernel) rfl rfl rfl ?_
  refine sr_iconst (v := (0 : Int32)) (q := 199) C (show decode cX12_readPerson 198 = .ok (.iconst 0, 1) from by decide +kernel) (by decide) rfl ?_
  refine sr_iload_n (i := 1) (q := 200) C (show decode cX12_readPerson 199 = .ok (.iload_n 1, 1) from by decide +kernel) rfl rfl rfl ?_
  refine sr_iconst (v := (1 : Int32)) (q := 201) C (show decode cX12_readPerson 200 = .ok (.iconst 1, 1) from by decide +kernel) (by decide) rfl ?_
  refine sr_isub (q := 202) C (show decode cX12_readPerson 201 = .ok (.isub, 1) from by decide +kernel) rfl ?_
  refine sr_cVi (As := [.int (0 : Int32), .int (v1 - (1 : Int32))]) (st := []) (b := v0) (q := 205) C yvX12_number ml_X12_186 (cnX12_number (xo κ) v0 (0 : Int32) (v1 - (1 : Int32)) hv0) hv0 (by decide) rfl rfl rfl (by decide) (by decide) (Nat.le_of_ble_eq_true rfl) rfl (show decode cX12_readPerson 202 = .ok (.invokevirtual 186, 3) from by decide +kernel) rfl (fun x202 => ?_)
  refine sr_istore_n (i := 3) (L' := [some (xad κ v0), some (.int v1), some (.int v2), some (.int x202)]) (q := 206) C (show decode cX12_readPerson 205 = .ok (.istore_n 3, 1) from by decide +kernel) rfl (by decide) rfl rfl ?_
  refine sr_aload_n (i := 0) (q := 207) C (show decode cX12_readPerson 206 = .ok (.aload_n 0, 1) from by decide +kernel) rfl rfl rfl ?_
  refine sr_cVz (As := []) (st := []) (b := v0) (q := 210) C yvX12_good ml_X12_155 (cnX12_good (xo κ) v0 hv0) hv0 (by decide) rfl rfl rfl (by decide) (by decide) (Nat.le_of_ble_eq_true rfl) rfl (show decode cX12_readPerson 207 = .ok (.invokevirtual 155, 3) from by decide +kernel) rfl (fun x207 => ?_)
  refine sr_if_eq (q := 213) C 238 (show decode cX12_readPerson 210 = .ok (.ifCond .eq 28, 3) from by decide +kernel) (by decide) rfl ?_ ?_
  · refine sr_weak (L' := [some (xad κ v0), none, none, none]) ⟨rfl, trivial⟩ ?_
    exact slX12_readPerson_J238 C v0 hv0
  · refine sr_aload_n (i := 0) (q := 214) C (show decode cX12_readPerson 213 = .ok (.aload_n 0, 1) from by decide +kernel) rfl rfl rfl ?_
    refine sr_getr (q := 217) C fl_X12_31 hv0 (show decode cX12_readPerson 214 = .ok (.getfield 31, 3) from by decide +kernel) rfl ?_
    refine sr_iload_n (i := 2) (q := 218) C (show decode cX12_readPerson 217 = .ok (.iload_n 2, 1) from by decide +kernel) rfl rfl rfl ?_
    refine sr_iconst (v := (5 : Int32)) (q := 219) C (show decode cX12_readPerson 218 = .ok (.iconst 5, 1) from by decide +kernel) (by decide) rfl ?_
    refine sr_iadd (q := 220) C (show decode cX12_readPerson 219 = .ok (.iadd, 1) from by decide +kernel) rfl ?_
    refine sr_iload_n (i := 3) (q := 221) C (show decode cX12_readPerson 220 = .ok (.iload_n 3, 1) from by decide +kernel) rfl rfl rfl ?_
    refine sr_iastore (q := 222) C (kt hv0 kp_12_14) (show decode cX12_readPerson 221 = .ok (.iastore, 1) from by decide +kernel) rfl ?_
    refine sr_aload_n (i := 0) (q := 223) C (show decode cX12_readPerson 222 = .ok (.aload_n 0, 1) from by decide +kernel) rfl rfl rfl ?_
    refine sr_getr (q := 226) C fl_X12_31 hv0 (show decode cX12_readPerson 223 = .ok (.getfield 31, 3) from by decide +kernel) rfl ?_
    refine sr_sipush (v := (185 : Int32)) (q := 229) C (show decode cX12_readPerson 226 = .ok (.sipush 185, 3) from by decide +kernel) (by decide) rfl ?_
    refine sr_bipush (v := (7 : Int32)) (q := 231) C (show decode cX12_readPerson 229 = .ok (.bipush 7, 2) from by decide +kernel) (by decide) rfl ?_
    refine sr_iload_n (i := 3) (q := 232) C (show decode cX12_readPerson 231 = .ok (.iload_n 3, 1) from by decide +kernel) rfl rfl rfl ?_
    refine sr_imul (q := 233) C (show decode cX12_readPerson 232 = .ok (.imul, 1) from by decide +kernel) rfl ?_
    refine sr_iadd (q := 234) C (show decode cX12_readPerson 233 = .ok (.iadd, 1) from by decide +kernel) rfl ?_
    refine sr_iconst (v := (5 : Int32)) (q := 235) C (show decode cX12_readPerson 234 = .ok (.iconst 5, 1) from by decide +kernel) (by decide) rfl ?_
    refine sr_iadd (q := 236) C (show decode cX12_readPerson 235 = .ok (.iadd, 1) from by decide +kernel) rfl ?_
    refine sr_iload_n (i := 1) (q := 237) C (show decode cX12_readPerson 236 = .ok (.iload_n 1, 1) from by decide +kernel) rfl rfl rfl ?_
    refine sr_iastore (q := 238) C (kt hv0 kp_12_14) (show decode cX12_readPerson 237 = .ok (.iastore, 1) from by decide +kernel) rfl ?_
    refine sr_weak (L' := [some (xad κ v0), none, none, none]) ⟨rfl, trivial⟩ ?_
    exact slX12_readPerson_J238 C v0 hv0
def fnX12_readPerson_J109 (v0 : Nat) (v1 : Int32) (v2 : Int32) (s0 : Int32) (s1 : Int32) (s2 : Nat) : sm_M Unit := m_sai s2 s1 s0 <| m_sai (lk v0 14) (v2 + (5 : Int32)) (-1 : Int32) <| m_sai (lk v0 14) (v2 + (6 : Int32)) (98 : Int32) <| m_bnd (fnX12_takes v0 14) fun x133 => m_br ((bI x133) = 0)
    (fnX12_readPerson_J238 v0)
    (m_bnd (fnX12_good v0) fun x140 => m_br ((bI x140) = 0)
    (fnX12_readPerson_J197 v0 v1 v2)
    (m_gi v0 10 fun x147 => m_br (x147 = (2 : Int32))
    (m_gi v0 11 fun x155 => m_bnd (fnX12_in x155.toInt64 (0 : Int64) ((v1 - (1 : Int32)).toInt64)) fun x164 => m_br ((bI x164) = 0)
    (fnX12_readPerson_J197 v0 v1 v2)
    (m_gi v0 11 fun x180 => m_ai (lk v0 14) (((185 : Int32) + ((7 : Int32) * x180)) + (5 : Int32)) fun x187 => m_br (x187 = (-1 : Int32))
    (fnX12_readPerson_J197 v0 v1 v2)
    (m_bnd (fnX12_errs v0 (2 : Int32)) fun _ => fnX12_readPerson_J197 v0 v1 v2)))
    (fnX12_readPerson_J197 v0 v1 v2)))
set_option maxHeartbeats 4000000 in
set_option maxRecDepth 100000 in
theorem slX12_readPerson_J109 {κ : sm_X} (C : sm_C κ RX12 cX12_readPerson 4 9) (v0 : Nat) (v1 : Int32) (v2 : Int32) (s0 : Int32) (s1 : Int32) (s2 : Nat) (hv0 : kd v0 = 12) (hs2 : kd s2 = 20) : sm_S κ (fun _ : Unit => .inr none) (.inl (109, [some (xad κ v0), some (.int v1), some (.int v2), none], [.int s0, .int s1, xad κ s2])) (fnX12_readPerson_J109 v0 v1 v2 s0 s1 s2) := by
  unfold fnX12_readPerson_J109
  refine sr_iastore (q := 110) C hs2 (show decode cX12_readPerson 109 = .ok (.iastore, 1) from by decide +kernel) rfl ?_
  refine sr_aload_n (i := 0) (q := 111) C (show decode cX12_readPerson 110 = .ok (.aload_n 0, 1) from by decide +kernel) rfl rfl rfl ?_
  refine sr_getr (q := 114) C fl_X12_31 hv0 (show decode cX12_readPerson 111 = .ok (.getfield 31, 3) from by decide +kernel) rfl ?_
  refine sr_iload_n (i := 2) (q := 115) C (show decode cX12_readPerson 114 = .ok (.iload_n 2, 1) from by decide +kernel) rfl rfl rfl ?_
  refine sr_iconst (v := (5 : Int32)) (q := 116) C (show decode cX12_readPerson 115 = .ok (.iconst 5, 1) from by decide +kernel) (by decide) rfl ?_
  refine sr_iadd (q := 117) C (show decode cX12_readPerson 116 = .ok (.iadd, 1) from by decide +kernel) rfl ?_
  refine sr_iconst (v := (-1 : Int32)) (q := 118) C (show decode cX12_readPerson 117 = .ok (.iconst (-1), 1) from by decide +kernel) (by decide) rfl ?_
  refine sr_iastore (q := 119) C (kt hv0 kp_12_14) (show decode cX12_readPerson 118 = .ok (.iastore, 1) from by decide +kernel) rfl ?_
  refine sr_aload_n (i := 0) (q := 120) C (show decode cX12_readPerson 119 = .ok (.aload_n 0, 1) from by decide +kernel) rfl rfl rfl ?_
  refine sr_getr (q := 123) C fl_X12_31 hv0 (show decode cX12_readPerson 120 = .ok (.getfield 31, 3) from by decide +kernel) rfl ?_
  refine sr_iload_n (i := 2) (q := 124) C (show decode cX12_readPerson 123 = .ok (.iload_n 2, 1) from by decide +kernel) rfl rfl rfl ?_
  refine sr_bipush (v := (6 : Int32)) (q := 126) C (show decode cX12_readPerson 124 = .ok (.bipush 6, 2) from by decide +kernel) (by decide) rfl ?_
  refine sr_iadd (q := 127) C (show decode cX12_readPerson 126 = .ok (.iadd, 1) from by decide +kernel) rfl ?_
  refine sr_bipush (v := (98 : Int32)) (q := 129) C (show decode cX12_readPerson 127 = .ok (.bipush 98, 2) from by decide +kernel) (by decide) rfl ?_
  refine sr_iastore (q := 130) C (kt hv0 kp_12_14) (show decode cX12_readPerson 129 = .ok (.iastore, 1) from by decide +kernel) rfl ?_
  refine sr_aload_n (i := 0) (q := 131) C (show decode cX12_readPerson 130 = .ok (.aload_n 0, 1) from by decide +kernel) rfl rfl rfl ?_
  refine sr_ldcS (i := 14) (q := 133) C sc_X12_213 (show decode cX12_readPerson 131 = .ok (.ldc 213, 2) from by decide +kernel) rfl ?_
  refine sr_cVz (As := [xst κ 14]) (st := []) (b := v0) (q := 136) C yvX12_takes ml_X12_175 (cnX12_takes (xo κ) v0 14 hv0 (by decide)) hv0 (by decide) rfl rfl rfl (by decide) (by decide) (Nat.le_of_ble_eq_true rfl) rfl (show decode cX12_readPerson 133 = .ok (.invokevirtual 175, 3) from by decide +kernel) rfl (fun x133 => ?_)
  refine sr_if_eq (q := 139) C 238 (show decode cX12_readPerson 136 = .ok (.ifCond .eq 102, 3) from by decide +kernel) (by decide) rfl ?_ ?_
  · refine sr_weak (L' := [some (xad κ v0), none, none, none]) ⟨rfl, trivial⟩ ?_
    exact slX12_readPerson_J238 C v0 hv0
  · refine sr_aload_n (i := 0) (q := 140) C (show decode cX12_readPerson 139 = .ok (.aload_n 0, 1) from by decide +kernel) rfl rfl rfl ?_
    refine sr_cVz (As := []) (st := []) (b := v0) (q := 143) C yvX12_good ml_X12_155 (cnX12_good (xo κ) v0 hv0) hv0 (by decide) rfl rfl rfl (by decide) (by decide) (Nat.le_of_ble_eq_true rfl) rfl (show decode cX12_readPerson 140 = .ok (.invokevirtual 155, 3) from by decide +kernel) rfl (fun x140 => ?_)
    refine sr_if_eq (q := 146) C 197 (show decode cX12_readPerson 143 = .ok (.ifCond .eq 54, 3) from by decide +kernel) (by decide) rfl ?_ ?_
    · exact slX12_readPerson_J197 C v0 v1 v2 hv0
    · refine sr_aload_n (i := 0) (q := 147) C (show decode cX12_readPerson 146 = .ok (.aload_n 0, 1) from by decide +kernel) rfl rfl rfl ?_
      refine sr_geti (q := 150) C fl_X12_131 (Or.inl rfl) hv0 (show decode cX12_readPerson 147 = .ok (.getfield 131, 3) from by decide +kernel) rfl (fun x147 => ?_)
      refine sr_iconst (v := (2 : Int32)) (q := 151) C (show decode cX12_readPerson 150 = .ok (.iconst 2, 1) from by decide +kernel) (by decide) rfl ?_
      refine sr_icmp_ne (q := 154) C 197 (show decode cX12_readPerson 151 = .ok (.if_icmp .ne 46, 3) from by decide +kernel) (by decide) rfl ?_ ?_
      · exact slX12_readPerson_J197 C v0 v1 v2 hv0
      · refine sr_aload_n (i := 0) (q := 155) C (show decode cX12_readPerson 154 = .ok (.aload_n 0, 1) from by decide +kernel) rfl rfl rfl ?_
        refine sr_geti (q := 158) C fl_X12_142 (Or.inl rfl) hv0 (show decode cX12_readPerson 155 = .ok (.getfield 142, 3) from by decide +kernel) rfl (fun x155 => ?_)
        refine sr_i2l (q := 159) C (show decode cX12_readPerson 158 = .ok (.i2l, 1) from by decide +kernel) rfl ?_
        refine sr_lconst (v := (0 : Int64)) (q := 160) C (show decode cX12_readPerson 159 = .ok (.lconst 0, 1) from by decide +kernel) (by decide) rfl ?_
        refine sr_iload_n (i := 1) (q := 161) C (show decode cX12_readPerson 160 = .ok (.iload_n 1, 1) from by decide +kernel) rfl rfl rfl ?_
        refine sr_iconst (v := (1 : Int32)) (q := 162) C (show decode cX12_readPerson 161 = .ok (.iconst 1, 1) from by decide +kernel) (by decide) rfl ?_
        refine sr_isub (q := 163) C (show decode cX12_readPerson 162 = .ok (.isub, 1) from by decide +kernel) rfl ?_
        refine sr_i2l (q := 164) C (show decode cX12_readPerson 163 = .ok (.i2l, 1) from by decide +kernel) rfl ?_
        refine sr_cSz (As := [.long x155.toInt64, .long (0 : Int64), .long ((v1 - (1 : Int32)).toInt64)]) (st := []) (q := 167) C ysX12_in ml_X12_103 (cnX12_in (xo κ) x155.toInt64 (0 : Int64) ((v1 - (1 : Int32)).toInt64)) rfl (by decide) (by decide) (Nat.le_of_ble_eq_true rfl) rfl (show decode cX12_readPerson 164 = .ok (.invokestatic 103, 3) from by decide +kernel) rfl (fun x164 => ?_)
        refine sr_if_eq (q := 170) C 197 (show decode cX12_readPerson 167 = .ok (.ifCond .eq 30, 3) from by decide +kernel) (by decide) rfl ?_ ?_
        · exact slX12_readPerson_J197 C v0 v1 v2 hv0
        · refine sr_aload_n (i := 0) (q := 171) C (show decode cX12_readPerson 170 = .ok (.aload_n 0, 1) from by decide +kernel) rfl rfl rfl ?_
          refine sr_getr (q := 174) C fl_X12_31 hv0 (show decode cX12_readPerson 171 = .ok (.getfield 31, 3) from by decide +kernel) rfl ?_
          refine sr_sipush (v := (185 : Int32)) (q := 177) C (show decode cX12_readPerson 174 = .ok (.sipush 185, 3) from by decide +kernel) (by decide) rfl ?_
          refine sr_bipush (v := (7 : Int32)) (q := 179) C (show decode cX12_readPerson 177 = .ok (.bipush 7, 2) from by decide +kernel) (by decide) rfl ?_
          refine sr_aload_n (i := 0) (q := 180) C (show decode cX12_readPerson 179 = .ok (.aload_n 0, 1) from by decide +kernel) rfl rfl rfl ?_
          refine sr_geti (q := 183) C fl_X12_142 (Or.inl rfl) hv0 (show decode cX12_readPerson 180 = .ok (.getfield 142, 3) from by decide +kernel) rfl (fun x180 => ?_)
          refine sr_imul (q := 184) C (show decode cX12_readPerson 183 = .ok (.imul, 1) from by decide +kernel) rfl ?_
          refine sr_iadd (q := 185) C (show decode cX12_readPerson 184 = .ok (.iadd, 1) from by decide +kernel) rfl ?_
          refine sr_iconst (v := (5 : Int32)) (q := 186) C (show decode cX12_readPerson 185 = .ok (.iconst 5, 1) from by decide +kernel) (by decide) rfl ?_
          refine sr_iadd (q := 187) C (show decode cX12_readPerson 186 = .ok (.iadd, 1) from by decide +kernel) rfl ?_
          refine sr_iaload (q := 188) C (kt hv0 kp_12_14) (show decode cX12_readPerson 187 = .ok (.iaload, 1) from by decide +kernel) rfl (fun x187 => ?_)
          refine sr_iconst (v := (-1 : Int32)) (q := 189) C (show decode cX12_readPerson 188 = .ok (.iconst (-1), 1) from by decide +kernel) (by decide) rfl ?_
          refine sr_icmp_eq (q := 192) C 197 (show decode cX12_readPerson 189 = .ok (.if_icmp .eq 8, 3) from by decide +kernel) (by decide) rfl ?_ ?_
          · exact slX12_readPerson_J197 C v0 v1 v2 hv0
          · refine sr_aload_n (i := 0) (q := 193) C (show decode cX12_readPerson 192 = .ok (.aload_n 0, 1) from by decide +kernel) rfl rfl rfl ?_
            refine sr_iconst (v := (2 : Int32)) (q := 194) C (show decode cX12_readPerson 193 = .ok (.iconst 2, 1) from by decide +kernel) (by decide) rfl ?_
            refine sr_cVv (As := [.int (2 : Int32)]) (st := []) (b := v0) (q := 197) C yvX12_errs ml_X12_178 (cnX12_errs (xo κ) v0 (2 : Int32) hv0) hv0 (by decide) rfl rfl rfl (by decide) (by decide) (Nat.le_of_ble_eq_true rfl) rfl (show decode cX12_readPerson 194 = .ok (.invokevirtual 178, 3) from by decide +kernel) rfl (fun _ => ?_)
            exact slX12_readPerson_J197 C v0 v1 v2 hv0
def fnX12_readPerson_J87 (v0 : Nat) (v1 : Int32) (v2 : Int32) (s0 : Int32) (s1 : Int32) (s2 : Nat) : sm_M Unit := m_sai s2 s1 s0 <| m_bnd (fnX12_takes v0 13) fun x98 => m_br ((bI x98) = 0)
    (fnX12_readPerson_J109 v0 v1 v2 (0 : Int32) (v2 + (4 : Int32)) (lk v0 14))
    (fnX12_readPerson_J109 v0 v1 v2 (1 : Int32) (v2 + (4 : Int32)) (lk v0 14))
set_option maxHeartbeats 4000000 in
set_option maxRecDepth 100000 in
theorem slX12_readPerson_J87 {κ : sm_X} (C : sm_C κ RX12 cX12_readPerson 4 9) (v0 : Nat) (v1 : Int32) (v2 : Int32) (s0 : Int32) (s1 : Int32) (s2 : Nat) (hv0 : kd v0 = 12) (hs2 : kd s2 = 20) : sm_S κ (fun _ : Unit => .inr none) (.inl (87, [some (xad κ v0), some (.int v1), some (.int v2), none], [.int s0, .int s1, xad κ s2])) (fnX12_readPerson_J87 v0 v1 v2 s0 s1 s2) := by
  unfold fnX12_readPerson_J87
  refine sr_iastore (q := 88) C hs2 (show decode cX12_readPerson 87 = .ok (.iastore, 1) from by decide +kernel) rfl ?_
  refine sr_aload_n (i := 0) (q := 89) C (show decode cX12_readPerson 88 = .ok (.aload_n 0, 1) from by decide +kernel) rfl rfl rfl ?_
  refine sr_getr (q := 92) C fl_X12_31 hv0 (show decode cX12_readPerson 89 = .ok (.getfield 31, 3) from by decide +kernel) rfl ?_
  refine sr_iload_n (i := 2) (q := 93) C (show decode cX12_readPerson 92 = .ok (.iload_n 2, 1) from by decide +kernel) rfl rfl rfl ?_
  refine sr_iconst (v := (4 : Int32)) (q := 94) C (show decode cX12_readPerson 93 = .ok (.iconst 4, 1) from by decide +kernel) (by decide) rfl ?_
  refine sr_iadd (q := 95) C (show decode cX12_readPerson 94 = .ok (.iadd, 1) from by decide +kernel) rfl ?_
  refine sr_aload_n (i := 0) (q := 96) C (show decode cX12_readPerson 95 = .ok (.aload_n 0, 1) from by decide +kernel) rfl rfl rfl ?_
  refine sr_ldcS (i := 13) (q := 98) C sc_X12_211 (show decode cX12_readPerson 96 = .ok (.ldc 211, 2) from by decide +kernel) rfl ?_
  refine sr_cVz (As := [xst κ 13]) (st := [.int (v2 + (4 : Int32)), xad κ (lk v0 14)]) (b := v0) (q := 101) C yvX12_takes ml_X12_175 (cnX12_takes (xo κ) v0 13 hv0 (by decide)) hv0 (by decide) rfl rfl rfl (by decide) (by decide) (Nat.le_of_ble_eq_true rfl) rfl (show decode cX12_readPerson 98 = .ok (.invokevirtual 175, 3) from by decide +kernel) rfl (fun x98 => ?_)
  refine sr_if_eq (q := 104) C 108 (show decode cX12_readPerson 101 = .ok (.ifCond .eq 7, 3) from by decide +kernel) (by decide) rfl ?_ ?_
  · refine sr_iconst (v := (0 : Int32)) (q := 109) C (show decode cX12_readPerson 108 = .ok (.iconst 0, 1) from by decide +kernel) (by decide) rfl ?_
    exact slX12_readPerson_J109 C v0 v1 v2 (0 : Int32) (v2 + (4 : Int32)) (lk v0 14) hv0 (kt hv0 kp_12_14)
  · refine sr_iconst (v := (1 : Int32)) (q := 105) C (show decode cX12_readPerson 104 = .ok (.iconst 1, 1) from by decide +kernel) (by decide) rfl ?_
    refine sr_goto (q := 109) C (show decode cX12_readPerson 105 = .ok (.goto 4, 3) from by decide +kernel) (by decide) ?_
    exact slX12_readPerson_J109 C v0 v1 v2 (1 : Int32) (v2 + (4 : Int32)) (lk v0 14) hv0 (kt hv0 kp_12_14)
def fnX12_readPerson (v0 : Nat) : sm_M Unit := m_ai (lk v0 14) (4 : Int32) fun x5 => m_nm ((185 : Int32) + ((7 : Int32) * x5)) fun y15 => m_bnd (fnX12_told v0 9 (1 : Int32) (9 : Int32)) fun x29 => m_sai (lk v0 14) (y15 + (0 : Int32)) x29 <| m_bnd (fnX12_told v0 10 (1 : Int32) (3 : Int32)) fun x45 => m_sai (lk v0 14) (y15 + (1 : Int32)) x45 <| m_bnd (fnX12_told v0 11 (0 : Int32) (99 : Int32)) fun x62 => m_sai (lk v0 14) (y15 + (2 : Int32)) x62 <| m_bnd (fnX12_takes v0 12) fun x76 => m_br ((bI x76) = 0)
    (fnX12_readPerson_J87 v0 x5 y15 (0 : Int32) (y15 + (3 : Int32)) (lk v0 14))
    (fnX12_readPerson_J87 v0 x5 y15 (1 : Int32) (y15 + (3 : Int32)) (lk v0 14))
set_option maxHeartbeats 4000000 in
set_option maxRecDepth 100000 in
theorem slX12_readPerson {κ : sm_X} (C : sm_C κ RX12 cX12_readPerson 4 9) (v0 : Nat) (hv0 : kd v0 = 12) : sm_S κ (fun _ : Unit => .inr none) (.inl (0, [some (xad κ v0), none, none, none], [])) (fnX12_readPerson v0) := by
  unfold fnX12_readPerson
  refine sr_aload_n (i := 0) (q := 1) C (show decode cX12_readPerson 0 = .ok (.aload_n 0, 1) from by decide +kernel) rfl rfl rfl ?_
  refine sr_getr (q := 4) C fl_X12_31 hv0 (show decode cX12_readPerson 1 = .ok (.getfield 31, 3) from by decide +kernel) rfl ?_
  refine sr_iconst (v := (4 : Int32)) (q := 5) C (show decode cX12_readPerson 4 = .ok (.iconst 4, 1) from by decide +kernel) (by decide) rfl ?_
  refine sr_iaload (q := 6) C (kt hv0 kp_12_14) (show decode cX12_readPerson 5 = .ok (.iaload, 1) from by decide +kernel) rfl (fun x5 => ?_)
  refine sr_istore_n (i := 1) (L' := [some (xad κ v0), some (.int x5), none, none]) (q := 7) C (show decode cX12_readPerson 6 = .ok (.istore_n 1, 1) from by decide +kernel) rfl (by decide) rfl rfl ?_
  refine sr_sipush (v := (185 : Int32)) (q := 10) C (show decode cX12_readPerson 7 = .ok (.sipush 185, 3) from by decide +kernel) (by decide) rfl ?_
  refine sr_bipush (v := (7 : Int32)) (q := 12) C (show decode cX12_readPerson 10 = .ok (.bipush 7, 2) from by decide +kernel) (by decide) rfl ?_
  refine sr_iload_n (i := 1) (q := 13) C (show decode cX12_readPerson 12 = .ok (.iload_n 1, 1) from by decide +kernel) rfl rfl rfl ?_
  refine sr_imul (q := 14) C (show decode cX12_readPerson 13 = .ok (.imul, 1) from by decide +kernel) rfl ?_
  refine sr_iadd (q := 15) C (show decode cX12_readPerson 14 = .ok (.iadd, 1) from by decide +kernel) rfl ?_
  refine sr_nmi (fun y15 => ?_)
  refine sr_istore_n (i := 2) (L' := [some (xad κ v0), some (.int x5), some (.int y15), none]) (q := 16) C (show decode cX12_readPerson 15 = .ok (.istore_n 2, 1) from by decide +kernel) rfl (by decide) rfl rfl ?_
  refine sr_aload_n (i := 0) (q := 17) C (show decode cX12_readPerson 16 = .ok (.aload_n 0, 1) from by decide +kernel) rfl rfl rfl ?_
  refine sr_getr (q := 20) C fl_X12_31 hv0 (show decode cX12_readPerson 17 = .ok (.getfield 31, 3) from by decide +kernel) rfl ?_
  refine sr_iload_n (i := 2) (q := 21) C (show decode cX12_readPerson 20 = .ok (.iload_n 2, 1) from by decide +kernel) rfl rfl rfl ?_
  refine sr_iconst (v := (0 : Int32)) (q := 22) C (show decode cX12_readPerson 21 = .ok (.iconst 0, 1) from by decide +kernel) (by decide) rfl ?_
  refine sr_iadd (q := 23) C (show decode cX12_readPerson 22 = .ok (.iadd, 1) from by decide +kernel) rfl ?_
  refine sr_aload_n (i := 0) (q := 24) C (show decode cX12_readPerson 23 = .ok (.aload_n 0, 1) from by decide +kernel) rfl rfl rfl ?_
  refine sr_ldcS (i := 9) (q := 26) C sc_X12_203 (show decode cX12_readPerson 24 = .ok (.ldc 203, 2) from by decide +kernel) rfl ?_
  refine sr_iconst (v := (1 : Int32)) (q := 27) C (show decode cX12_readPerson 26 = .ok (.iconst 1, 1) from by decide +kernel) (by decide) rfl ?_
  refine sr_bipush (v := (9 : Int32)) (q := 29) C (show decode cX12_readPerson 27 = .ok (.bipush 9, 2) from by decide +kernel) (by decide) rfl ?_
  refine sr_cVi (As := [xst κ 9, .int (1 : Int32), .int (9 : Int32)]) (st := [.int (y15 + (0 : Int32)), xad κ (lk v0 14)]) (b := v0) (q := 32) C yvX12_told ml_X12_190 (cnX12_told (xo κ) v0 9 (1 : Int32) (9 : Int32) hv0 (by decide)) hv0 (by decide) rfl rfl rfl (by decide) (by decide) (Nat.le_of_ble_eq_true rfl) rfl (show decode cX12_readPerson 29 = .ok (.invokevirtual 190, 3) from by decide +kernel) rfl (fun x29 => ?_)
  refine sr_iastore (q := 33) C (kt hv0 kp_12_14) (show decode cX12_readPerson 32 = .ok (.iastore, 1) from by decide +kernel) rfl ?_
  refine sr_aload_n (i := 0) (q := 34) C (show decode cX12_readPerson 33 = .ok (.aload_n 0, 1) from by decide +kernel) rfl rfl rfl ?_
  refine sr_getr (q := 37) C fl_X12_31 hv0 (show decode cX12_readPerson 34 = .ok (.getfield 31, 3) from by decide +kernel) rfl ?_
  refine sr_iload_n (i := 2) (q := 38) C (show decode cX12_readPerson 37 = .ok (.iload_n 2, 1) from by decide +kernel) rfl rfl rfl ?_
  refine sr_iconst (v := (1 : Int32)) (q := 39) C (show decode cX12_readPerson 38 = .ok (.iconst 1, 1) from by decide +kernel) (by decide) rfl ?_
  refine sr_iadd (q := 40) C (show decode cX12_readPerson 39 = .ok (.iadd, 1) from by decide +kernel) rfl ?_
  refine sr_aload_n (i := 0) (q := 41) C (show decode cX12_readPerson 40 = .ok (.aload_n 0, 1) from by decide +kernel) rfl rfl rfl ?_
  refine sr_ldcS (i := 10) (q := 43) C sc_X12_205 (show decode cX12_readPerson 41 = .ok (.ldc 205, 2) from by decide +kernel) rfl ?_
  refine sr_iconst (v := (1 : Int32)) (q := 44) C (show decode cX12_readPerson 43 = .ok (.iconst 1, 1) from by decide +kernel) (by decide) rfl ?_
  refine sr_iconst (v := (3 : Int32)) (q := 45) C (show decode cX12_readPerson 44 = .ok (.iconst 3, 1) from by decide +kernel) (by decide) rfl ?_
  refine sr_cVi (As := [xst κ 10, .int (1 : Int32), .int (3 : Int32)]) (st := [.int (y15 + (1 : Int32)), xad κ (lk v0 14)]) (b := v0) (q := 48) C yvX12_told ml_X12_190 (cnX12_told (xo κ) v0 10 (1 : Int32) (3 : Int32) hv0 (by decide)) hv0 (by decide) rfl rfl rfl (by decide) (by decide) (Nat.le_of_ble_eq_true rfl) rfl (show decode cX12_readPerson 45 = .ok (.invokevirtual 190, 3) from by decide +kernel) rfl (fun x45 => ?_)
  refine sr_iastore (q := 49) C (kt hv0 kp_12_14) (show decode cX12_readPerson 48 = .ok (.iastore, 1) from by decide +kernel) rfl ?_
  refine sr_aload_n (i := 0) (q := 50) C (show decode cX12_readPerson 49 = .ok (.aload_n 0, 1) from by decide +kernel) rfl rfl rfl ?_
  refine sr_getr (q := 53) C fl_X12_31 hv0 (show decode cX12_readPerson 50 = .ok (.getfield 31, 3) from by decide +kernel) rfl ?_
  refine sr_iload_n (i := 2) (q := 54) C (show decode cX12_readPerson 53 = .ok (.iload_n 2, 1) from by decide +kernel) rfl rfl rfl ?_
  refine sr_iconst (v := (2 : Int32)) (q := 55) C (show decode cX12_readPerson 54 = .ok (.iconst 2, 1) from by decide +kernel) (by decide) rfl ?_
  refine sr_iadd (q := 56) C (show decode cX12_readPerson 55 = .ok (.iadd, 1) from by decide +kernel) rfl ?_
  refine sr_aload_n (i := 0) (q := 57) C (show decode cX12_readPerson 56 = .ok (.aload_n 0, 1) from by decide +kernel) rfl rfl rfl ?_
  refine sr_ldcS (i := 11) (q := 59) C sc_X12_207 (show decode cX12_readPerson 57 = .ok (.ldc 207, 2) from by decide +kernel) rfl ?_
  refine sr_iconst (v := (0 : Int32)) (q := 60) C (show decode cX12_readPerson 59 = .ok (.iconst 0, 1) from by decide +kernel) (by decide) rfl ?_
  refine sr_bipush (v := (99 : Int32)) (q := 62) C (show decode cX12_readPerson 60 = .ok (.bipush 99, 2) from by decide +kernel) (by decide) rfl ?_
  refine sr_cVi (As := [xst κ 11, .int (0 : Int32), .int (99 : Int32)]) (st := [.int (y15 + (2 : Int32)), xad κ (lk v0 14)]) (b := v0) (q := 65) C yvX12_told ml_X12_190 (cnX12_told (xo κ) v0 11 (0 : Int32) (99 : Int32) hv0 (by decide)) hv0 (by decide) rfl rfl rfl (by decide) (by decide) (Nat.le_of_ble_eq_true rfl) rfl (show decode cX12_readPerson 62 = .ok (.invokevirtual 190, 3) from by decide +kernel) rfl (fun x62 => ?_)
  refine sr_iastore (q := 66) C (kt hv0 kp_12_14) (show decode cX12_readPerson 65 = .ok (.iastore, 1) from by decide +kernel) rfl ?_
  refine sr_aload_n (i := 0) (q := 67) C (show decode cX12_readPerson 66 = .ok (.aload_n 0, 1) from by decide +kernel) rfl rfl rfl ?_
  refine sr_getr (q := 70) C fl_X12_31 hv0 (show decode cX12_readPerson 67 = .ok (.getfield 31, 3) from by decide +kernel) rfl ?_
  refine sr_iload_n (i := 2) (q := 71) C (show decode cX12_readPerson 70 = .ok (.iload_n 2, 1) from by decide +kernel) rfl rfl rfl ?_
  refine sr_iconst (v := (3 : Int32)) (q := 72) C (show decode cX12_readPerson 71 = .ok (.iconst 3, 1) from by decide +kernel) (by decide) rfl ?_
  refine sr_iadd (q := 73) C (show decode cX12_readPerson 72 = .ok (.iadd, 1) from by decide +kernel) rfl ?_
  refine sr_aload_n (i := 0) (q := 74) C (show decode cX12_readPerson 73 = .ok (.aload_n 0, 1) from by decide +kernel) rfl rfl rfl ?_
  refine sr_ldcS (i := 12) (q := 76) C sc_X12_209 (show decode cX12_readPerson 74 = .ok (.ldc 209, 2) from by decide +kernel) rfl ?_
  refine sr_cVz (As := [xst κ 12]) (st := [.int (y15 + (3 : Int32)), xad κ (lk v0 14)]) (b := v0) (q := 79) C yvX12_takes ml_X12_175 (cnX12_takes (xo κ) v0 12 hv0 (by decide)) hv0 (by decide) rfl rfl rfl (by decide) (by decide) (Nat.le_of_ble_eq_true rfl) rfl (show decode cX12_readPerson 76 = .ok (.invokevirtual 175, 3) from by decide +kernel) rfl (fun x76 => ?_)
  refine sr_if_eq (q := 82) C 86 (show decode cX12_readPerson 79 = .ok (.ifCond .eq 7, 3) from by decide +kernel) (by decide) rfl ?_ ?_
  · refine sr_iconst (v := (0 : Int32)) (q := 87) C (show decode cX12_readPerson 86 = .ok (.iconst 0, 1) from by decide +kernel) (by decide) rfl ?_
    exact slX12_readPerson_J87 C v0 x5 y15 (0 : Int32) (y15 + (3 : Int32)) (lk v0 14) hv0 (kt hv0 kp_12_14)
  · refine sr_iconst (v := (1 : Int32)) (q := 83) C (show decode cX12_readPerson 82 = .ok (.iconst 1, 1) from by decide +kernel) (by decide) rfl ?_
    refine sr_goto (q := 87) C (show decode cX12_readPerson 83 = .ok (.goto 4, 3) from by decide +kernel) (by decide) ?_
    exact slX12_readPerson_J87 C v0 x5 y15 (1 : Int32) (y15 + (3 : Int32)) (lk v0 14) hv0 (kt hv0 kp_12_14)
theorem cnX12_readPerson (ω : sm_O) (v0 : Nat) (hv0 : kd v0 = 12) : sm_Mt 9 yX12_readPerson cX12_readPerson 4 none ω [.ref (ω.1 + v0)] (fun _ => none) (fnX12_readPerson v0) := by
  refine sm_conV (by decide) (Nat.le_of_ble_eq_true rfl) ?_
  intro κ hκ C
  subst hκ
  exact slX12_readPerson C v0 hv0
def fnX12_readStone_J179 (v0 : Nat) (v1 : Int32) (v2 : Int32) (v3 : Int32) : sm_M Unit := m_sai (lk v0 14) (v1 + (0 : Int32)) v2 <| m_sai (lk v0 14) (v1 + (1 : Int32)) v3 <| m_ai (lk v0 14) (3 : Int32) fun x203 => m_sai (lk v0 14) (3 : Int32) (x203 + (1 : Int32)) <| m_ret ()
set_option maxHeartbeats 4000000 in
set_option maxRecDepth 100000 in
theorem slX12_readStone_J179 {κ : sm_X} (C : sm_C κ RX12 cX12_readStone 4 9) (v0 : Nat) (v1 : Int32) (v2 : Int32) (v3 : Int32) (hv0 : kd v0 = 12) : sm_S κ (fun _ : Unit => .inr none) (.inl (179, [some (xad κ v0), some (.int v1), some (.int v2), some (.int v3)], [])) (fnX12_readStone_J179 v0 v1 v2 v3) := by
  unfold fnX12_readStone_J179
  refine sr_aload_n (i := 0) (q := 180) C (show decode cX12_readStone 179 = .ok (.aload_n 0, 1) from by decide +kernel) rfl rfl rfl ?_
  refine sr_getr (q := 183) C fl_X12_31 hv0 (show decode cX12_readStone 180 = .ok (.getfield 31, 3) from by decide +kernel) rfl ?_
  refine sr_iload_n (i := 1) (q := 184) C (show decode cX12_readStone 183 = .ok (.iload_n 1, 1) from by decide +kernel) rfl rfl rfl ?_
  refine sr_iconst (v := (0 : Int32)) (q := 185) C (show decode cX12_readStone 184 = .ok (.iconst 0, 1) from by decide +kernel) (by decide) rfl ?_
  refine sr_iadd (q := 186) C (show decode cX12_readStone 185 = .ok (.iadd, 1) from by decide +kernel) rfl ?_
  refine sr_iload_n (i := 2) (q := 187) C (show decode cX12_readStone 186 = .ok (.iload_n 2, 1) from by decide +kernel) rfl rfl rfl ?_
  refine sr_iastore (q := 188) C (kt hv0 kp_12_14) (show decode cX12_readStone 187 = .ok (.iastore, 1) from by decide +kernel) rfl ?_
  refine sr_aload_n (i := 0) (q := 189) C (show decode cX12_readStone 188 = .ok (.aload_n 0, 1) from by decide +kernel) rfl rfl rfl ?_
  refine sr_getr (q := 192) C fl_X12_31 hv0 (show decode cX12_readStone 189 = .ok (.getfield 31, 3) from by decide +kernel) rfl ?_
  refine sr_iload_n (i := 1) (q := 193) C (show decode cX12_readStone 192 = .ok (.iload_n 1, 1) from by decide +kernel) rfl rfl rfl ?_
  refine sr_iconst (v := (1 : Int32)) (q := 194) C (show decode cX12_readStone 193 = .ok (.iconst 1, 1) from by decide +kernel) (by decide) rfl ?_
  refine sr_iadd (q := 195) C (show decode cX12_readStone 194 = .ok (.iadd, 1) from by decide +kernel) rfl ?_
  refine sr_iload_n (i := 3) (q := 196) C (show decode cX12_readStone 195 = .ok (.iload_n 3, 1) from by decide +kernel) rfl rfl rfl ?_
  refine sr_iastore (q := 197) C (kt hv0 kp_12_14) (show decode cX12_readStone 196 = .ok (.iastore, 1) from by decide +kernel) rfl ?_
  refine sr_aload_n (i := 0) (q := 198) C (show decode cX12_readStone 197 = .ok (.aload_n 0, 1) from by decide +kernel) rfl rfl rfl ?_
  refine sr_getr (q := 201) C fl_X12_31 hv0 (show decode cX12_readStone 198 = .ok (.getfield 31, 3) from by decide +kernel) rfl ?_
  refine sr_iconst (v := (3 : Int32)) (q := 202) C (show decode cX12_readStone 201 = .ok (.iconst 3, 1) from by decide +kernel) (by decide) rfl ?_
  refine sr_dup2 (q := 203) C (show decode cX12_readStone 202 = .ok (.dup2, 1) from by decide +kernel) rfl rfl rfl ?_
  refine sr_iaload (q := 204) C (kt hv0 kp_12_14) (show decode cX12_readStone 203 = .ok (.iaload, 1) from by decide +kernel) rfl (fun x203 => ?_)
  refine sr_iconst (v := (1 : Int32)) (q := 205) C (show decode cX12_readStone 204 = .ok (.iconst 1, 1) from by decide +kernel) (by decide) rfl ?_
  refine sr_iadd (q := 206) C (show decode cX12_readStone 205 = .ok (.iadd, 1) from by decide +kernel) rfl ?_
  refine sr_iastore (q := 207) C (kt hv0 kp_12_14) (show decode cX12_readStone 206 = .ok (.iastore, 1) from by decide +kernel) rfl ?_
  exact sr_vreturn C _ rfl (show decode cX12_readStone 207 = .ok (.return_, 1) from by decide +kernel)
def fnX12_readStone_J145 (v0 : Nat) (v1 : Int32) (v2 : Int32) (v3 : Int32) : sm_M Unit := m_bnd (fnX12_takes v0 7) fun x148 => m_br ((bI x148) = 0)
    (fnX12_readStone_J179 v0 v1 v2 v3)
    (m_bnd (fnX12_number v0 (1 : Int32) (99 : Int32)) fun x165 => m_sai (lk v0 14) (v1 + (4 : Int32)) x165 <| m_ai (lk v0 14) (5 : Int32) fun x175 => m_sai (lk v0 14) (5 : Int32) (x175 + (1 : Int32)) <| fnX12_readStone_J179 v0 v1 v2 v3)
set_option maxHeartbeats 4000000 in
set_option maxRecDepth 100000 in
theorem slX12_readStone_J145 {κ : sm_X} (C : sm_C κ RX12 cX12_readStone 4 9) (v0 : Nat) (v1 : Int32) (v2 : Int32) (v3 : Int32) (hv0 : kd v0 = 12) : sm_S κ (fun _ : Unit => .inr none) (.inl (145, [some (xad κ v0), some (.int v1), some (.int v2), some (.int v3)], [])) (fnX12_readStone_J145 v0 v1 v2 v3) := by
  unfold fnX12_readStone_J145
  refine sr_aload_n (i := 0) (q := 146) C (show decode cX12_readStone 145 = .ok (.aload_n 0, 1) from by decide +kernel) rfl rfl rfl ?_
  refine sr_ldcS (i := 7) (q := 148) C sc_X12_201 (show decode cX12_readStone 146 = .ok (.ldc 201, 2) from by decide +kernel) rfl ?_
  refine sr_cVz (As := [xst κ 7]) (st := []) (b := v0) (q := 151) C yvX12_takes ml_X12_175 (cnX12_takes (xo κ) v0 7 hv0 (by decide)) hv0 (by decide) rfl rfl rfl (by decide) (by decide) (Nat.le_of_ble_eq_true rfl) rfl (show decode cX12_readStone 148 = .ok (.invokevirtual 175, 3) from by decide +kernel) rfl (fun x148 => ?_)
  refine sr_if_eq (q := 154) C 179 (show decode cX12_readStone 151 = .ok (.ifCond .eq 28, 3) from by decide +kernel) (by decide) rfl ?_ ?_
  · exact slX12_readStone_J179 C v0 v1 v2 v3 hv0
  · refine sr_aload_n (i := 0) (q := 155) C (show decode cX12_readStone 154 = .ok (.aload_n 0, 1) from by decide +kernel) rfl rfl rfl ?_
    refine sr_getr (q := 158) C fl_X12_31 hv0 (show decode cX12_readStone 155 = .ok (.getfield 31, 3) from by decide +kernel) rfl ?_
    refine sr_iload_n (i := 1) (q := 159) C (show decode cX12_readStone 158 = .ok (.iload_n 1, 1) from by decide +kernel) rfl rfl rfl ?_
    refine sr_iconst (v := (4 : Int32)) (q := 160) C (show decode cX12_readStone 159 = .ok (.iconst 4, 1) from by decide +kernel) (by decide) rfl ?_
    refine sr_iadd (q := 161) C (show decode cX12_readStone 160 = .ok (.iadd, 1) from by decide +kernel) rfl ?_
    refine sr_aload_n (i := 0) (q := 162) C (show decode cX12_readStone 161 = .ok (.aload_n 0, 1) from by decide +kernel) rfl rfl rfl ?_
    refine sr_iconst (v := (1 : Int32)) (q := 163) C (show decode cX12_readStone 162 = .ok (.iconst 1, 1) from by decide +kernel) (by decide) rfl ?_
    refine sr_bipush (v := (99 : Int32)) (q := 165) C (show decode cX12_readStone 163 = .ok (.bipush 99, 2) from by decide +kernel) (by decide) rfl ?_
    refine sr_cVi (As := [.int (1 : Int32), .int (99 : Int32)]) (st := [.int (v1 + (4 : Int32)), xad κ (lk v0 14)]) (b := v0) (q := 168) C yvX12_number ml_X12_186 (cnX12_number (xo κ) v0 (1 : Int32) (99 : Int32) hv0) hv0 (by decide) rfl rfl rfl (by decide) (by decide) (Nat.le_of_ble_eq_true rfl) rfl (show decode cX12_readStone 165 = .ok (.invokevirtual 186, 3) from by decide +kernel) rfl (fun x165 => ?_)
    refine sr_iastore (q := 169) C (kt hv0 kp_12_14) (show decode cX12_readStone 168 = .ok (.iastore, 1) from by decide +kernel) rfl ?_
    refine sr_aload_n (i := 0) (q := 170) C (show decode cX12_readStone 169 = .ok (.aload_n 0, 1) from by decide +kernel) rfl rfl rfl ?_
    refine sr_getr (q := 173) C fl_X12_31 hv0 (show decode cX12_readStone 170 = .ok (.getfield 31, 3) from by decide +kernel) rfl ?_
    refine sr_iconst (v := (5 : Int32)) (q := 174) C (show decode cX12_readStone 173 = .ok (.iconst 5, 1) from by decide +kernel) (by decide) rfl ?_
    refine sr_dup2 (q := 175) C (show decode cX12_readStone 174 = .ok (.dup2, 1) from by decide +kernel) rfl rfl rfl ?_
    refine sr_iaload (q := 176) C (kt hv0 kp_12_14) (show decode cX12_readStone 175 = .ok (.iaload, 1) from by decide +kernel) rfl (fun x175 => ?_)
    refine sr_iconst (v := (1 : Int32)) (q := 177) C (show decode cX12_readStone 176 = .ok (.iconst 1, 1) from by decide +kernel) (by decide) rfl ?_
    refine sr_iadd (q := 178) C (show decode cX12_readStone 177 = .ok (.iadd, 1) from by decide +kernel) rfl ?_
    refine sr_iastore (q := 179) C (kt hv0 kp_12_14) (show decode cX12_readStone 178 = .ok (.iastore, 1) from by decide +kernel) rfl ?_
    exact slX12_readStone_J179 C v0 v1 v2 v3 hv0
def fnX12_readStone_J120 (v0 : Nat) (v1 : Int32) (v2 : Int32) (v3 : Int32) (s0 : Int32) (s1 : Int32) (s2 : Nat) : sm_M Unit := m_sai s2 s1 s0 <| m_bnd (fnX12_is v0 7) fun x124 => m_br ((bI x124) = 0)
    (fnX12_readStone_J145 v0 v1 v2 v3)
    (m_ai (lk v0 14) (5 : Int32) fun x135 => m_br (x135 = (4 : Int32))
    (m_bnd (fnX12_errs v0 (2 : Int32)) fun _ => fnX12_readStone_J145 v0 v1 v2 v3)
    (fnX12_readStone_J145 v0 v1 v2 v3))
set_option maxHeartbeats 4000000 in
set_option maxRecDepth 100000 in
theorem slX12_readStone_J120 {κ : sm_X} (C : sm_C κ RX12 cX12_readStone 4 9) (v0 : Nat) (v1 : Int32) (v2 : Int32) (v3 : Int32) (s0 : Int32) (s1 : Int32) (s2 : Nat) (hv0 : kd v0 = 12) (hs2 : kd s2 = 20) : sm_S κ (fun _ : Unit => .inr none) (.inl (120, [some (xad κ v0), some (.int v1), some (.int v2), some (.int v3)], [.int s0, .int s1, xad κ s2])) (fnX12_readStone_J120 v0 v1 v2 v3 s0 s1 s2) := by
  unfold fnX12_readStone_J120
  refine sr_iastore (q := 121) C hs2 (show decode cX12_readStone 120 = .ok (.iastore, 1) from by decide +kernel) rfl ?_
  refine sr_aload_n (i := 0) (q := 122) C (show decode cX12_readStone 121 = .ok (.aload_n 0, 1) from by decide +kernel) rfl rfl rfl ?_
  refine sr_ldcS (i := 7) (q := 124) C sc_X12_201 (show decode cX12_readStone 122 = .ok (.ldc 201, 2) from by decide +kernel) rfl ?_
  refine sr_cVz (As := [xst κ 7]) (st := []) (b := v0) (q := 127) C yvX12_is ml_X12_168 (cnX12_is (xo κ) v0 7 hv0 (by decide)) hv0 (by decide) rfl rfl rfl (by decide) (by decide) (Nat.le_of_ble_eq_true rfl) rfl (show decode cX12_readStone 124 = .ok (.invokevirtual 168, 3) from by decide +kernel) rfl (fun x124 => ?_)
  refine sr_if_eq (q := 130) C 145 (show decode cX12_readStone 127 = .ok (.ifCond .eq 18, 3) from by decide +kernel) (by decide) rfl ?_ ?_
  · exact slX12_readStone_J145 C v0 v1 v2 v3 hv0
  · refine sr_aload_n (i := 0) (q := 131) C (show decode cX12_readStone 130 = .ok (.aload_n 0, 1) from by decide +kernel) rfl rfl rfl ?_
    refine sr_getr (q := 134) C fl_X12_31 hv0 (show decode cX12_readStone 131 = .ok (.getfield 31, 3) from by decide +kernel) rfl ?_
    refine sr_iconst (v := (5 : Int32)) (q := 135) C (show decode cX12_readStone 134 = .ok (.iconst 5, 1) from by decide +kernel) (by decide) rfl ?_
    refine sr_iaload (q := 136) C (kt hv0 kp_12_14) (show decode cX12_readStone 135 = .ok (.iaload, 1) from by decide +kernel) rfl (fun x135 => ?_)
    refine sr_iconst (v := (4 : Int32)) (q := 137) C (show decode cX12_readStone 136 = .ok (.iconst 4, 1) from by decide +kernel) (by decide) rfl ?_
    refine sr_icmp_ne (q := 140) C 145 (show decode cX12_readStone 137 = .ok (.if_icmp .ne 8, 3) from by decide +kernel) (by decide) rfl ?_ ?_
    · exact slX12_readStone_J145 C v0 v1 v2 v3 hv0
    · refine sr_aload_n (i := 0) (q := 141) C (show decode cX12_readStone 140 = .ok (.aload_n 0, 1) from by decide +kernel) rfl rfl rfl ?_
      refine sr_iconst (v := (2 : Int32)) (q := 142) C (show decode cX12_readStone 141 = .ok (.iconst 2, 1) from by decide +kernel) (by decide) rfl ?_
      refine sr_cVv (As := [.int (2 : Int32)]) (st := []) (b := v0) (q := 145) C yvX12_errs ml_X12_178 (cnX12_errs (xo κ) v0 (2 : Int32) hv0) hv0 (by decide) rfl rfl rfl (by decide) (by decide) (Nat.le_of_ble_eq_true rfl) rfl (show decode cX12_readStone 142 = .ok (.invokevirtual 178, 3) from by decide +kernel) rfl (fun _ => ?_)
      exact slX12_readStone_J145 C v0 v1 v2 v3 hv0
def fnX12_readStone_J62 (v0 : Nat) (v1 : Int32) (v2 : Int32) : sm_M Unit := m_ai (lk v0 14) (1 : Int32) fun x69 => m_bnd (fnX12_number v0 (1 : Int32) (x69 - (1 : Int32))) fun x72 => m_bnd (fnX12_told v0 5 (1 : Int32) (9 : Int32)) fun x89 => m_sai (lk v0 14) (v1 + (2 : Int32)) x89 <| m_bnd (fnX12_takes v0 6) fun x103 => m_br ((bI x103) = 0)
    (fnX12_readStone_J120 v0 v1 v2 x72 (0 : Int32) (v1 + (3 : Int32)) (lk v0 14))
    (m_bnd (fnX12_number v0 (1 : Int32) (23 : Int32)) fun x113 => fnX12_readStone_J120 v0 v1 v2 x72 x113 (v1 + (3 : Int32)) (lk v0 14))
set_option maxHeartbeats 4000000 in
set_option maxRecDepth 100000 in
theorem slX12_readStone_J62 {κ : sm_X} (C : sm_C κ RX12 cX12_readStone 4 9) (v0 : Nat) (v1 : Int32) (v2 : Int32) (hv0 : kd v0 = 12) : sm_S κ (fun _ : Unit => .inr none) (.inl (62, [some (xad κ v0), some (.int v1), some (.int v2), none], [])) (fnX12_readStone_J62 v0 v1 v2) := by
  unfold fnX12_readStone_J62
  refine sr_aload_n (i := 0) (q := 63) C (show decode cX12_readStone 62 = .ok (.aload_n 0, 1) from by decide +kernel) rfl rfl rfl ?_
  refine sr_iconst (v := (1 : Int32)) (q := 64) C (show decode cX12_readStone 63 = .ok (.iconst 1, 1) from by decide +kernel) (by decide) rfl ?_
  refine sr_aload_n (i := 0) (q := 65) C (show decode cX12_readStone 64 = .ok (.aload_n 0, 1) from by decide +kernel) rfl rfl rfl ?_
  refine sr_getr (q := 68) C fl_X12_31 hv0 (show decode cX12_readStone 65 = .ok (.getfield 31, 3) from by decide +kernel) rfl ?_
  refine sr_iconst (v := (1 : Int32)) (q := 69) C (show decode cX12_readStone 68 = .ok (.iconst 1, 1) from by decide +kernel) (by decide) rfl ?_
  refine sr_iaload (q := 70) C (kt hv0 kp_12_14) (show decode cX12_readStone 69 = .ok (.iaload, 1) from by decide +kernel) rfl (fun x69 => ?_)
  refine sr_iconst (v := (1 : Int32)) (q := 71) C (show decode cX12_readStone 70 = .ok (.iconst 1, 1) from by decide +kernel) (by decide) rfl ?_
  refine sr_isub (q := 72) C (show decode cX12_readStone 71 = .ok (.isub, 1) from by decide +kernel) rfl ?_
  refine sr_cVi (As := [.int (1 : Int32), .int (x69 - (1 : Int32))]) (st := []) (b := v0) (q := 75) C yvX12_number ml_X12_186 (cnX12_number (xo κ) v0 (1 : Int32) (x69 - (1 : Int32)) hv0) hv0 (by decide) rfl rfl rfl (by decide) (by decide) (Nat.le_of_ble_eq_true rfl) rfl (show decode cX12_readStone 72 = .ok (.invokevirtual 186, 3) from by decide +kernel) rfl (fun x72 => ?_)
  refine sr_istore_n (i := 3) (L' := [some (xad κ v0), some (.int v1), some (.int v2), some (.int x72)]) (q := 76) C (show decode cX12_readStone 75 = .ok (.istore_n 3, 1) from by decide +kernel) rfl (by decide) rfl rfl ?_
  refine sr_aload_n (i := 0) (q := 77) C (show decode cX12_readStone 76 = .ok (.aload_n 0, 1) from by decide +kernel) rfl rfl rfl ?_
  refine sr_getr (q := 80) C fl_X12_31 hv0 (show decode cX12_readStone 77 = .ok (.getfield 31, 3) from by decide +kernel) rfl ?_
  refine sr_iload_n (i := 1) (q := 81) C (show decode cX12_readStone 80 = .ok (.iload_n 1, 1) from by decide +kernel) rfl rfl rfl ?_
  refine sr_iconst (v := (2 : Int32)) (q := 82) C (show decode cX12_readStone 81 = .ok (.iconst 2, 1) from by decide +kernel) (by decide) rfl ?_
  refine sr_iadd (q := 83) C (show decode cX12_readStone 82 = .ok (.iadd, 1) from by decide +kernel) rfl ?_
  refine sr_aload_n (i := 0) (q := 84) C (show decode cX12_readStone 83 = .ok (.aload_n 0, 1) from by decide +kernel) rfl rfl rfl ?_
  refine sr_ldcS (i := 5) (q := 86) C sc_X12_197 (show decode cX12_readStone 84 = .ok (.ldc 197, 2) from by decide +kernel) rfl ?_
  refine sr_iconst (v := (1 : Int32)) (q := 87) C (show decode cX12_readStone 86 = .ok (.iconst 1, 1) from by decide +kernel) (by decide) rfl ?_
  refine sr_bipush (v := (9 : Int32)) (q := 89) C (show decode cX12_readStone 87 = .ok (.bipush 9, 2) from by decide +kernel) (by decide) rfl ?_
  refine sr_cVi (As := [xst κ 5, .int (1 : Int32), .int (9 : Int32)]) (st := [.int (v1 + (2 : Int32)), xad κ (lk v0 14)]) (b := v0) (q := 92) C yvX12_told ml_X12_190 (cnX12_told (xo κ) v0 5 (1 : Int32) (9 : Int32) hv0 (by decide)) hv0 (by decide) rfl rfl rfl (by decide) (by decide) (Nat.le_of_ble_eq_true rfl) rfl (show decode cX12_readStone 89 = .ok (.invokevirtual 190, 3) from by decide +kernel) rfl (fun x89 => ?_)
  refine sr_iastore (q := 93) C (kt hv0 kp_12_14) (show decode cX12_readStone 92 = .ok (.iastore, 1) from by decide +kernel) rfl ?_
  refine sr_aload_n (i := 0) (q := 94) C (show decode cX12_readStone 93 = .ok (.aload_n 0, 1) from by decide +kernel) rfl rfl rfl ?_
  refine sr_getr (q := 97) C fl_X12_31 hv0 (show decode cX12_readStone 94 = .ok (.getfield 31, 3) from by decide +kernel) rfl ?_
  refine sr_iload_n (i := 1) (q := 98) C (show decode cX12_readStone 97 = .ok (.iload_n 1, 1) from by decide +kernel) rfl rfl rfl ?_
  refine sr_iconst (v := (3 : Int32)) (q := 99) C (show decode cX12_readStone 98 = .ok (.iconst 3, 1) from by decide +kernel) (by decide) rfl ?_
  refine sr_iadd (q := 100) C (show decode cX12_readStone 99 = .ok (.iadd, 1) from by decide +kernel) rfl ?_
  refine sr_aload_n (i := 0) (q := 101) C (show decode cX12_readStone 100 = .ok (.aload_n 0, 1) from by decide +kernel) rfl rfl rfl ?_
  refine sr_ldcS (i := 6) (q := 103) C sc_X12_199 (show decode cX12_readStone 101 = .ok (.ldc 199, 2) from by decide +kernel) rfl ?_
  refine sr_cVz (As := [xst κ 6]) (st := [.int (v1 + (3 : Int32)), xad κ (lk v0 14)]) (b := v0) (q := 106) C yvX12_takes ml_X12_175 (cnX12_takes (xo κ) v0 6 hv0 (by decide)) hv0 (by decide) rfl rfl rfl (by decide) (by decide) (Nat.le_of_ble_eq_true rfl) rfl (show decode cX12_readStone 103 = .ok (.invokevirtual 175, 3) from by decide +kernel) rfl (fun x103 => ?_)
  refine sr_if_eq (q := 109) C 119 (show decode cX12_readStone 106 = .ok (.ifCond .eq 13, 3) from by decide +kernel) (by decide) rfl ?_ ?_
  · refine sr_iconst (v := (0 : Int32)) (q := 120) C (show decode cX12_readStone 119 = .ok (.iconst 0, 1) from by decide +kernel) (by decide) rfl ?_
    exact slX12_readStone_J120 C v0 v1 v2 x72 (0 : Int32) (v1 + (3 : Int32)) (lk v0 14) hv0 (kt hv0 kp_12_14)
  · refine sr_aload_n (i := 0) (q := 110) C (show decode cX12_readStone 109 = .ok (.aload_n 0, 1) from by decide +kernel) rfl rfl rfl ?_
    refine sr_iconst (v := (1 : Int32)) (q := 111) C (show decode cX12_readStone 110 = .ok (.iconst 1, 1) from by decide +kernel) (by decide) rfl ?_
    refine sr_bipush (v := (23 : Int32)) (q := 113) C (show decode cX12_readStone 111 = .ok (.bipush 23, 2) from by decide +kernel) (by decide) rfl ?_
    refine sr_cVi (As := [.int (1 : Int32), .int (23 : Int32)]) (st := [.int (v1 + (3 : Int32)), xad κ (lk v0 14)]) (b := v0) (q := 116) C yvX12_number ml_X12_186 (cnX12_number (xo κ) v0 (1 : Int32) (23 : Int32) hv0) hv0 (by decide) rfl rfl rfl (by decide) (by decide) (Nat.le_of_ble_eq_true rfl) rfl (show decode cX12_readStone 113 = .ok (.invokevirtual 186, 3) from by decide +kernel) rfl (fun x113 => ?_)
    refine sr_goto (q := 120) C (show decode cX12_readStone 116 = .ok (.goto 4, 3) from by decide +kernel) (by decide) ?_
    exact slX12_readStone_J120 C v0 v1 v2 x72 x113 (v1 + (3 : Int32)) (lk v0 14) hv0 (kt hv0 kp_12_14)
def fnX12_readStone (v0 : Nat) : sm_M Unit := m_ai (lk v0 14) (3 : Int32) fun x9 => m_nm ((10 : Int32) + ((7 : Int32) * x9)) fun y12 => m_ai (lk v0 14) (2 : Int32) fun x22 => m_bnd (fnX12_told v0 4 (0 : Int32) (x22 - (1 : Int32))) fun x25 => m_bnd (fnX12_good v0) fun x30 => m_br ((bI x30) = 0)
    (fnX12_readStone_J62 v0 y12 x25)
    (m_gi v0 10 fun x37 => m_br (x37 = (2 : Int32))
    (m_gi v0 11 fun x47 => m_bnd (fnX12_freshOn v0 x25 x47) fun x50 => m_br (x50 = (-1 : Int32))
    (fnX12_readStone_J62 v0 y12 x25)
    (m_bnd (fnX12_errs v0 (2 : Int32)) fun _ => fnX12_readStone_J62 v0 y12 x25))
    (fnX12_readStone_J62 v0 y12 x25))
set_option maxHeartbeats 4000000 in
set_option maxRecDepth 100000 in
theorem slX12_readStone {κ : sm_X} (C : sm_C κ RX12 cX12_readStone 4 9) (v0 : Nat) (hv0 : kd v0 = 12) : sm_S κ (fun _ : Unit => .inr none) (.inl (0, [some (xad κ v0), none, none, none], [])) (fnX12_readStone v0) := by
  unfold fnX12_readStone
  refine sr_bipush (v := (10 : Int32)) (q := 2) C (show decode cX12_readStone 0 = .ok (.bipush 10, 2) from by decide +kernel) (by decide) rfl ?_
  refine sr_bipush (v := (7 : Int32)) (q := 4) C (show decode cX12_readStone 2 = .ok (.bipush 7, 2) from by decide +kernel) (by decide) rfl ?_
  refine sr_aload_n (i := 0) (q := 5) C (show decode cX12_readStone 4 = .ok (.aload_n 0, 1) from by decide +kernel) rfl rfl rfl ?_
  refine sr_getr (q := 8) C fl_X12_31 hv0 (show decode cX12_readStone 5 = .ok (.getfield 31, 3) from by decide +kernel) rfl ?_
  refine sr_iconst (v := (3 : Int32)) (q := 9) C (show decode cX12_readStone 8 = .ok (.iconst 3, 1) from by decide +kernel) (by decide) rfl ?_
  refine sr_iaload (q := 10) C (kt hv0 kp_12_14) (show decode cX12_readStone 9 = .ok (.iaload, 1) from by decide +kernel) rfl (fun x9 => ?_)
  refine sr_imul (q := 11) C (show decode cX12_readStone 10 = .ok (.imul, 1) from by decide +kernel) rfl ?_
  refine sr_iadd (q := 12) C (show decode cX12_readStone 11 = .ok (.iadd, 1) from by decide +kernel) rfl ?_
  refine sr_nmi (fun y12 => ?_)
  refine sr_istore_n (i := 1) (L' := [some (xad κ v0), some (.int y12), none, none]) (q := 13) C (show decode cX12_readStone 12 = .ok (.istore_n 1, 1) from by decide +kernel) rfl (by decide) rfl rfl ?_
  refine sr_aload_n (i := 0) (q := 14) C (show decode cX12_readStone 13 = .ok (.aload_n 0, 1) from by decide +kernel) rfl rfl rfl ?_
  refine sr_ldcS (i := 4) (q := 16) C sc_X12_189 (show decode cX12_readStone 14 = .ok (.ldc 189, 2) from by decide +kernel) rfl ?_
  refine sr_iconst (v := (0 : Int32)) (q := 17) C (show decode cX12_readStone 16 = .ok (.iconst 0, 1) from by decide +kernel) (by decide) rfl ?_
  refine sr_aload_n (i := 0) (q := 18) C (show decode cX12_readStone 17 = .ok (.aload_n 0, 1) from by decide +kernel) rfl rfl rfl ?_
  refine sr_getr (q := 21) C fl_X12_31 hv0 (show decode cX12_readStone 18 = .ok (.getfield 31, 3) from by decide +kernel) rfl ?_
  refine sr_iconst (v := (2 : Int32)) (q := 22) C (show decode cX12_readStone 21 = .ok (.iconst 2, 1) from by decide +kernel) (by decide) rfl ?_
  refine sr_iaload (q := 23) C (kt hv0 kp_12_14) (show decode cX12_readStone 22 = .ok (.iaload, 1) from by decide +kernel) rfl (fun x22 => ?_)
  refine sr_iconst (v := (1 : Int32)) (q := 24) C (show decode cX12_readStone 23 = .ok (.iconst 1, 1) from by decide +kernel) (by decide) rfl ?_
  refine sr_isub (q := 25) C (show decode cX12_readStone 24 = .ok (.isub, 1) from by decide +kernel) rfl ?_
  refine sr_cVi (As := [xst κ 4, .int (0 : Int32), .int (x22 - (1 : Int32))]) (st := []) (b := v0) (q := 28) C yvX12_told ml_X12_190 (cnX12_told (xo κ) v0 4 (0 : Int32) (x22 - (1 : Int32)) hv0 (by decide)) hv0 (by decide) rfl rfl rfl (by decide) (by decide) (Nat.le_of_ble_eq_true rfl) rfl (show decode cX12_readStone 25 = .ok (.invokevirtual 190, 3) from by decide +kernel) rfl (fun x25 => ?_)
  refine sr_istore_n (i := 2) (L' := [some (xad κ v0), some (.int y12), some (.int x25), none]) (q := 29) C (show decode cX12_readStone 28 = .ok (.istore_n 2, 1) from by decide +kernel) rfl (by decide) rfl rfl ?_
  refine sr_aload_n (i := 0) (q := 30) C (show decode cX12_readStone 29 = .ok (.aload_n 0, 1) from by decide +kernel) rfl rfl rfl ?_
  refine sr_cVz (As := []) (st := []) (b := v0) (q := 33) C yvX12_good ml_X12_155 (cnX12_good (xo κ) v0 hv0) hv0 (by decide) rfl rfl rfl (by decide) (by decide) (Nat.le_of_ble_eq_true rfl) rfl (show decode cX12_readStone 30 = .ok (.invokevirtual 155, 3) from by decide +kernel) rfl (fun x30 => ?_)
  refine sr_if_eq (q := 36) C 62 (show decode cX12_readStone 33 = .ok (.ifCond .eq 29, 3) from by decide +kernel) (by decide) rfl ?_ ?_
  · exact slX12_readStone_J62 C v0 y12 x25 hv0
  · refine sr_aload_n (i := 0) (q := 37) C (show decode cX12_readStone 36 = .ok (.aload_n 0, 1) from by decide +kernel) rfl rfl rfl ?_
    refine sr_geti (q := 40) C fl_X12_131 (Or.inl rfl) hv0 (show decode cX12_readStone 37 = .ok (.getfield 131, 3) from by decide +kernel) rfl (fun x37 => ?_)
    refine sr_iconst (v := (2 : Int32)) (q := 41) C (show decode cX12_readStone 40 = .ok (.iconst 2, 1) from by decide +kernel) (by decide) rfl ?_
    refine sr_icmp_ne (q := 44) C 62 (show decode cX12_readStone 41 = .ok (.if_icmp .ne 21, 3) from by decide +kernel) (by decide) rfl ?_ ?_
    · exact slX12_readStone_J62 C v0 y12 x25 hv0
    · refine sr_aload_n (i := 0) (q := 45) C (show decode cX12_readStone 44 = .ok (.aload_n 0, 1) from by decide +kernel) rfl rfl rfl ?_
      refine sr_iload_n (i := 2) (q := 46) C (show decode cX12_readStone 45 = .ok (.iload_n 2, 1) from by decide +kernel) rfl rfl rfl ?_
      refine sr_aload_n (i := 0) (q := 47) C (show decode cX12_readStone 46 = .ok (.aload_n 0, 1) from by decide +kernel) rfl rfl rfl ?_
      refine sr_geti (q := 50) C fl_X12_142 (Or.inl rfl) hv0 (show decode cX12_readStone 47 = .ok (.getfield 142, 3) from by decide +kernel) rfl (fun x47 => ?_)
      refine sr_cVi (As := [.int x25, .int x47]) (st := []) (b := v0) (q := 53) C yvX12_freshOn ml_X12_194 (cnX12_freshOn (xo κ) v0 x25 x47 hv0) hv0 (by decide) rfl rfl rfl (by decide) (by decide) (Nat.le_of_ble_eq_true rfl) rfl (show decode cX12_readStone 50 = .ok (.invokevirtual 194, 3) from by decide +kernel) rfl (fun x50 => ?_)
      refine sr_iconst (v := (-1 : Int32)) (q := 54) C (show decode cX12_readStone 53 = .ok (.iconst (-1), 1) from by decide +kernel) (by decide) rfl ?_
      refine sr_icmp_eq (q := 57) C 62 (show decode cX12_readStone 54 = .ok (.if_icmp .eq 8, 3) from by decide +kernel) (by decide) rfl ?_ ?_
      · exact slX12_readStone_J62 C v0 y12 x25 hv0
      · refine sr_aload_n (i := 0) (q := 58) C (show decode cX12_readStone 57 = .ok (.aload_n 0, 1) from by decide +kernel) rfl rfl rfl ?_
        refine sr_iconst (v := (2 : Int32)) (q := 59) C (show decode cX12_readStone 58 = .ok (.iconst 2, 1) from by decide +kernel) (by decide) rfl ?_
        refine sr_cVv (As := [.int (2 : Int32)]) (st := []) (b := v0) (q := 62) C yvX12_errs ml_X12_178 (cnX12_errs (xo κ) v0 (2 : Int32) hv0) hv0 (by decide) rfl rfl rfl (by decide) (by decide) (Nat.le_of_ble_eq_true rfl) rfl (show decode cX12_readStone 59 = .ok (.invokevirtual 178, 3) from by decide +kernel) rfl (fun _ => ?_)
        exact slX12_readStone_J62 C v0 y12 x25 hv0
theorem cnX12_readStone (ω : sm_O) (v0 : Nat) (hv0 : kd v0 = 12) : sm_Mt 9 yX12_readStone cX12_readStone 4 none ω [.ref (ω.1 + v0)] (fun _ => none) (fnX12_readStone v0) := by
  refine sm_conV (by decide) (Nat.le_of_ble_eq_true rfl) ?_
  intro κ hκ C
  subst hκ
  exact slX12_readStone C v0 hv0
def fnX12_readNext_J102 (v0 : Nat) : sm_M Unit := m_bnd (fnX12_good v0) fun x103 => m_br ((bI x103) = 0)
    (m_ret ())
    (m_bnd (fnX12_takes v0 3) fun x113 => m_br ((bI x113) = 0)
    (m_bnd (fnX12_takes v0 8) fun x129 => m_br ((bI x129) = 0)
    (m_bnd (fnX12_advance v0) fun _ => m_sai (lk v0 14) (8 : Int32) (1 : Int32) <| m_bnd (fnX12_number v0 (1 : Int32) (9 : Int32)) fun x164 => m_sai (lk v0 14) (6 : Int32) x164 <| m_ret ())
    (m_bnd (fnX12_readPerson v0) fun _ => m_ret ()))
    (m_bnd (fnX12_readStone v0) fun _ => m_ret ()))
set_option maxHeartbeats 4000000 in
set_option maxRecDepth 100000 in
theorem slX12_readNext_J102 {κ : sm_X} (C : sm_C κ RX12 cX12_readNext 1 10) (v0 : Nat) (hv0 : kd v0 = 12) : sm_S κ (fun _ : Unit => .inr none) (.inl (102, [some (xad κ v0)], [])) (fnX12_readNext_J102 v0) := by
  unfold fnX12_readNext_J102
  refine sr_aload_n (i := 0) (q := 103) C (show decode cX12_readNext 102 = .ok (.aload_n 0, 1) from by decide +kernel) rfl rfl rfl ?_
  refine sr_cVz (As := []) (st := []) (b := v0) (q := 106) C yvX12_good ml_X12_155 (cnX12_good (xo κ) v0 hv0) hv0 (by decide) rfl rfl rfl (by decide) (by decide) (Nat.le_of_ble_eq_true rfl) rfl (show decode cX12_readNext 103 = .ok (.invokevirtual 155, 3) from by decide +kernel) rfl (fun x103 => ?_)
  refine sr_if_ne (q := 109) C 110 (show decode cX12_readNext 106 = .ok (.ifCond .ne 4, 3) from by decide +kernel) (by decide) rfl ?_ ?_
  · refine sr_aload_n (i := 0) (q := 111) C (show decode cX12_readNext 110 = .ok (.aload_n 0, 1) from by decide +kernel) rfl rfl rfl ?_
    refine sr_ldcS (i := 3) (q := 113) C sc_X12_215 (show decode cX12_readNext 111 = .ok (.ldc 215, 2) from by decide +kernel) rfl ?_
    refine sr_cVz (As := [xst κ 3]) (st := []) (b := v0) (q := 116) C yvX12_takes ml_X12_175 (cnX12_takes (xo κ) v0 3 hv0 (by decide)) hv0 (by decide) rfl rfl rfl (by decide) (by decide) (Nat.le_of_ble_eq_true rfl) rfl (show decode cX12_readNext 113 = .ok (.invokevirtual 175, 3) from by decide +kernel) rfl (fun x113 => ?_)
    refine sr_if_eq (q := 119) C 126 (show decode cX12_readNext 116 = .ok (.ifCond .eq 10, 3) from by decide +kernel) (by decide) rfl ?_ ?_
    · refine sr_aload_n (i := 0) (q := 127) C (show decode cX12_readNext 126 = .ok (.aload_n 0, 1) from by decide +kernel) rfl rfl rfl ?_
      refine sr_ldcS (i := 8) (q := 129) C sc_X12_217 (show decode cX12_readNext 127 = .ok (.ldc 217, 2) from by decide +kernel) rfl ?_
      refine sr_cVz (As := [xst κ 8]) (st := []) (b := v0) (q := 132) C yvX12_takes ml_X12_175 (cnX12_takes (xo κ) v0 8 hv0 (by decide)) hv0 (by decide) rfl rfl rfl (by decide) (by decide) (Nat.le_of_ble_eq_true rfl) rfl (show decode cX12_readNext 129 = .ok (.invokevirtual 175, 3) from by decide +kernel) rfl (fun x129 => ?_)
      refine sr_if_eq (q := 135) C 142 (show decode cX12_readNext 132 = .ok (.ifCond .eq 10, 3) from by decide +kernel) (by decide) rfl ?_ ?_
      · refine sr_aload_n (i := 0) (q := 143) C (show decode cX12_readNext 142 = .ok (.aload_n 0, 1) from by decide +kernel) rfl rfl rfl ?_
        refine sr_cVv (As := []) (st := []) (b := v0) (q := 146) C yvX12_advance ml_X12_172 (cnX12_advance (xo κ) v0 hv0) hv0 (by decide) rfl rfl rfl (by decide) (by decide) (Nat.le_of_ble_eq_true rfl) rfl (show decode cX12_readNext 143 = .ok (.invokevirtual 172, 3) from by decide +kernel) rfl (fun _ => ?_)
        refine sr_aload_n (i := 0) (q := 147) C (show decode cX12_readNext 146 = .ok (.aload_n 0, 1) from by decide +kernel) rfl rfl rfl ?_
        refine sr_getr (q := 150) C fl_X12_31 hv0 (show decode cX12_readNext 147 = .ok (.getfield 31, 3) from by decide +kernel) rfl ?_
        refine sr_bipush (v := (8 : Int32)) (q := 152) C (show decode cX12_readNext 150 = .ok (.bipush 8, 2) from by decide +kernel) (by decide) rfl ?_
        refine sr_iconst (v := (1 : Int32)) (q := 153) C (show decode cX12_readNext 152 = .ok (.iconst 1, 1) from by decide +kernel) (by decide) rfl ?_
        refine sr_iastore (q := 154) C (kt hv0 kp_12_14) (show decode cX12_readNext 153 = .ok (.iastore, 1) from by decide +kernel) rfl ?_
        refine sr_aload_n (i := 0) (q := 155) C (show decode cX12_readNext 154 = .ok (.aload_n 0, 1) from by decide +kernel) rfl rfl rfl ?_
        refine sr_getr (q := 158) C fl_X12_31 hv0 (show decode cX12_readNext 155 = .ok (.getfield 31, 3) from by decide +kernel) rfl ?_
        refine sr_bipush (v := (6 : Int32)) (q := 160) C (show decode cX12_readNext 158 = .ok (.bipush 6, 2) from by decide +kernel) (by decide) rfl ?_
        refine sr_aload_n (i := 0) (q := 161) C (show decode cX12_readNext 160 = .ok (.aload_n 0, 1) from by decide +kernel) rfl rfl rfl ?_
        refine sr_iconst (v := (1 : Int32)) (q := 162) C (show decode cX12_readNext 161 = .ok (.iconst 1, 1) from by decide +kernel) (by decide) rfl ?_
        refine sr_bipush (v := (9 : Int32)) (q := 164) C (show decode cX12_readNext 162 = .ok (.bipush 9, 2) from by decide +kernel) (by decide) rfl ?_
        refine sr_cVi (As := [.int (1 : Int32), .int (9 : Int32)]) (st := [.int (6 : Int32), xad κ (lk v0 14)]) (b := v0) (q := 167) C yvX12_number ml_X12_186 (cnX12_number (xo κ) v0 (1 : Int32) (9 : Int32) hv0) hv0 (by decide) rfl rfl rfl (by decide) (by decide) (Nat.le_of_ble_eq_true rfl) rfl (show decode cX12_readNext 164 = .ok (.invokevirtual 186, 3) from by decide +kernel) rfl (fun x164 => ?_)
        refine sr_iastore (q := 168) C (kt hv0 kp_12_14) (show decode cX12_readNext 167 = .ok (.iastore, 1) from by decide +kernel) rfl ?_
        exact sr_vreturn C _ rfl (show decode cX12_readNext 168 = .ok (.return_, 1) from by decide +kernel)
      · refine sr_aload_n (i := 0) (q := 136) C (show decode cX12_readNext 135 = .ok (.aload_n 0, 1) from by decide +kernel) rfl rfl rfl ?_
        refine sr_cVv (As := []) (st := []) (b := v0) (q := 139) C yvX12_readPerson ml_X12_224 (cnX12_readPerson (xo κ) v0 hv0) hv0 (by decide) rfl rfl rfl (by decide) (by decide) (Nat.le_of_ble_eq_true rfl) rfl (show decode cX12_readNext 136 = .ok (.invokevirtual 224, 3) from by decide +kernel) rfl (fun _ => ?_)
        refine sr_goto (q := 168) C (show decode cX12_readNext 139 = .ok (.goto 29, 3) from by decide +kernel) (by decide) ?_
        exact sr_vreturn C _ rfl (show decode cX12_readNext 168 = .ok (.return_, 1) from by decide +kernel)
    · refine sr_aload_n (i := 0) (q := 120) C (show decode cX12_readNext 119 = .ok (.aload_n 0, 1) from by decide +kernel) rfl rfl rfl ?_
      refine sr_cVv (As := []) (st := []) (b := v0) (q := 123) C yvX12_readStone ml_X12_221 (cnX12_readStone (xo κ) v0 hv0) hv0 (by decide) rfl rfl rfl (by decide) (by decide) (Nat.le_of_ble_eq_true rfl) rfl (show decode cX12_readNext 120 = .ok (.invokevirtual 221, 3) from by decide +kernel) rfl (fun _ => ?_)
      refine sr_goto (q := 168) C (show decode cX12_readNext 123 = .ok (.goto 45, 3) from by decide +kernel) (by decide) ?_
      exact sr_vreturn C _ rfl (show decode cX12_readNext 168 = .ok (.return_, 1) from by decide +kernel)
  · exact sr_vreturn C _ rfl (show decode cX12_readNext 109 = .ok (.return_, 1) from by decide +kernel)
def fnX12_readNext_J97 (v0 : Nat) : sm_M Unit := m_bnd (fnX12_errs v0 (3 : Int32)) fun _ => fnX12_readNext_J102 v0
set_option maxHeartbeats 4000000 in
set_option maxRecDepth 100000 in
theorem slX12_readNext_J97 {κ : sm_X} (C : sm_C κ RX12 cX12_readNext 1 10) (v0 : Nat) (hv0 : kd v0 = 12) : sm_S κ (fun _ : Unit => .inr none) (.inl (97, [some (xad κ v0)], [])) (fnX12_readNext_J97 v0) := by
  unfold fnX12_readNext_J97
  refine sr_aload_n (i := 0) (q := 98) C (show decode cX12_readNext 97 = .ok (.aload_n 0, 1) from by decide +kernel) rfl rfl rfl ?_
  refine sr_iconst (v := (3 : Int32)) (q := 99) C (show decode cX12_readNext 98 = .ok (.iconst 3, 1) from by decide +kernel) (by decide) rfl ?_
  refine sr_cVv (As := [.int (3 : Int32)]) (st := []) (b := v0) (q := 102) C yvX12_errs ml_X12_178 (cnX12_errs (xo κ) v0 (3 : Int32) hv0) hv0 (by decide) rfl rfl rfl (by decide) (by decide) (Nat.le_of_ble_eq_true rfl) rfl (show decode cX12_readNext 99 = .ok (.invokevirtual 178, 3) from by decide +kernel) rfl (fun _ => ?_)
  exact slX12_readNext_J102 C v0 hv0
def fnX12_readNext_J77 (v0 : Nat) : sm_M Unit := m_bnd (fnX12_is v0 8) fun x80 => m_br ((bI x80) = 0)
    (fnX12_readNext_J102 v0)
    (m_ai (lk v0 14) (4 : Int32) fun x91 => m_br (x91 = (8 : Int32))
    (fnX12_readNext_J97 v0)
    (fnX12_readNext_J102 v0))
set_option maxHeartbeats 4000000 in
set_option maxRecDepth 100000 in
theorem slX12_readNext_J77 {κ : sm_X} (C : sm_C κ RX12 cX12_readNext 1 10) (v0 : Nat) (hv0 : kd v0 = 12) : sm_S κ (fun _ : Unit => .inr none) (.inl (77, [some (xad κ v0)], [])) (fnX12_readNext_J77 v0) := by
  unfold fnX12_readNext_J77
  refine sr_aload_n (i := 0) (q := 78) C (show decode cX12_readNext 77 = .ok (.aload_n 0, 1) from by decide +kernel) rfl rfl rfl ?_
  refine sr_ldcS (i := 8) (q := 80) C sc_X12_217 (show decode cX12_readNext 78 = .ok (.ldc 217, 2) from by decide +kernel) rfl ?_
  refine sr_cVz (As := [xst κ 8]) (st := []) (b := v0) (q := 83) C yvX12_is ml_X12_168 (cnX12_is (xo κ) v0 8 hv0 (by decide)) hv0 (by decide) rfl rfl rfl (by decide) (by decide) (Nat.le_of_ble_eq_true rfl) rfl (show decode cX12_readNext 80 = .ok (.invokevirtual 168, 3) from by decide +kernel) rfl (fun x80 => ?_)
  refine sr_if_eq (q := 86) C 102 (show decode cX12_readNext 83 = .ok (.ifCond .eq 19, 3) from by decide +kernel) (by decide) rfl ?_ ?_
  · exact slX12_readNext_J102 C v0 hv0
  · refine sr_aload_n (i := 0) (q := 87) C (show decode cX12_readNext 86 = .ok (.aload_n 0, 1) from by decide +kernel) rfl rfl rfl ?_
    refine sr_getr (q := 90) C fl_X12_31 hv0 (show decode cX12_readNext 87 = .ok (.getfield 31, 3) from by decide +kernel) rfl ?_
    refine sr_iconst (v := (4 : Int32)) (q := 91) C (show decode cX12_readNext 90 = .ok (.iconst 4, 1) from by decide +kernel) (by decide) rfl ?_
    refine sr_iaload (q := 92) C (kt hv0 kp_12_14) (show decode cX12_readNext 91 = .ok (.iaload, 1) from by decide +kernel) rfl (fun x91 => ?_)
    refine sr_bipush (v := (8 : Int32)) (q := 94) C (show decode cX12_readNext 92 = .ok (.bipush 8, 2) from by decide +kernel) (by decide) rfl ?_
    refine sr_icmp_ne (q := 97) C 102 (show decode cX12_readNext 94 = .ok (.if_icmp .ne 8, 3) from by decide +kernel) (by decide) rfl ?_ ?_
    · exact slX12_readNext_J102 C v0 hv0
    · exact slX12_readNext_J97 C v0 hv0
def fnX12_readNext_J57 (v0 : Nat) : sm_M Unit := m_bnd (fnX12_is v0 3) fun x60 => m_br ((bI x60) = 0)
    (fnX12_readNext_J77 v0)
    (m_ai (lk v0 14) (3 : Int32) fun x71 => m_br (x71 = (24 : Int32))
    (fnX12_readNext_J97 v0)
    (fnX12_readNext_J77 v0))
set_option maxHeartbeats 4000000 in
set_option maxRecDepth 100000 in
theorem slX12_readNext_J57 {κ : sm_X} (C : sm_C κ RX12 cX12_readNext 1 10) (v0 : Nat) (hv0 : kd v0 = 12) : sm_S κ (fun _ : Unit => .inr none) (.inl (57, [some (xad κ v0)], [])) (fnX12_readNext_J57 v0) := by
  unfold fnX12_readNext_J57
  refine sr_aload_n (i := 0) (q := 58) C (show decode cX12_readNext 57 = .ok (.aload_n 0, 1) from by decide +kernel) rfl rfl rfl ?_
  refine sr_ldcS (i := 3) (q := 60) C sc_X12_215 (show decode cX12_readNext 58 = .ok (.ldc 215, 2) from by decide +kernel) rfl ?_
  refine sr_cVz (As := [xst κ 3]) (st := []) (b := v0) (q := 63) C yvX12_is ml_X12_168 (cnX12_is (xo κ) v0 3 hv0 (by decide)) hv0 (by decide) rfl rfl rfl (by decide) (by decide) (Nat.le_of_ble_eq_true rfl) rfl (show decode cX12_readNext 60 = .ok (.invokevirtual 168, 3) from by decide +kernel) rfl (fun x60 => ?_)
  refine sr_if_eq (q := 66) C 77 (show decode cX12_readNext 63 = .ok (.ifCond .eq 14, 3) from by decide +kernel) (by decide) rfl ?_ ?_
  · exact slX12_readNext_J77 C v0 hv0
  · refine sr_aload_n (i := 0) (q := 67) C (show decode cX12_readNext 66 = .ok (.aload_n 0, 1) from by decide +kernel) rfl rfl rfl ?_
    refine sr_getr (q := 70) C fl_X12_31 hv0 (show decode cX12_readNext 67 = .ok (.getfield 31, 3) from by decide +kernel) rfl ?_
    refine sr_iconst (v := (3 : Int32)) (q := 71) C (show decode cX12_readNext 70 = .ok (.iconst 3, 1) from by decide +kernel) (by decide) rfl ?_
    refine sr_iaload (q := 72) C (kt hv0 kp_12_14) (show decode cX12_readNext 71 = .ok (.iaload, 1) from by decide +kernel) rfl (fun x71 => ?_)
    refine sr_bipush (v := (24 : Int32)) (q := 74) C (show decode cX12_readNext 72 = .ok (.bipush 24, 2) from by decide +kernel) (by decide) rfl ?_
    refine sr_icmp_eq (q := 77) C 97 (show decode cX12_readNext 74 = .ok (.if_icmp .eq 23, 3) from by decide +kernel) (by decide) rfl ?_ ?_
    · exact slX12_readNext_J97 C v0 hv0
    · exact slX12_readNext_J77 C v0 hv0
def fnX12_readNext_J32 (v0 : Nat) : sm_M Unit := m_bnd (fnX12_is v0 15) fun x35 => m_br ((bI x35) = 0)
    (fnX12_readNext_J57 v0)
    (m_ai (lk v0 14) (8 : Int32) fun x47 => m_br (x47 = (1 : Int32))
    (m_bnd (fnX12_errs v0 (2 : Int32)) fun _ => fnX12_readNext_J57 v0)
    (fnX12_readNext_J57 v0))
set_option maxHeartbeats 4000000 in
set_option maxRecDepth 100000 in
theorem slX12_readNext_J32 {κ : sm_X} (C : sm_C κ RX12 cX12_readNext 1 10) (v0 : Nat) (hv0 : kd v0 = 12) : sm_S κ (fun _ : Unit => .inr none) (.inl (32, [some (xad κ v0)], [])) (fnX12_readNext_J32 v0) := by
  unfold fnX12_readNext_J32
  refine sr_aload_n (i := 0) (q := 33) C (show decode cX12_readNext 32 = .ok (.aload_n 0, 1) from by decide +kernel) rfl rfl rfl ?_
  refine sr_ldcS (i := 15) (q := 35) C sc_X12_219 (show decode cX12_readNext 33 = .ok (.ldc 219, 2) from by decide +kernel) rfl ?_
  refine sr_cVz (As := [xst κ 15]) (st := []) (b := v0) (q := 38) C yvX12_is ml_X12_168 (cnX12_is (xo κ) v0 15 hv0 (by decide)) hv0 (by decide) rfl rfl rfl (by decide) (by decide) (Nat.le_of_ble_eq_true rfl) rfl (show decode cX12_readNext 35 = .ok (.invokevirtual 168, 3) from by decide +kernel) rfl (fun x35 => ?_)
  refine sr_if_eq (q := 41) C 57 (show decode cX12_readNext 38 = .ok (.ifCond .eq 19, 3) from by decide +kernel) (by decide) rfl ?_ ?_
  · exact slX12_readNext_J57 C v0 hv0
  · refine sr_aload_n (i := 0) (q := 42) C (show decode cX12_readNext 41 = .ok (.aload_n 0, 1) from by decide +kernel) rfl rfl rfl ?_
    refine sr_getr (q := 45) C fl_X12_31 hv0 (show decode cX12_readNext 42 = .ok (.getfield 31, 3) from by decide +kernel) rfl ?_
    refine sr_bipush (v := (8 : Int32)) (q := 47) C (show decode cX12_readNext 45 = .ok (.bipush 8, 2) from by decide +kernel) (by decide) rfl ?_
    refine sr_iaload (q := 48) C (kt hv0 kp_12_14) (show decode cX12_readNext 47 = .ok (.iaload, 1) from by decide +kernel) rfl (fun x47 => ?_)
    refine sr_iconst (v := (1 : Int32)) (q := 49) C (show decode cX12_readNext 48 = .ok (.iconst 1, 1) from by decide +kernel) (by decide) rfl ?_
    refine sr_icmp_ne (q := 52) C 57 (show decode cX12_readNext 49 = .ok (.if_icmp .ne 8, 3) from by decide +kernel) (by decide) rfl ?_ ?_
    · exact slX12_readNext_J57 C v0 hv0
    · refine sr_aload_n (i := 0) (q := 53) C (show decode cX12_readNext 52 = .ok (.aload_n 0, 1) from by decide +kernel) rfl rfl rfl ?_
      refine sr_iconst (v := (2 : Int32)) (q := 54) C (show decode cX12_readNext 53 = .ok (.iconst 2, 1) from by decide +kernel) (by decide) rfl ?_
      refine sr_cVv (As := [.int (2 : Int32)]) (st := []) (b := v0) (q := 57) C yvX12_errs ml_X12_178 (cnX12_errs (xo κ) v0 (2 : Int32) hv0) hv0 (by decide) rfl rfl rfl (by decide) (by decide) (Nat.le_of_ble_eq_true rfl) rfl (show decode cX12_readNext 54 = .ok (.invokevirtual 178, 3) from by decide +kernel) rfl (fun _ => ?_)
      exact slX12_readNext_J57 C v0 hv0
def fnX12_readNext (v0 : Nat) : sm_M Unit := m_bnd (fnX12_is v0 3) fun x3 => m_br ((bI x3) = 0)
    (m_bnd (fnX12_is v0 8) fun x12 => m_br ((bI x12) = 0)
    (m_bnd (fnX12_is v0 15) fun x21 => m_br ((bI x21) = 0)
    (m_bnd (fnX12_errs v0 (1 : Int32)) fun _ => fnX12_readNext_J32 v0)
    (fnX12_readNext_J32 v0))
    (fnX12_readNext_J32 v0))
    (fnX12_readNext_J32 v0)
set_option maxHeartbeats 4000000 in
set_option maxRecDepth 100000 in
theorem slX12_readNext {κ : sm_X} (C : sm_C κ RX12 cX12_readNext 1 10) (v0 : Nat) (hv0 : kd v0 = 12) : sm_S κ (fun _ : Unit => .inr none) (.inl (0, [some (xad κ v0)], [])) (fnX12_readNext v0) := by
  unfold fnX12_readNext
  refine sr_aload_n (i := 0) (q := 1) C (show decode cX12_readNext 0 = .ok (.aload_n 0, 1) from by decide +kernel) rfl rfl rfl ?_
  refine sr_ldcS (i := 3) (q := 3) C sc_X12_215 (show decode cX12_readNext 1 = .ok (.ldc 215, 2) from by decide +kernel) rfl ?_
  refine sr_cVz (As := [xst κ 3]) (st := []) (b := v0) (q := 6) C yvX12_is ml_X12_168 (cnX12_is (xo κ) v0 3 hv0 (by decide)) hv0 (by decide) rfl rfl rfl (by decide) (by decide) (Nat.le_of_ble_eq_true rfl) rfl (show decode cX12_readNext 3 = .ok (.invokevirtual 168, 3) from by decide +kernel) rfl (fun x3 => ?_)
  refine sr_if_ne (q := 9) C 32 (show decode cX12_readNext 6 = .ok (.ifCond .ne 26, 3) from by decide +kernel) (by decide) rfl ?_ ?_
  · exact slX12_readNext_J32 C v0 hv0
  · refine sr_aload_n (i := 0) (q := 10) C (show decode cX12_readNext 9 = .ok (.aload_n 0, 1) from by decide +kernel) rfl rfl rfl ?_
    refine sr_ldcS (i := 8) (q := 12) C sc_X12_217 (show decode cX12_readNext 10 = .ok (.ldc 217, 2) from by decide +kernel) rfl ?_
    refine sr_cVz (As := [xst κ 8]) (st := []) (b := v0) (q := 15) C yvX12_is ml_X12_168 (cnX12_is (xo κ) v0 8 hv0 (by decide)) hv0 (by decide) rfl rfl rfl (by decide) (by decide) (Nat.le_of_ble_eq_true rfl) rfl (show decode cX12_readNext 12 = .ok (.invokevirtual 168, 3) from by decide +kernel) rfl (fun x12 => ?_)
    refine sr_if_ne (q := 18) C 32 (show decode cX12_readNext 15 = .ok (.ifCond .ne 17, 3) from by decide +kernel) (by decide) rfl ?_ ?_
    · exact slX12_readNext_J32 C v0 hv0
    · refine sr_aload_n (i := 0) (q := 19) C (show decode cX12_readNext 18 = .ok (.aload_n 0, 1) from by decide +kernel) rfl rfl rfl ?_
      refine sr_ldcS (i := 15) (q := 21) C sc_X12_219 (show decode cX12_readNext 19 = .ok (.ldc 219, 2) from by decide +kernel) rfl ?_
      refine sr_cVz (As := [xst κ 15]) (st := []) (b := v0) (q := 24) C yvX12_is ml_X12_168 (cnX12_is (xo κ) v0 15 hv0 (by decide)) hv0 (by decide) rfl rfl rfl (by decide) (by decide) (Nat.le_of_ble_eq_true rfl) rfl (show decode cX12_readNext 21 = .ok (.invokevirtual 168, 3) from by decide +kernel) rfl (fun x21 => ?_)
      refine sr_if_ne (q := 27) C 32 (show decode cX12_readNext 24 = .ok (.ifCond .ne 8, 3) from by decide +kernel) (by decide) rfl ?_ ?_
      · exact slX12_readNext_J32 C v0 hv0
      · refine sr_aload_n (i := 0) (q := 28) C (show decode cX12_readNext 27 = .ok (.aload_n 0, 1) from by decide +kernel) rfl rfl rfl ?_
        refine sr_iconst (v := (1 : Int32)) (q := 29) C (show decode cX12_readNext 28 = .ok (.iconst 1, 1) from by decide +kernel) (by decide) rfl ?_
        refine sr_cVv (As := [.int (1 : Int32)]) (st := []) (b := v0) (q := 32) C yvX12_errs ml_X12_178 (cnX12_errs (xo κ) v0 (1 : Int32) hv0) hv0 (by decide) rfl rfl rfl (by decide) (by decide) (Nat.le_of_ble_eq_true rfl) rfl (show decode cX12_readNext 29 = .ok (.invokevirtual 178, 3) from by decide +kernel) rfl (fun _ => ?_)
        exact slX12_readNext_J32 C v0 hv0
theorem cnX12_readNext (ω : sm_O) (v0 : Nat) (hv0 : kd v0 = 12) : sm_Mt 10 yX12_readNext cX12_readNext 1 none ω [.ref (ω.1 + v0)] (fun _ => none) (fnX12_readNext v0) := by
  refine sm_conV (by decide) (Nat.le_of_ble_eq_true rfl) ?_
  intro κ hκ C
  subst hκ
  exact slX12_readNext C v0 hv0
