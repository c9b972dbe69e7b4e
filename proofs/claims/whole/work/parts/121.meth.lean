def fnX12_runOf_J95 (v0 : Nat) : sm_M Int32 := m_bnd (fnX12_mustAndNot v0) fun x97 => m_si v0 25 x97 <| m_bnd (fnX12_wakes v0) fun _ => m_gi v0 22 fun x108 => m_ret x108
set_option maxHeartbeats 4000000 in
set_option maxRecDepth 100000 in
theorem slX12_runOf_J95 {κ : sm_X} (C : sm_C κ RX12 cX12_runOf 6 9) (v0 : Nat) (hv0 : kd v0 = 12) : sm_S κ (fun r : Int32 => .inr (some (.int r))) (.inl (95, [some (xad κ v0), none, none, none, none, none], [])) (fnX12_runOf_J95 v0) := by
  unfold fnX12_runOf_J95
  refine sr_aload_n (i := 0) (q := 96) C (show decode cX12_runOf 95 = .ok (.aload_n 0, 1) from by decide +kernel) rfl rfl rfl ?_
  refine sr_aload_n (i := 0) (q := 97) C (show decode cX12_runOf 96 = .ok (.aload_n 0, 1) from by decide +kernel) rfl rfl rfl ?_
  refine sr_cVi (As := []) (st := [xad κ v0]) (b := v0) (q := 100) C yvX12_mustAndNot ml_X12_402 (cnX12_mustAndNot (xo κ) v0 hv0) hv0 (by decide) rfl rfl rfl (by decide) (by decide) (Nat.le_of_ble_eq_true rfl) rfl (show decode cX12_runOf 97 = .ok (.invokevirtual 402, 3) from by decide +kernel) rfl (fun x97 => ?_)
  refine sr_puti (q := 103) C fp_X12_381 hv0 (show decode cX12_runOf 100 = .ok (.putfield 381, 3) from by decide +kernel) rfl ?_
  refine sr_aload_n (i := 0) (q := 104) C (show decode cX12_runOf 103 = .ok (.aload_n 0, 1) from by decide +kernel) rfl rfl rfl ?_
  refine sr_cVv (As := []) (st := []) (b := v0) (q := 107) C yvX12_wakes ml_X12_345 (cnX12_wakes (xo κ) v0 hv0) hv0 (by decide) rfl rfl rfl (by decide) (by decide) (Nat.le_of_ble_eq_true rfl) rfl (show decode cX12_runOf 104 = .ok (.invokevirtual 345, 3) from by decide +kernel) rfl (fun _ => ?_)
  refine sr_aload_n (i := 0) (q := 108) C (show decode cX12_runOf 107 = .ok (.aload_n 0, 1) from by decide +kernel) rfl rfl rfl ?_
  refine sr_geti (q := 111) C fl_X12_372 (Or.inl rfl) hv0 (show decode cX12_runOf 108 = .ok (.getfield 372, 3) from by decide +kernel) rfl (fun x108 => ?_)
  exact sr_ireturn C _ rfl (show decode cX12_runOf 111 = .ok (.ireturn, 1) from by decide +kernel)
def fnX12_runOf_L71 : Nat → Nat → Int32 → Int32 → Int32 → sm_M Int32
  | 0, _, _, _, _ => m_fail
  | n + 1, v0, v3, v4, v5 => m_bnd (fnX12_units v0) fun x74 => m_br (x74 ≤ v5)
    (fnX12_runOf_J95 v0)
    (m_bnd (fnX12_ventures v0 v5 v3 v4) fun _ => (fnX12_runOf_L71 n) v0 v3 v4 (v5 + (1 : Int32)))
set_option maxHeartbeats 4000000 in
set_option maxRecDepth 100000 in
theorem slX12_runOf_L71 {κ : sm_X} (C : sm_C κ RX12 cX12_runOf 6 9) : ∀ (n : Nat) (v0 : Nat) (v3 : Int32) (v4 : Int32) (v5 : Int32) (hv0 : kd v0 = 12), sm_S κ (fun r : Int32 => .inr (some (.int r))) (.inl (71, [some (xad κ v0), none, none, some (.int v3), some (.int v4), some (.int v5)], [])) (fnX12_runOf_L71 n v0 v3 v4 v5) := by
  intro n
  induction n with
  | zero =>
    intros
    exact sr_fail
  | succ n K71 =>
    intro v0 v3 v4 v5 hv0
    unfold fnX12_runOf_L71
    refine sr_iload (i := 5) (q := 73) C (show decode cX12_runOf 71 = .ok (.iload 5, 2) from by decide +kernel) rfl rfl ?_
    refine sr_aload_n (i := 0) (q := 74) C (show decode cX12_runOf 73 = .ok (.aload_n 0, 1) from by decide +kernel) rfl rfl rfl ?_
    refine sr_cVi (As := []) (st := [.int v5]) (b := v0) (q := 77) C yvX12_units ml_X12_393 (cnX12_units (xo κ) v0 hv0) hv0 (by decide) rfl rfl rfl (by decide) (by decide) (Nat.le_of_ble_eq_true rfl) rfl (show decode cX12_runOf 74 = .ok (.invokevirtual 393, 3) from by decide +kernel) rfl (fun x74 => ?_)
    refine sr_icmp_ge (q := 80) C 95 (show decode cX12_runOf 77 = .ok (.if_icmp .ge 18, 3) from by decide +kernel) (by decide) rfl ?_ ?_
    · refine sr_weak (L' := [some (xad κ v0), none, none, none, none, none]) ⟨rfl, trivial⟩ ?_
      exact slX12_runOf_J95 C v0 hv0
    · refine sr_aload_n (i := 0) (q := 81) C (show decode cX12_runOf 80 = .ok (.aload_n 0, 1) from by decide +kernel) rfl rfl rfl ?_
      refine sr_iload (i := 5) (q := 83) C (show decode cX12_runOf 81 = .ok (.iload 5, 2) from by decide +kernel) rfl rfl ?_
      refine sr_iload_n (i := 3) (q := 84) C (show decode cX12_runOf 83 = .ok (.iload_n 3, 1) from by decide +kernel) rfl rfl rfl ?_
      refine sr_iload (i := 4) (q := 86) C (show decode cX12_runOf 84 = .ok (.iload 4, 2) from by decide +kernel) rfl rfl ?_
      refine sr_cVv (As := [.int v5, .int v3, .int v4]) (st := []) (b := v0) (q := 89) C yvX12_ventures ml_X12_535 (cnX12_ventures (xo κ) v0 v5 v3 v4 hv0) hv0 (by decide) rfl rfl rfl (by decide) (by decide) (Nat.le_of_ble_eq_true rfl) rfl (show decode cX12_runOf 86 = .ok (.invokevirtual 535, 3) from by decide +kernel) rfl (fun _ => ?_)
      refine sr_iinc (v := v5 + (1 : Int32)) (L' := [some (xad κ v0), none, none, some (.int v3), some (.int v4), some (.int (v5 + (1 : Int32)))]) (q := 92) C (show decode cX12_runOf 89 = .ok (.iinc 5 1, 3) from by decide +kernel) rfl rfl (by decide) rfl rfl ?_
      refine sr_goto (q := 71) C (show decode cX12_runOf 92 = .ok (.goto (-21), 3) from by decide +kernel) (by decide) ?_
      exact K71 v0 v3 v4 (v5 + (1 : Int32)) hv0
def fnX12_runOf_J60 (v0 : Nat) (v3 : Int32) (v4 : Int32) : sm_M Int32 := m_bnd (fnX12_thinks v0) fun _ => m_bnd (fnX12_clearsOver v0) fun _ => fnX12_runOf_L71 4096 v0 v3 v4 (0 : Int32)
set_option maxHeartbeats 4000000 in
set_option maxRecDepth 100000 in
theorem slX12_runOf_J60 {κ : sm_X} (C : sm_C κ RX12 cX12_runOf 6 9) (v0 : Nat) (v3 : Int32) (v4 : Int32) (hv0 : kd v0 = 12) : sm_S κ (fun r : Int32 => .inr (some (.int r))) (.inl (60, [some (xad κ v0), none, none, some (.int v3), some (.int v4), none], [])) (fnX12_runOf_J60 v0 v3 v4) := by
  unfold fnX12_runOf_J60
  refine sr_aload_n (i := 0) (q := 61) C (show decode cX12_runOf 60 = .ok (.aload_n 0, 1) from by decide +kernel) rfl rfl rfl ?_
  refine sr_cVv (As := []) (st := []) (b := v0) (q := 64) C yvX12_thinks ml_X12_339 (cnX12_thinks (xo κ) v0 hv0) hv0 (by decide) rfl rfl rfl (by decide) (by decide) (Nat.le_of_ble_eq_true rfl) rfl (show decode cX12_runOf 61 = .ok (.invokevirtual 339, 3) from by decide +kernel) rfl (fun _ => ?_)
  refine sr_aload_n (i := 0) (q := 65) C (show decode cX12_runOf 64 = .ok (.aload_n 0, 1) from by decide +kernel) rfl rfl rfl ?_
  refine sr_cVv (As := []) (st := []) (b := v0) (q := 68) C yvX12_clearsOver ml_X12_390 (cnX12_clearsOver (xo κ) v0 hv0) hv0 (by decide) rfl rfl rfl (by decide) (by decide) (Nat.le_of_ble_eq_true rfl) rfl (show decode cX12_runOf 65 = .ok (.invokevirtual 390, 3) from by decide +kernel) rfl (fun _ => ?_)
  refine sr_iconst (v := (0 : Int32)) (q := 69) C (show decode cX12_runOf 68 = .ok (.iconst 0, 1) from by decide +kernel) (by decide) rfl ?_
  refine sr_istore (i := 5) (L' := [some (xad κ v0), none, none, some (.int v3), some (.int v4), some (.int (0 : Int32))]) (q := 71) C (show decode cX12_runOf 69 = .ok (.istore 5, 2) from by decide +kernel) (by decide) rfl rfl ?_
  exact slX12_runOf_L71 C 4096 v0 v3 v4 (0 : Int32) hv0
def fnX12_runOf_J54 (k11 : Nat → Int32 → Int32 → Int32 → sm_M Int32) (v0 : Nat) (v3 : Int32) (v4 : Int32) (v5 : Int32) : sm_M Int32 := k11 v0 v3 v4 (v5 + (1 : Int32))
set_option maxHeartbeats 4000000 in
set_option maxRecDepth 100000 in
theorem slX12_runOf_J54 {κ : sm_X} (C : sm_C κ RX12 cX12_runOf 6 9) {k11 : Nat → Int32 → Int32 → Int32 → sm_M Int32} (K11 : ∀ (v0 : Nat) (v3 : Int32) (v4 : Int32) (v5 : Int32) (hv0 : kd v0 = 12), sm_S κ (fun r : Int32 => .inr (some (.int r))) (.inl (11, [some (xad κ v0), none, none, some (.int v3), some (.int v4), some (.int v5)], [])) (k11 v0 v3 v4 v5)) (v0 : Nat) (v3 : Int32) (v4 : Int32) (v5 : Int32) (hv0 : kd v0 = 12) : sm_S κ (fun r : Int32 => .inr (some (.int r))) (.inl (54, [some (xad κ v0), none, none, some (.int v3), some (.int v4), some (.int v5)], [])) (fnX12_runOf_J54 k11 v0 v3 v4 v5) := by
  unfold fnX12_runOf_J54
  refine sr_iinc (v := v5 + (1 : Int32)) (L' := [some (xad κ v0), none, none, some (.int v3), some (.int v4), some (.int (v5 + (1 : Int32)))]) (q := 57) C (show decode cX12_runOf 54 = .ok (.iinc 5 1, 3) from by decide +kernel) rfl rfl (by decide) rfl rfl ?_
  refine sr_goto (q := 11) C (show decode cX12_runOf 57 = .ok (.goto (-46), 3) from by decide +kernel) (by decide) ?_
  exact K11 v0 v3 v4 (v5 + (1 : Int32)) hv0
def fnX12_runOf_L11 : Nat → Nat → Int32 → Int32 → Int32 → sm_M Int32
  | 0, _, _, _, _ => m_fail
  | n + 1, v0, v3, v4, v5 => m_ai (lk v0 1) (3 : Int32) fun x18 => m_br (x18 ≤ v5)
    (fnX12_runOf_J60 v0 v3 v4)
    (m_bnd (fnX12_isInDoubt v0 v5) fun x25 => m_br ((bI x25) = 0)
    (fnX12_runOf_J54 (fnX12_runOf_L11 n) v0 v3 v4 v5)
    (m_bnd (fnX12_draw v0) fun x32 => m_bnd (fnX12_ofStone v0 v5 (4 : Int32)) fun x39 => m_br (x39 ≤ x32)
    (fnX12_runOf_J54 (fnX12_runOf_L11 n) v0 v3 v4 v5)
    (m_nm (v4 ||| ((1 : Int32) <<< (v5 &&& 31))) fun y52 => fnX12_runOf_J54 (fnX12_runOf_L11 n) v0 v3 y52 v5)))
set_option maxHeartbeats 4000000 in
set_option maxRecDepth 100000 in
theorem slX12_runOf_L11 {κ : sm_X} (C : sm_C κ RX12 cX12_runOf 6 9) : ∀ (n : Nat) (v0 : Nat) (v3 : Int32) (v4 : Int32) (v5 : Int32) (hv0 : kd v0 = 12), sm_S κ (fun r : Int32 => .inr (some (.int r))) (.inl (11, [some (xad κ v0), none, none, some (.int v3), some (.int v4), some (.int v5)], [])) (fnX12_runOf_L11 n v0 v3 v4 v5) := by
  intro n
  induction n with
  | zero =>
    intros
    exact sr_fail
  | succ n K11 =>
    intro v0 v3 v4 v5 hv0
    unfold fnX12_runOf_L11
    refine sr_iload (i := 5) (q := 13) C (show decode cX12_runOf 11 = .ok (.iload 5, 2) from by decide +kernel) rfl rfl ?_
    refine sr_aload_n (i := 0) (q := 14) C (show decode cX12_runOf 13 = .ok (.aload_n 0, 1) from by decide +kernel) rfl rfl rfl ?_
    refine sr_getr (q := 17) C fl_X12_9 hv0 (show decode cX12_runOf 14 = .ok (.getfield 9, 3) from by decide +kernel) rfl ?_
    refine sr_iconst (v := (3 : Int32)) (q := 18) C (show decode cX12_runOf 17 = .ok (.iconst 3, 1) from by decide +kernel) (by decide) rfl ?_
    refine sr_iaload (q := 19) C (kt hv0 kp_12_1) (show decode cX12_runOf 18 = .ok (.iaload, 1) from by decide +kernel) rfl (fun x18 => ?_)
    refine sr_icmp_ge (q := 22) C 60 (show decode cX12_runOf 19 = .ok (.if_icmp .ge 41, 3) from by decide +kernel) (by decide) rfl ?_ ?_
    · refine sr_weak (L' := [some (xad κ v0), none, none, some (.int v3), some (.int v4), none]) ⟨rfl, rfl, rfl, trivial⟩ ?_
      exact slX12_runOf_J60 C v0 v3 v4 hv0
    · refine sr_aload_n (i := 0) (q := 23) C (show decode cX12_runOf 22 = .ok (.aload_n 0, 1) from by decide +kernel) rfl rfl rfl ?_
      refine sr_iload (i := 5) (q := 25) C (show decode cX12_runOf 23 = .ok (.iload 5, 2) from by decide +kernel) rfl rfl ?_
      refine sr_cVz (As := [.int v5]) (st := []) (b := v0) (q := 28) C yvX12_isInDoubt ml_X12_253 (cnX12_isInDoubt (xo κ) v0 v5 hv0) hv0 (by decide) rfl rfl rfl (by decide) (by decide) (Nat.le_of_ble_eq_true rfl) rfl (show decode cX12_runOf 25 = .ok (.invokevirtual 253, 3) from by decide +kernel) rfl (fun x25 => ?_)
      refine sr_if_eq (q := 31) C 54 (show decode cX12_runOf 28 = .ok (.ifCond .eq 26, 3) from by decide +kernel) (by decide) rfl ?_ ?_
      · exact slX12_runOf_J54 C K11 v0 v3 v4 v5 hv0
      · refine sr_aload_n (i := 0) (q := 32) C (show decode cX12_runOf 31 = .ok (.aload_n 0, 1) from by decide +kernel) rfl rfl rfl ?_
        refine sr_cVi (As := []) (st := []) (b := v0) (q := 35) C yvX12_draw ml_X12_532 (cnX12_draw (xo κ) v0 hv0) hv0 (by decide) rfl rfl rfl (by decide) (by decide) (Nat.le_of_ble_eq_true rfl) rfl (show decode cX12_runOf 32 = .ok (.invokevirtual 532, 3) from by decide +kernel) rfl (fun x32 => ?_)
        refine sr_aload_n (i := 0) (q := 36) C (show decode cX12_runOf 35 = .ok (.aload_n 0, 1) from by decide +kernel) rfl rfl rfl ?_
        refine sr_iload (i := 5) (q := 38) C (show decode cX12_runOf 36 = .ok (.iload 5, 2) from by decide +kernel) rfl rfl ?_
        refine sr_iconst (v := (4 : Int32)) (q := 39) C (show decode cX12_runOf 38 = .ok (.iconst 4, 1) from by decide +kernel) (by decide) rfl ?_
        refine sr_cVi (As := [.int v5, .int (4 : Int32)]) (st := [.int x32]) (b := v0) (q := 42) C yvX12_ofStone ml_X12_239 (cnX12_ofStone (xo κ) v0 v5 (4 : Int32) hv0) hv0 (by decide) rfl rfl rfl (by decide) (by decide) (Nat.le_of_ble_eq_true rfl) rfl (show decode cX12_runOf 39 = .ok (.invokevirtual 239, 3) from by decide +kernel) rfl (fun x39 => ?_)
        refine sr_icmp_ge (q := 45) C 54 (show decode cX12_runOf 42 = .ok (.if_icmp .ge 12, 3) from by decide +kernel) (by decide) rfl ?_ ?_
        · exact slX12_runOf_J54 C K11 v0 v3 v4 v5 hv0
        · refine sr_iload (i := 4) (q := 47) C (show decode cX12_runOf 45 = .ok (.iload 4, 2) from by decide +kernel) rfl rfl ?_
          refine sr_iconst (v := (1 : Int32)) (q := 48) C (show decode cX12_runOf 47 = .ok (.iconst 1, 1) from by decide +kernel) (by decide) rfl ?_
          refine sr_iload (i := 5) (q := 50) C (show decode cX12_runOf 48 = .ok (.iload 5, 2) from by decide +kernel) rfl rfl ?_
          refine sr_ishl (q := 51) C (show decode cX12_runOf 50 = .ok (.ishl, 1) from by decide +kernel) rfl ?_
          refine sr_ior (q := 52) C (show decode cX12_runOf 51 = .ok (.ior, 1) from by decide +kernel) rfl ?_
          refine sr_nmi (fun y52 => ?_)
          refine sr_istore (i := 4) (L' := [some (xad κ v0), none, none, some (.int v3), some (.int y52), some (.int v5)]) (q := 54) C (show decode cX12_runOf 52 = .ok (.istore 4, 2) from by decide +kernel) (by decide) rfl rfl ?_
          exact slX12_runOf_J54 C K11 v0 v3 y52 v5 hv0
def fnX12_runOf (v0 : Nat) (v1 : Int64) (v3 : Int32) : sm_M Int32 := m_sl v0 42 v1 <| fnX12_runOf_L11 4096 v0 v3 (0 : Int32) (0 : Int32)
set_option maxHeartbeats 4000000 in
set_option maxRecDepth 100000 in
theorem slX12_runOf {κ : sm_X} (C : sm_C κ RX12 cX12_runOf 6 9) (v0 : Nat) (v1 : Int64) (v3 : Int32) (hv0 : kd v0 = 12) : sm_S κ (fun r : Int32 => .inr (some (.int r))) (.inl (0, [some (xad κ v0), some (.long v1), none, some (.int v3), none, none], [])) (fnX12_runOf v0 v1 v3) := by
  unfold fnX12_runOf
  refine sr_aload_n (i := 0) (q := 1) C (show decode cX12_runOf 0 = .ok (.aload_n 0, 1) from by decide +kernel) rfl rfl rfl ?_
  refine sr_lload_n (i := 1) (q := 2) C (show decode cX12_runOf 1 = .ok (.lload_n 1, 1) from by decide +kernel) rfl rfl rfl ?_
  refine sr_putl (q := 5) C fp_X12_522 hv0 (show decode cX12_runOf 2 = .ok (.putfield 522, 3) from by decide +kernel) rfl ?_
  refine sr_iconst (v := (0 : Int32)) (q := 6) C (show decode cX12_runOf 5 = .ok (.iconst 0, 1) from by decide +kernel) (by decide) rfl ?_
  refine sr_istore (i := 4) (L' := [some (xad κ v0), some (.long v1), none, some (.int v3), some (.int (0 : Int32)), none]) (q := 8) C (show decode cX12_runOf 6 = .ok (.istore 4, 2) from by decide +kernel) (by decide) rfl rfl ?_
  refine sr_iconst (v := (0 : Int32)) (q := 9) C (show decode cX12_runOf 8 = .ok (.iconst 0, 1) from by decide +kernel) (by decide) rfl ?_
  refine sr_istore (i := 5) (L' := [some (xad κ v0), some (.long v1), none, some (.int v3), some (.int (0 : Int32)), some (.int (0 : Int32))]) (q := 11) C (show decode cX12_runOf 9 = .ok (.istore 5, 2) from by decide +kernel) (by decide) rfl rfl ?_
  refine sr_weak (L' := [some (xad κ v0), none, none, some (.int v3), some (.int (0 : Int32)), some (.int (0 : Int32))]) ⟨rfl, rfl, rfl, rfl, trivial⟩ ?_
  exact slX12_runOf_L11 C 4096 v0 v3 (0 : Int32) (0 : Int32) hv0
theorem cnX12_runOf (ω : sm_O) (v0 : Nat) (v1 : Int64) (v3 : Int32) (hv0 : kd v0 = 12) : sm_Mt 9 yX12_runOf cX12_runOf 6 (some .int) ω [.ref (ω.1 + v0), .long v1, .int v3] (fun a => some (.int a)) (fnX12_runOf v0 v1 v3) := by
  refine sm_conI (r := fun a => a) (by decide) (fun _ => rfl) (Nat.le_of_ble_eq_true rfl) ?_
  intro κ hκ C
  subst hκ
  exact slX12_runOf C v0 v1 v3 hv0
set_option maxRecDepth 100000 in
theorem yvX12_runOf : sm_YV yX12_runOf cX12_runOf 6 (some .int) 2 := ⟨⟨lw_m (List.mem_of_getElem? (i := 2204) rfl) rfl, lw_m (List.mem_of_getElem? (i := 153) rfl) rfl, by decide +kernel, by decide +kernel, by decide +kernel⟩, lw_m (List.mem_of_getElem? (i := 2203) rfl) rfl, lw_m (List.mem_of_getElem? (i := 135) rfl) rfl⟩
def fnX12_run (v0 : Nat) (v1 : Int32) (v2 : Int32) : sm_M Int32 := m_bnd (fnX12_isSeed v1) fun x1 => m_br ((bI x1) = 0)
    (m_ret (-2 : Int32))
    (m_bnd (fnX12_isWay v0 v2) fun x9 => m_br ((bI x9) = 0)
    (m_ret (-2 : Int32))
    (m_bnd (fnX12_runOf v0 v1.toInt64 v2) fun x19 => m_ret x19))
set_option maxHeartbeats 4000000 in
set_option maxRecDepth 100000 in
theorem slX12_run {κ : sm_X} (C : sm_C κ RX12 cX12_run 3 10) (v0 : Nat) (v1 : Int32) (v2 : Int32) (hv0 : kd v0 = 12) : sm_S κ (fun r : Int32 => .inr (some (.int r))) (.inl (0, [some (xad κ v0), some (.int v1), some (.int v2)], [])) (fnX12_run v0 v1 v2) := by
  unfold fnX12_run
  refine sr_iload_n (i := 1) (q := 1) C (show decode cX12_run 0 = .ok (.iload_n 1, 1) from by decide +kernel) rfl rfl rfl ?_
  refine sr_cSz (As := [.int v1]) (st := []) (q := 4) C ysX12_isSeed ml_X12_540 (cnX12_isSeed (xo κ) v1) rfl (by decide) (by decide) (Nat.le_of_ble_eq_true rfl) rfl (show decode cX12_run 1 = .ok (.invokestatic 540, 3) from by decide +kernel) rfl (fun x1 => ?_)
  refine sr_if_eq (q := 7) C 25 (show decode cX12_run 4 = .ok (.ifCond .eq 21, 3) from by decide +kernel) (by decide) rfl ?_ ?_
  · refine sr_bipush (v := (-2 : Int32)) (q := 27) C (show decode cX12_run 25 = .ok (.bipush (-2), 2) from by decide +kernel) (by decide) rfl ?_
    exact sr_ireturn C _ rfl (show decode cX12_run 27 = .ok (.ireturn, 1) from by decide +kernel)
  · refine sr_aload_n (i := 0) (q := 8) C (show decode cX12_run 7 = .ok (.aload_n 0, 1) from by decide +kernel) rfl rfl rfl ?_
    refine sr_iload_n (i := 2) (q := 9) C (show decode cX12_run 8 = .ok (.iload_n 2, 1) from by decide +kernel) rfl rfl rfl ?_
    refine sr_cVz (As := [.int v2]) (st := []) (b := v0) (q := 12) C yvX12_isWay ml_X12_366 (cnX12_isWay (xo κ) v0 v2 hv0) hv0 (by decide) rfl rfl rfl (by decide) (by decide) (Nat.le_of_ble_eq_true rfl) rfl (show decode cX12_run 9 = .ok (.invokevirtual 366, 3) from by decide +kernel) rfl (fun x9 => ?_)
    refine sr_if_eq (q := 15) C 25 (show decode cX12_run 12 = .ok (.ifCond .eq 13, 3) from by decide +kernel) (by decide) rfl ?_ ?_
    · refine sr_bipush (v := (-2 : Int32)) (q := 27) C (show decode cX12_run 25 = .ok (.bipush (-2), 2) from by decide +kernel) (by decide) rfl ?_
      exact sr_ireturn C _ rfl (show decode cX12_run 27 = .ok (.ireturn, 1) from by decide +kernel)
    · refine sr_aload_n (i := 0) (q := 16) C (show decode cX12_run 15 = .ok (.aload_n 0, 1) from by decide +kernel) rfl rfl rfl ?_
      refine sr_iload_n (i := 1) (q := 17) C (show decode cX12_run 16 = .ok (.iload_n 1, 1) from by decide +kernel) rfl rfl rfl ?_
      refine sr_i2l (q := 18) C (show decode cX12_run 17 = .ok (.i2l, 1) from by decide +kernel) rfl ?_
      refine sr_iload_n (i := 2) (q := 19) C (show decode cX12_run 18 = .ok (.iload_n 2, 1) from by decide +kernel) rfl rfl rfl ?_
      refine sr_cVi (As := [.long v1.toInt64, .int v2]) (st := []) (b := v0) (q := 22) C yvX12_runOf ml_X12_543 (cnX12_runOf (xo κ) v0 v1.toInt64 v2 hv0) hv0 (by decide) rfl rfl rfl (by decide) (by decide) (Nat.le_of_ble_eq_true rfl) rfl (show decode cX12_run 19 = .ok (.invokevirtual 543, 3) from by decide +kernel) rfl (fun x19 => ?_)
      refine sr_goto (q := 27) C (show decode cX12_run 22 = .ok (.goto 5, 3) from by decide +kernel) (by decide) ?_
      exact sr_ireturn C _ rfl (show decode cX12_run 27 = .ok (.ireturn, 1) from by decide +kernel)
theorem cnX12_run (ω : sm_O) (v0 : Nat) (v1 : Int32) (v2 : Int32) (hv0 : kd v0 = 12) : sm_Mt 10 yX12_run cX12_run 3 (some .int) ω [.ref (ω.1 + v0), .int v1, .int v2] (fun a => some (.int a)) (fnX12_run v0 v1 v2) := by
  refine sm_conI (r := fun a => a) (by decide) (fun _ => rfl) (Nat.le_of_ble_eq_true rfl) ?_
  intro κ hκ C
  subst hκ
  exact slX12_run C v0 v1 v2 hv0
set_option maxRecDepth 100000 in
theorem yvX12_run : sm_YV yX12_run cX12_run 3 (some .int) 2 := ⟨⟨lw_m (List.mem_of_getElem? (i := 2196) rfl) rfl, lw_m (List.mem_of_getElem? (i := 153) rfl) rfl, by decide +kernel, by decide +kernel, by decide +kernel⟩, lw_m (List.mem_of_getElem? (i := 2194) rfl) rfl, lw_m (List.mem_of_getElem? (i := 2195) rfl) rfl⟩
def fnX12_runs_J115 (v4 : Int32) (v5 : Int32) (v6 : Int32) (v7 : Int32) : sm_M Int32 := m_br (v4 = 0)
    (m_ret v5)
    (m_br (v4 = (1 : Int32))
    (m_ret v6)
    (m_ret v7))
set_option maxHeartbeats 4000000 in
set_option maxRecDepth 100000 in
theorem slX12_runs_J115 {κ : sm_X} (C : sm_C κ RX12 cX12_runs 10 10) (v4 : Int32) (v5 : Int32) (v6 : Int32) (v7 : Int32)  : sm_S κ (fun r : Int32 => .inr (some (.int r))) (.inl (115, [none, none, none, none, some (.int v4), some (.int v5), some (.int v6), some (.int v7), none, none], [])) (fnX12_runs_J115 v4 v5 v6 v7) := by
  unfold fnX12_runs_J115
  refine sr_iload (i := 4) (q := 117) C (show decode cX12_runs 115 = .ok (.iload 4, 2) from by decide +kernel) rfl rfl ?_
  refine sr_if_ne (q := 120) C 125 (show decode cX12_runs 117 = .ok (.ifCond .ne 8, 3) from by decide +kernel) (by decide) rfl ?_ ?_
  · refine sr_iload (i := 4) (q := 127) C (show decode cX12_runs 125 = .ok (.iload 4, 2) from by decide +kernel) rfl rfl ?_
    refine sr_iconst (v := (1 : Int32)) (q := 128) C (show decode cX12_runs 127 = .ok (.iconst 1, 1) from by decide +kernel) (by decide) rfl ?_
    refine sr_icmp_ne (q := 131) C 136 (show decode cX12_runs 128 = .ok (.if_icmp .ne 8, 3) from by decide +kernel) (by decide) rfl ?_ ?_
    · refine sr_iload (i := 7) (q := 138) C (show decode cX12_runs 136 = .ok (.iload 7, 2) from by decide +kernel) rfl rfl ?_
      exact sr_ireturn C _ rfl (show decode cX12_runs 138 = .ok (.ireturn, 1) from by decide +kernel)
    · refine sr_iload (i := 6) (q := 133) C (show decode cX12_runs 131 = .ok (.iload 6, 2) from by decide +kernel) rfl rfl ?_
      refine sr_goto (q := 138) C (show decode cX12_runs 133 = .ok (.goto 5, 3) from by decide +kernel) (by decide) ?_
      exact sr_ireturn C _ rfl (show decode cX12_runs 138 = .ok (.ireturn, 1) from by decide +kernel)
  · refine sr_iload (i := 5) (q := 122) C (show decode cX12_runs 120 = .ok (.iload 5, 2) from by decide +kernel) rfl rfl ?_
    refine sr_goto (q := 138) C (show decode cX12_runs 122 = .ok (.goto 16, 3) from by decide +kernel) (by decide) ?_
    exact sr_ireturn C _ rfl (show decode cX12_runs 138 = .ok (.ireturn, 1) from by decide +kernel)
def fnX12_runs_J106 (k57 : Nat → Int32 → Int32 → Int32 → Int32 → Int32 → Int32 → Int32 → Int32 → sm_M Int32) (v0 : Nat) (v1 : Int32) (v2 : Int32) (v3 : Int32) (v4 : Int32) (v5 : Int32) (v6 : Int32) (v8 : Int32) (s0 : Int32) (s1 : Int32) : sm_M Int32 := m_nm (s1 + s0) fun y107 => k57 v0 v1 v2 v3 v4 v5 v6 y107 (v8 + (1 : Int32))
set_option maxHeartbeats 4000000 in
set_option maxRecDepth 100000 in
theorem slX12_runs_J106 {κ : sm_X} (C : sm_C κ RX12 cX12_runs 10 10) {k57 : Nat → Int32 → Int32 → Int32 → Int32 → Int32 → Int32 → Int32 → Int32 → sm_M Int32} (K57 : ∀ (v0 : Nat) (v1 : Int32) (v2 : Int32) (v3 : Int32) (v4 : Int32) (v5 : Int32) (v6 : Int32) (v7 : Int32) (v8 : Int32) (hv0 : kd v0 = 12), sm_S κ (fun r : Int32 => .inr (some (.int r))) (.inl (57, [some (xad κ v0), some (.int v1), some (.int v2), some (.int v3), some (.int v4), some (.int v5), some (.int v6), some (.int v7), some (.int v8), none], [])) (k57 v0 v1 v2 v3 v4 v5 v6 v7 v8)) (v0 : Nat) (v1 : Int32) (v2 : Int32) (v3 : Int32) (v4 : Int32) (v5 : Int32) (v6 : Int32) (v8 : Int32) (s0 : Int32) (s1 : Int32) (hv0 : kd v0 = 12) : sm_S κ (fun r : Int32 => .inr (some (.int r))) (.inl (106, [some (xad κ v0), some (.int v1), some (.int v2), some (.int v3), some (.int v4), some (.int v5), some (.int v6), none, some (.int v8), none], [.int s0, .int s1])) (fnX12_runs_J106 k57 v0 v1 v2 v3 v4 v5 v6 v8 s0 s1) := by
  unfold fnX12_runs_J106
  refine sr_iadd (q := 107) C (show decode cX12_runs 106 = .ok (.iadd, 1) from by decide +kernel) rfl ?_
  refine sr_nmi (fun y107 => ?_)
  refine sr_istore (i := 7) (L' := [some (xad κ v0), some (.int v1), some (.int v2), some (.int v3), some (.int v4), some (.int v5), some (.int v6), some (.int y107), some (.int v8), none]) (q := 109) C (show decode cX12_runs 107 = .ok (.istore 7, 2) from by decide +kernel) (by decide) rfl rfl ?_
  refine sr_iinc (v := v8 + (1 : Int32)) (L' := [some (xad κ v0), some (.int v1), some (.int v2), some (.int v3), some (.int v4), some (.int v5), some (.int v6), some (.int y107), some (.int (v8 + (1 : Int32))), none]) (q := 112) C (show decode cX12_runs 109 = .ok (.iinc 8 1, 3) from by decide +kernel) rfl rfl (by decide) rfl rfl ?_
  refine sr_goto (q := 57) C (show decode cX12_runs 112 = .ok (.goto (-55), 3) from by decide +kernel) (by decide) ?_
  exact K57 v0 v1 v2 v3 v4 v5 v6 y107 (v8 + (1 : Int32)) hv0
def fnX12_runs_L57 : Nat → Nat → Int32 → Int32 → Int32 → Int32 → Int32 → Int32 → Int32 → Int32 → sm_M Int32
  | 0, _, _, _, _, _, _, _, _, _ => m_fail
  | n + 1, v0, v1, v2, v3, v4, v5, v6, v7, v8 => m_br (v2 ≤ v8)
    (fnX12_runs_J115 v4 v5 v6 v7)
    (m_bnd (fnX12_runOf v0 (v1.toInt64 + v8.toInt64) v3) fun x71 => m_nm (v5 + x71) fun y81 => m_nm (jmin v6 x71) fun y90 => m_gi v0 25 fun x95 => m_br (x95 = 0)
    (fnX12_runs_J106 (fnX12_runs_L57 n) v0 v1 v2 v3 v4 y81 y90 v8 (1 : Int32) v7)
    (fnX12_runs_J106 (fnX12_runs_L57 n) v0 v1 v2 v3 v4 y81 y90 v8 (0 : Int32) v7))
set_option maxHeartbeats 4000000 in
set_option maxRecDepth 100000 in
theorem slX12_runs_L57 {κ : sm_X} (C : sm_C κ RX12 cX12_runs 10 10) : ∀ (n : Nat) (v0 : Nat) (v1 : Int32) (v2 : Int32) (v3 : Int32) (v4 : Int32) (v5 : Int32) (v6 : Int32) (v7 : Int32) (v8 : Int32) (hv0 : kd v0 = 12), sm_S κ (fun r : Int32 => .inr (some (.int r))) (.inl (57, [some (xad κ v0), some (.int v1), some (.int v2), some (.int v3), some (.int v4), some (.int v5), some (.int v6), some (.int v7), some (.int v8), none], [])) (fnX12_runs_L57 n v0 v1 v2 v3 v4 v5 v6 v7 v8) := by
  intro n
  induction n with
  | zero =>
    intros
    exact sr_fail
  | succ n K57 =>
    intro v0 v1 v2 v3 v4 v5 v6 v7 v8 hv0
    unfold fnX12_runs_L57
    refine sr_iload (i := 8) (q := 59) C (show decode cX12_runs 57 = .ok (.iload 8, 2) from by decide +kernel) rfl rfl ?_
    refine sr_iload_n (i := 2) (q := 60) C (show decode cX12_runs 59 = .ok (.iload_n 2, 1) from by decide +kernel) rfl rfl rfl ?_
    refine sr_icmp_ge (q := 63) C 115 (show decode cX12_runs 60 = .ok (.if_icmp .ge 55, 3) from by decide +kernel) (by decide) rfl ?_ ?_
    · refine sr_weak (L' := [none, none, none, none, some (.int v4), some (.int v5), some (.int v6), some (.int v7), none, none]) ⟨rfl, rfl, rfl, rfl, trivial⟩ ?_
      exact slX12_runs_J115 C v4 v5 v6 v7
    · refine sr_aload_n (i := 0) (q := 64) C (show decode cX12_runs 63 = .ok (.aload_n 0, 1) from by decide +kernel) rfl rfl rfl ?_
      refine sr_iload_n (i := 1) (q := 65) C (show decode cX12_runs 64 = .ok (.iload_n 1, 1) from by decide +kernel) rfl rfl rfl ?_
      refine sr_i2l (q := 66) C (show decode cX12_runs 65 = .ok (.i2l, 1) from by decide +kernel) rfl ?_
      refine sr_iload (i := 8) (q := 68) C (show decode cX12_runs 66 = .ok (.iload 8, 2) from by decide +kernel) rfl rfl ?_
      refine sr_i2l (q := 69) C (show decode cX12_runs 68 = .ok (.i2l, 1) from by decide +kernel) rfl ?_
      refine sr_ladd (q := 70) C (show decode cX12_runs 69 = .ok (.ladd, 1) from by decide +kernel) rfl ?_
      refine sr_iload_n (i := 3) (q := 71) C (show decode cX12_runs 70 = .ok (.iload_n 3, 1) from by decide +kernel) rfl rfl rfl ?_
      refine sr_cVi (As := [.long (v1.toInt64 + v8.toInt64), .int v3]) (st := []) (b := v0) (q := 74) C yvX12_runOf ml_X12_543 (cnX12_runOf (xo κ) v0 (v1.toInt64 + v8.toInt64) v3 hv0) hv0 (by decide) rfl rfl rfl (by decide) (by decide) (Nat.le_of_ble_eq_true rfl) rfl (show decode cX12_runs 71 = .ok (.invokevirtual 543, 3) from by decide +kernel) rfl (fun x71 => ?_)
      refine sr_istore (i := 9) (L' := [some (xad κ v0), some (.int v1), some (.int v2), some (.int v3), some (.int v4), some (.int v5), some (.int v6), some (.int v7), some (.int v8), some (.int x71)]) (q := 76) C (show decode cX12_runs 74 = .ok (.istore 9, 2) from by decide +kernel) (by decide) rfl rfl ?_
      refine sr_iload (i := 5) (q := 78) C (show decode cX12_runs 76 = .ok (.iload 5, 2) from by decide +kernel) rfl rfl ?_
      refine sr_iload (i := 9) (q := 80) C (show decode cX12_runs 78 = .ok (.iload 9, 2) from by decide +kernel) rfl rfl ?_
      refine sr_iadd (q := 81) C (show decode cX12_runs 80 = .ok (.iadd, 1) from by decide +kernel) rfl ?_
      refine sr_nmi (fun y81 => ?_)
      refine sr_istore (i := 5) (L' := [some (xad κ v0), some (.int v1), some (.int v2), some (.int v3), some (.int v4), some (.int y81), some (.int v6), some (.int v7), some (.int v8), some (.int x71)]) (q := 83) C (show decode cX12_runs 81 = .ok (.istore 5, 2) from by decide +kernel) (by decide) rfl rfl ?_
      refine sr_iload (i := 6) (q := 85) C (show decode cX12_runs 83 = .ok (.iload 6, 2) from by decide +kernel) rfl rfl ?_
      refine sr_iload (i := 9) (q := 87) C (show decode cX12_runs 85 = .ok (.iload 9, 2) from by decide +kernel) rfl rfl ?_
      refine sr_jmin (st := []) (q := 90) C ml_X12_146 (by decide) (Nat.le_of_ble_eq_true rfl) (show decode cX12_runs 87 = .ok (.invokestatic 146, 3) from by decide +kernel) rfl ?_
      refine sr_nmi (fun y90 => ?_)
      refine sr_istore (i := 6) (L' := [some (xad κ v0), some (.int v1), some (.int v2), some (.int v3), some (.int v4), some (.int y81), some (.int y90), some (.int v7), some (.int v8), some (.int x71)]) (q := 92) C (show decode cX12_runs 90 = .ok (.istore 6, 2) from by decide +kernel) (by decide) rfl rfl ?_
      refine sr_iload (i := 7) (q := 94) C (show decode cX12_runs 92 = .ok (.iload 7, 2) from by decide +kernel) rfl rfl ?_
      refine sr_aload_n (i := 0) (q := 95) C (show decode cX12_runs 94 = .ok (.aload_n 0, 1) from by decide +kernel) rfl rfl rfl ?_
      refine sr_geti (q := 98) C fl_X12_381 (Or.inl rfl) hv0 (show decode cX12_runs 95 = .ok (.getfield 381, 3) from by decide +kernel) rfl (fun x95 => ?_)
      refine sr_if_ne (q := 101) C 105 (show decode cX12_runs 98 = .ok (.ifCond .ne 7, 3) from by decide +kernel) (by decide) rfl ?_ ?_
      · refine sr_iconst (v := (0 : Int32)) (q := 106) C (show decode cX12_runs 105 = .ok (.iconst 0, 1) from by decide +kernel) (by decide) rfl ?_
        refine sr_weak (L' := [some (xad κ v0), some (.int v1), some (.int v2), some (.int v3), some (.int v4), some (.int y81), some (.int y90), none, some (.int v8), none]) ⟨rfl, rfl, rfl, rfl, rfl, rfl, rfl, rfl, trivial⟩ ?_
        exact slX12_runs_J106 C K57 v0 v1 v2 v3 v4 y81 y90 v8 (0 : Int32) v7 hv0
      · refine sr_iconst (v := (1 : Int32)) (q := 102) C (show decode cX12_runs 101 = .ok (.iconst 1, 1) from by decide +kernel) (by decide) rfl ?_
        refine sr_goto (q := 106) C (show decode cX12_runs 102 = .ok (.goto 4, 3) from by decide +kernel) (by decide) ?_
        refine sr_weak (L' := [some (xad κ v0), some (.int v1), some (.int v2), some (.int v3), some (.int v4), some (.int y81), some (.int y90), none, some (.int v8), none]) ⟨rfl, rfl, rfl, rfl, rfl, rfl, rfl, rfl, trivial⟩ ?_
        exact slX12_runs_J106 C K57 v0 v1 v2 v3 v4 y81 y90 v8 (1 : Int32) v7 hv0
def fnX12_runs (v0 : Nat) (v1 : Int32) (v2 : Int32) (v3 : Int32) (v4 : Int32) : sm_M Int32 := m_bnd (fnX12_isSeed v1) fun x1 => m_br ((bI x1) = 0)
    (m_ret (-2 : Int32))
    (m_bnd (fnX12_in v2.toInt64 (1 : Int64) (60 : Int64)) fun x13 => m_br ((bI x13) = 0)
    (m_ret (-2 : Int32))
    (m_bnd (fnX12_isWay v0 v3) fun x21 => m_br ((bI x21) = 0)
    (m_ret (-2 : Int32))
    (m_bnd (fnX12_in v4.toInt64 (0 : Int64) (2 : Int64)) fun x34 => m_br ((bI x34) = 0)
    (m_ret (-2 : Int32))
    (fnX12_runs_L57 4096 v0 v1 v2 v3 v4 (0 : Int32) (1000000 : Int32) (0 : Int32) (0 : Int32)))))
set_option maxHeartbeats 4000000 in
set_option maxRecDepth 100000 in
theorem slX12_runs {κ : sm_X} (C : sm_C κ RX12 cX12_runs 10 10) (v0 : Nat) (v1 : Int32) (v2 : Int32) (v3 : Int32) (v4 : Int32) (hv0 : kd v0 = 12) : sm_S κ (fun r : Int32 => .inr (some (.int r))) (.inl (0, [some (xad κ v0), some (.int v1), some (.int v2), some (.int v3), some (.int v4), none, none, none, none, none], [])) (fnX12_runs v0 v1 v2 v3 v4) := by
  unfold fnX12_runs
  refine sr_iload_n (i := 1) (q := 1) C (show decode cX12_runs 0 = .ok (.iload_n 1, 1) from by decide +kernel) rfl rfl rfl ?_
  refine sr_cSz (As := [.int v1]) (st := []) (q := 4) C ysX12_isSeed ml_X12_540 (cnX12_isSeed (xo κ) v1) rfl (by decide) (by decide) (Nat.le_of_ble_eq_true rfl) rfl (show decode cX12_runs 1 = .ok (.invokestatic 540, 3) from by decide +kernel) rfl (fun x1 => ?_)
  refine sr_if_eq (q := 7) C 40 (show decode cX12_runs 4 = .ok (.ifCond .eq 36, 3) from by decide +kernel) (by decide) rfl ?_ ?_
  · refine sr_bipush (v := (-2 : Int32)) (q := 42) C (show decode cX12_runs 40 = .ok (.bipush (-2), 2) from by decide +kernel) (by decide) rfl ?_
    exact sr_ireturn C _ rfl (show decode cX12_runs 42 = .ok (.ireturn, 1) from by decide +kernel)
  · refine sr_iload_n (i := 2) (q := 8) C (show decode cX12_runs 7 = .ok (.iload_n 2, 1) from by decide +kernel) rfl rfl rfl ?_
    refine sr_i2l (q := 9) C (show decode cX12_runs 8 = .ok (.i2l, 1) from by decide +kernel) rfl ?_
    refine sr_lconst (v := (1 : Int64)) (q := 10) C (show decode cX12_runs 9 = .ok (.lconst 1, 1) from by decide +kernel) (by decide) rfl ?_
    refine sr_ldc2 (q := 13) C co_X12_547 (show decode cX12_runs 10 = .ok (.ldc2_w 547, 3) from by decide +kernel) rfl ?_
    refine sr_cSz (As := [.long v2.toInt64, .long (1 : Int64), .long (60 : Int64)]) (st := []) (q := 16) C ysX12_in ml_X12_103 (cnX12_in (xo κ) v2.toInt64 (1 : Int64) (60 : Int64)) rfl (by decide) (by decide) (Nat.le_of_ble_eq_true rfl) rfl (show decode cX12_runs 13 = .ok (.invokestatic 103, 3) from by decide +kernel) rfl (fun x13 => ?_)
    refine sr_if_eq (q := 19) C 40 (show decode cX12_runs 16 = .ok (.ifCond .eq 24, 3) from by decide +kernel) (by decide) rfl ?_ ?_
    · refine sr_bipush (v := (-2 : Int32)) (q := 42) C (show decode cX12_runs 40 = .ok (.bipush (-2), 2) from by decide +kernel) (by decide) rfl ?_
      exact sr_ireturn C _ rfl (show decode cX12_runs 42 = .ok (.ireturn, 1) from by decide +kernel)
    · refine sr_aload_n (i := 0) (q := 20) C (show decode cX12_runs 19 = .ok (.aload_n 0, 1) from by decide +kernel) rfl rfl rfl ?_
      refine sr_iload_n (i := 3) (q := 21) C (show decode cX12_runs 20 = .ok (.iload_n 3, 1) from by decide +kernel) rfl rfl rfl ?_
      refine sr_cVz (As := [.int v3]) (st := []) (b := v0) (q := 24) C yvX12_isWay ml_X12_366 (cnX12_isWay (xo κ) v0 v3 hv0) hv0 (by decide) rfl rfl rfl (by decide) (by decide) (Nat.le_of_ble_eq_true rfl) rfl (show decode cX12_runs 21 = .ok (.invokevirtual 366, 3) from by decide +kernel) rfl (fun x21 => ?_)
      refine sr_if_eq (q := 27) C 40 (show decode cX12_runs 24 = .ok (.ifCond .eq 16, 3) from by decide +kernel) (by decide) rfl ?_ ?_
      · refine sr_bipush (v := (-2 : Int32)) (q := 42) C (show decode cX12_runs 40 = .ok (.bipush (-2), 2) from by decide +kernel) (by decide) rfl ?_
        exact sr_ireturn C _ rfl (show decode cX12_runs 42 = .ok (.ireturn, 1) from by decide +kernel)
      · refine sr_iload (i := 4) (q := 29) C (show decode cX12_runs 27 = .ok (.iload 4, 2) from by decide +kernel) rfl rfl ?_
        refine sr_i2l (q := 30) C (show decode cX12_runs 29 = .ok (.i2l, 1) from by decide +kernel) rfl ?_
        refine sr_lconst (v := (0 : Int64)) (q := 31) C (show decode cX12_runs 30 = .ok (.lconst 0, 1) from by decide +kernel) (by decide) rfl ?_
        refine sr_ldc2 (q := 34) C co_X12_101 (show decode cX12_runs 31 = .ok (.ldc2_w 101, 3) from by decide +kernel) rfl ?_
        refine sr_cSz (As := [.long v4.toInt64, .long (0 : Int64), .long (2 : Int64)]) (st := []) (q := 37) C ysX12_in ml_X12_103 (cnX12_in (xo κ) v4.toInt64 (0 : Int64) (2 : Int64)) rfl (by decide) (by decide) (Nat.le_of_ble_eq_true rfl) rfl (show decode cX12_runs 34 = .ok (.invokestatic 103, 3) from by decide +kernel) rfl (fun x34 => ?_)
        refine sr_if_ne (q := 40) C 43 (show decode cX12_runs 37 = .ok (.ifCond .ne 6, 3) from by decide +kernel) (by decide) rfl ?_ ?_
        · refine sr_iconst (v := (0 : Int32)) (q := 44) C (show decode cX12_runs 43 = .ok (.iconst 0, 1) from by decide +kernel) (by decide) rfl ?_
          refine sr_istore (i := 5) (L' := [some (xad κ v0), some (.int v1), some (.int v2), some (.int v3), some (.int v4), some (.int (0 : Int32)), none, none, none, none]) (q := 46) C (show decode cX12_runs 44 = .ok (.istore 5, 2) from by decide +kernel) (by decide) rfl rfl ?_
          refine sr_ldcw (q := 49) C co_X12_292 (show decode cX12_runs 46 = .ok (.ldc_w 292, 3) from by decide +kernel) rfl ?_
          refine sr_istore (i := 6) (L' := [some (xad κ v0), some (.int v1), some (.int v2), some (.int v3), some (.int v4), some (.int (0 : Int32)), some (.int (1000000 : Int32)), none, none, none]) (q := 51) C (show decode cX12_runs 49 = .ok (.istore 6, 2) from by decide +kernel) (by decide) rfl rfl ?_
          refine sr_iconst (v := (0 : Int32)) (q := 52) C (show decode cX12_runs 51 = .ok (.iconst 0, 1) from by decide +kernel) (by decide) rfl ?_
          refine sr_istore (i := 7) (L' := [some (xad κ v0), some (.int v1), some (.int v2), some (.int v3), some (.int v4), some (.int (0 : Int32)), some (.int (1000000 : Int32)), some (.int (0 : Int32)), none, none]) (q := 54) C (show decode cX12_runs 52 = .ok (.istore 7, 2) from by decide +kernel) (by decide) rfl rfl ?_
          refine sr_iconst (v := (0 : Int32)) (q := 55) C (show decode cX12_runs 54 = .ok (.iconst 0, 1) from by decide +kernel) (by decide) rfl ?_
          refine sr_istore (i := 8) (L' := [some (xad κ v0), some (.int v1), some (.int v2), some (.int v3), some (.int v4), some (.int (0 : Int32)), some (.int (1000000 : Int32)), some (.int (0 : Int32)), some (.int (0 : Int32)), none]) (q := 57) C (show decode cX12_runs 55 = .ok (.istore 8, 2) from by decide +kernel) (by decide) rfl rfl ?_
          exact slX12_runs_L57 C 4096 v0 v1 v2 v3 v4 (0 : Int32) (1000000 : Int32) (0 : Int32) (0 : Int32) hv0
        · refine sr_bipush (v := (-2 : Int32)) (q := 42) C (show decode cX12_runs 40 = .ok (.bipush (-2), 2) from by decide +kernel) (by decide) rfl ?_
          exact sr_ireturn C _ rfl (show decode cX12_runs 42 = .ok (.ireturn, 1) from by decide +kernel)
theorem cnX12_runs (ω : sm_O) (v0 : Nat) (v1 : Int32) (v2 : Int32) (v3 : Int32) (v4 : Int32) (hv0 : kd v0 = 12) : sm_Mt 10 yX12_runs cX12_runs 10 (some .int) ω [.ref (ω.1 + v0), .int v1, .int v2, .int v3, .int v4] (fun a => some (.int a)) (fnX12_runs v0 v1 v2 v3 v4) := by
  refine sm_conI (r := fun a => a) (by decide) (fun _ => rfl) (Nat.le_of_ble_eq_true rfl) ?_
  intro κ hκ C
  subst hκ
  exact slX12_runs C v0 v1 v2 v3 v4 hv0
set_option maxRecDepth 100000 in
theorem yvX12_runs : sm_YV yX12_runs cX12_runs 10 (some .int) 4 := ⟨⟨lw_m (List.mem_of_getElem? (i := 2220) rfl) rfl, lw_m (List.mem_of_getElem? (i := 153) rfl) rfl, by decide +kernel, by decide +kernel, by decide +kernel⟩, lw_m (List.mem_of_getElem? (i := 2218) rfl) rfl, lw_m (List.mem_of_getElem? (i := 2219) rfl) rfl⟩
def fnX12_step (v0 : Nat) (v1 : Int32) (v2 : Int32) : sm_M Int32 := m_bnd (fnX12_isPerson v0 v1) fun x2 => m_br ((bI x2) = 0)
    (m_ret (-2 : Int32))
    (m_bnd (fnX12_isPlace v0 v2) fun x10 => m_br ((bI x10) = 0)
    (m_ret (-2 : Int32))
    (m_bnd (fnX12_steps v0 v1 v2) fun x22 => m_br ((bI x22) = 0)
    (m_ret (-5 : Int32))
    (m_br ((98 : Int32) ≤ v2)
    (m_ret (0 : Int32))
    (m_bnd (fnX12_left v0 v2) fun x36 => m_ret x36))))
set_option maxHeartbeats 4000000 in
set_option maxRecDepth 100000 in
theorem slX12_step {κ : sm_X} (C : sm_C κ RX12 cX12_step 3 6) (v0 : Nat) (v1 : Int32) (v2 : Int32) (hv0 : kd v0 = 12) : sm_S κ (fun r : Int32 => .inr (some (.int r))) (.inl (0, [some (xad κ v0), some (.int v1), some (.int v2)], [])) (fnX12_step v0 v1 v2) := by
  unfold fnX12_step
  refine sr_aload_n (i := 0) (q := 1) C (show decode cX12_step 0 = .ok (.aload_n 0, 1) from by decide +kernel) rfl rfl rfl ?_
  refine sr_iload_n (i := 1) (q := 2) C (show decode cX12_step 1 = .ok (.iload_n 1, 1) from by decide +kernel) rfl rfl rfl ?_
  refine sr_cVz (As := [.int v1]) (st := []) (b := v0) (q := 5) C yvX12_isPerson ml_X12_322 (cnX12_isPerson (xo κ) v0 v1 hv0) hv0 (by decide) rfl rfl rfl (by decide) (by decide) (Nat.le_of_ble_eq_true rfl) rfl (show decode cX12_step 2 = .ok (.invokevirtual 322, 3) from by decide +kernel) rfl (fun x2 => ?_)
  refine sr_if_eq (q := 8) C 16 (show decode cX12_step 5 = .ok (.ifCond .eq 11, 3) from by decide +kernel) (by decide) rfl ?_ ?_
  · refine sr_bipush (v := (-2 : Int32)) (q := 18) C (show decode cX12_step 16 = .ok (.bipush (-2), 2) from by decide +kernel) (by decide) rfl ?_
    exact sr_ireturn C _ rfl (show decode cX12_step 18 = .ok (.ireturn, 1) from by decide +kernel)
  · refine sr_aload_n (i := 0) (q := 9) C (show decode cX12_step 8 = .ok (.aload_n 0, 1) from by decide +kernel) rfl rfl rfl ?_
    refine sr_iload_n (i := 2) (q := 10) C (show decode cX12_step 9 = .ok (.iload_n 2, 1) from by decide +kernel) rfl rfl rfl ?_
    refine sr_cVz (As := [.int v2]) (st := []) (b := v0) (q := 13) C yvX12_isPlace ml_X12_264 (cnX12_isPlace (xo κ) v0 v2 hv0) hv0 (by decide) rfl rfl rfl (by decide) (by decide) (Nat.le_of_ble_eq_true rfl) rfl (show decode cX12_step 10 = .ok (.invokevirtual 264, 3) from by decide +kernel) rfl (fun x10 => ?_)
    refine sr_if_ne (q := 16) C 19 (show decode cX12_step 13 = .ok (.ifCond .ne 6, 3) from by decide +kernel) (by decide) rfl ?_ ?_
    · refine sr_aload_n (i := 0) (q := 20) C (show decode cX12_step 19 = .ok (.aload_n 0, 1) from by decide +kernel) rfl rfl rfl ?_
      refine sr_iload_n (i := 1) (q := 21) C (show decode cX12_step 20 = .ok (.iload_n 1, 1) from by decide +kernel) rfl rfl rfl ?_
      refine sr_iload_n (i := 2) (q := 22) C (show decode cX12_step 21 = .ok (.iload_n 2, 1) from by decide +kernel) rfl rfl rfl ?_
      refine sr_cVz (As := [.int v1, .int v2]) (st := []) (b := v0) (q := 25) C yvX12_steps ml_X12_325 (cnX12_steps (xo κ) v0 v1 v2 hv0) hv0 (by decide) rfl rfl rfl (by decide) (by decide) (Nat.le_of_ble_eq_true rfl) rfl (show decode cX12_step 22 = .ok (.invokevirtual 325, 3) from by decide +kernel) rfl (fun x22 => ?_)
      refine sr_if_eq (q := 28) C 46 (show decode cX12_step 25 = .ok (.ifCond .eq 21, 3) from by decide +kernel) (by decide) rfl ?_ ?_
      · refine sr_bipush (v := (-5 : Int32)) (q := 48) C (show decode cX12_step 46 = .ok (.bipush (-5), 2) from by decide +kernel) (by decide) rfl ?_
        exact sr_ireturn C _ rfl (show decode cX12_step 48 = .ok (.ireturn, 1) from by decide +kernel)
      · refine sr_iload_n (i := 2) (q := 29) C (show decode cX12_step 28 = .ok (.iload_n 2, 1) from by decide +kernel) rfl rfl rfl ?_
        refine sr_bipush (v := (98 : Int32)) (q := 31) C (show decode cX12_step 29 = .ok (.bipush 98, 2) from by decide +kernel) (by decide) rfl ?_
        refine sr_icmp_ge (q := 34) C 42 (show decode cX12_step 31 = .ok (.if_icmp .ge 11, 3) from by decide +kernel) (by decide) rfl ?_ ?_
        · refine sr_iconst (v := (0 : Int32)) (q := 43) C (show decode cX12_step 42 = .ok (.iconst 0, 1) from by decide +kernel) (by decide) rfl ?_
          refine sr_goto (q := 48) C (show decode cX12_step 43 = .ok (.goto 5, 3) from by decide +kernel) (by decide) ?_
          exact sr_ireturn C _ rfl (show decode cX12_step 48 = .ok (.ireturn, 1) from by decide +kernel)
        · refine sr_aload_n (i := 0) (q := 35) C (show decode cX12_step 34 = .ok (.aload_n 0, 1) from by decide +kernel) rfl rfl rfl ?_
          refine sr_iload_n (i := 2) (q := 36) C (show decode cX12_step 35 = .ok (.iload_n 2, 1) from by decide +kernel) rfl rfl rfl ?_
          refine sr_cVi (As := [.int v2]) (st := []) (b := v0) (q := 39) C yvX12_left ml_X12_250 (cnX12_left (xo κ) v0 v2 hv0) hv0 (by decide) rfl rfl rfl (by decide) (by decide) (Nat.le_of_ble_eq_true rfl) rfl (show decode cX12_step 36 = .ok (.invokevirtual 250, 3) from by decide +kernel) rfl (fun x36 => ?_)
          refine sr_goto (q := 48) C (show decode cX12_step 39 = .ok (.goto 9, 3) from by decide +kernel) (by decide) ?_
          exact sr_ireturn C _ rfl (show decode cX12_step 48 = .ok (.ireturn, 1) from by decide +kernel)
    · refine sr_bipush (v := (-2 : Int32)) (q := 18) C (show decode cX12_step 16 = .ok (.bipush (-2), 2) from by decide +kernel) (by decide) rfl ?_
      exact sr_ireturn C _ rfl (show decode cX12_step 18 = .ok (.ireturn, 1) from by decide +kernel)
theorem cnX12_step (ω : sm_O) (v0 : Nat) (v1 : Int32) (v2 : Int32) (hv0 : kd v0 = 12) : sm_Mt 6 yX12_step cX12_step 3 (some .int) ω [.ref (ω.1 + v0), .int v1, .int v2] (fun a => some (.int a)) (fnX12_step v0 v1 v2) := by
  refine sm_conI (r := fun a => a) (by decide) (fun _ => rfl) (Nat.le_of_ble_eq_true rfl) ?_
  intro κ hκ C
  subst hκ
  exact slX12_step C v0 v1 v2 hv0
set_option maxRecDepth 100000 in
theorem yvX12_step : sm_YV yX12_step cX12_step 3 (some .int) 2 := ⟨⟨lw_m (List.mem_of_getElem? (i := 1855) rfl) rfl, lw_m (List.mem_of_getElem? (i := 153) rfl) rfl, by decide +kernel, by decide +kernel, by decide +kernel⟩, lw_m (List.mem_of_getElem? (i := 1853) rfl) rfl, lw_m (List.mem_of_getElem? (i := 1854) rfl) rfl⟩
def fnX12_stone (v0 : Nat) (v1 : Int32) (v2 : Int32) : sm_M Int32 := m_bnd (fnX12_isStone v0 v1) fun x2 => m_br ((bI x2) = 0)
    (m_ret (-2 : Int32))
    (m_bnd (fnX12_in v2.toInt64 (0 : Int64) (4 : Int64)) fun x14 => m_br ((bI x14) = 0)
    (m_ret (-2 : Int32))
    (m_br ((2 : Int32) ≤ v2)
    (m_br ((4 : Int32) ≤ v2)
    (m_bnd (fnX12_isInDoubt v0 v1) fun x63 => m_br ((bI x63) = 0)
    (m_bnd (fnX12_ofStone v0 v1 (5 : Int32)) fun x76 => m_br (x76 = (2 : Int32))
    (m_ret (1 : Int32))
    (m_ret (0 : Int32)))
    (m_ret (-1 : Int32)))
    (m_br (v2 = (2 : Int32))
    (m_bnd (fnX12_left v0 v1) fun x47 => m_ret x47)
    (m_bnd (fnX12_ofStone v0 v1 (6 : Int32)) fun x57 => m_ret x57)))
    (m_bnd (fnX12_ofStone v0 v1 v2) fun x31 => m_ret x31)))
set_option maxHeartbeats 4000000 in
set_option maxRecDepth 100000 in
theorem slX12_stone {κ : sm_X} (C : sm_C κ RX12 cX12_stone 3 4) (v0 : Nat) (v1 : Int32) (v2 : Int32) (hv0 : kd v0 = 12) : sm_S κ (fun r : Int32 => .inr (some (.int r))) (.inl (0, [some (xad κ v0), some (.int v1), some (.int v2)], [])) (fnX12_stone v0 v1 v2) := by
  unfold fnX12_stone
  refine sr_aload_n (i := 0) (q := 1) C (show decode cX12_stone 0 = .ok (.aload_n 0, 1) from by decide +kernel) rfl rfl rfl ?_
  refine sr_iload_n (i := 1) (q := 2) C (show decode cX12_stone 1 = .ok (.iload_n 1, 1) from by decide +kernel) rfl rfl rfl ?_
  refine sr_cVz (As := [.int v1]) (st := []) (b := v0) (q := 5) C yvX12_isStone ml_X12_111 (cnX12_isStone (xo κ) v0 v1 hv0) hv0 (by decide) rfl rfl rfl (by decide) (by decide) (Nat.le_of_ble_eq_true rfl) rfl (show decode cX12_stone 2 = .ok (.invokevirtual 111, 3) from by decide +kernel) rfl (fun x2 => ?_)
  refine sr_if_eq (q := 8) C 20 (show decode cX12_stone 5 = .ok (.ifCond .eq 15, 3) from by decide +kernel) (by decide) rfl ?_ ?_
  · refine sr_bipush (v := (-2 : Int32)) (q := 22) C (show decode cX12_stone 20 = .ok (.bipush (-2), 2) from by decide +kernel) (by decide) rfl ?_
    exact sr_ireturn C _ rfl (show decode cX12_stone 22 = .ok (.ireturn, 1) from by decide +kernel)
  · refine sr_iload_n (i := 2) (q := 9) C (show decode cX12_stone 8 = .ok (.iload_n 2, 1) from by decide +kernel) rfl rfl rfl ?_
    refine sr_i2l (q := 10) C (show decode cX12_stone 9 = .ok (.i2l, 1) from by decide +kernel) rfl ?_
    refine sr_lconst (v := (0 : Int64)) (q := 11) C (show decode cX12_stone 10 = .ok (.lconst 0, 1) from by decide +kernel) (by decide) rfl ?_
    refine sr_ldc2 (q := 14) C co_X12_248 (show decode cX12_stone 11 = .ok (.ldc2_w 248, 3) from by decide +kernel) rfl ?_
    refine sr_cSz (As := [.long v2.toInt64, .long (0 : Int64), .long (4 : Int64)]) (st := []) (q := 17) C ysX12_in ml_X12_103 (cnX12_in (xo κ) v2.toInt64 (0 : Int64) (4 : Int64)) rfl (by decide) (by decide) (Nat.le_of_ble_eq_true rfl) rfl (show decode cX12_stone 14 = .ok (.invokestatic 103, 3) from by decide +kernel) rfl (fun x14 => ?_)
    refine sr_if_ne (q := 20) C 23 (show decode cX12_stone 17 = .ok (.ifCond .ne 6, 3) from by decide +kernel) (by decide) rfl ?_ ?_
    · refine sr_iload_n (i := 2) (q := 24) C (show decode cX12_stone 23 = .ok (.iload_n 2, 1) from by decide +kernel) rfl rfl rfl ?_
      refine sr_iconst (v := (2 : Int32)) (q := 25) C (show decode cX12_stone 24 = .ok (.iconst 2, 1) from by decide +kernel) (by decide) rfl ?_
      refine sr_icmp_ge (q := 28) C 35 (show decode cX12_stone 25 = .ok (.if_icmp .ge 10, 3) from by decide +kernel) (by decide) rfl ?_ ?_
      · refine sr_iload_n (i := 2) (q := 36) C (show decode cX12_stone 35 = .ok (.iload_n 2, 1) from by decide +kernel) rfl rfl rfl ?_
        refine sr_iconst (v := (4 : Int32)) (q := 37) C (show decode cX12_stone 36 = .ok (.iconst 4, 1) from by decide +kernel) (by decide) rfl ?_
        refine sr_icmp_ge (q := 40) C 61 (show decode cX12_stone 37 = .ok (.if_icmp .ge 24, 3) from by decide +kernel) (by decide) rfl ?_ ?_
        · refine sr_aload_n (i := 0) (q := 62) C (show decode cX12_stone 61 = .ok (.aload_n 0, 1) from by decide +kernel) rfl rfl rfl ?_
          refine sr_iload_n (i := 1) (q := 63) C (show decode cX12_stone 62 = .ok (.iload_n 1, 1) from by decide +kernel) rfl rfl rfl ?_
          refine sr_cVz (As := [.int v1]) (st := []) (b := v0) (q := 66) C yvX12_isInDoubt ml_X12_253 (cnX12_isInDoubt (xo κ) v0 v1 hv0) hv0 (by decide) rfl rfl rfl (by decide) (by decide) (Nat.le_of_ble_eq_true rfl) rfl (show decode cX12_stone 63 = .ok (.invokevirtual 253, 3) from by decide +kernel) rfl (fun x63 => ?_)
          refine sr_if_eq (q := 69) C 73 (show decode cX12_stone 66 = .ok (.ifCond .eq 7, 3) from by decide +kernel) (by decide) rfl ?_ ?_
          · refine sr_aload_n (i := 0) (q := 74) C (show decode cX12_stone 73 = .ok (.aload_n 0, 1) from by decide +kernel) rfl rfl rfl ?_
            refine sr_iload_n (i := 1) (q := 75) C (show decode cX12_stone 74 = .ok (.iload_n 1, 1) from by decide +kernel) rfl rfl rfl ?_
            refine sr_iconst (v := (5 : Int32)) (q := 76) C (show decode cX12_stone 75 = .ok (.iconst 5, 1) from by decide +kernel) (by decide) rfl ?_
            refine sr_cVi (As := [.int v1, .int (5 : Int32)]) (st := []) (b := v0) (q := 79) C yvX12_ofStone ml_X12_239 (cnX12_ofStone (xo κ) v0 v1 (5 : Int32) hv0) hv0 (by decide) rfl rfl rfl (by decide) (by decide) (Nat.le_of_ble_eq_true rfl) rfl (show decode cX12_stone 76 = .ok (.invokevirtual 239, 3) from by decide +kernel) rfl (fun x76 => ?_)
            refine sr_iconst (v := (2 : Int32)) (q := 80) C (show decode cX12_stone 79 = .ok (.iconst 2, 1) from by decide +kernel) (by decide) rfl ?_
            refine sr_icmp_ne (q := 83) C 87 (show decode cX12_stone 80 = .ok (.if_icmp .ne 7, 3) from by decide +kernel) (by decide) rfl ?_ ?_
            · refine sr_iconst (v := (0 : Int32)) (q := 88) C (show decode cX12_stone 87 = .ok (.iconst 0, 1) from by decide +kernel) (by decide) rfl ?_
              exact sr_ireturn C _ rfl (show decode cX12_stone 88 = .ok (.ireturn, 1) from by decide +kernel)
            · refine sr_iconst (v := (1 : Int32)) (q := 84) C (show decode cX12_stone 83 = .ok (.iconst 1, 1) from by decide +kernel) (by decide) rfl ?_
              refine sr_goto (q := 88) C (show decode cX12_stone 84 = .ok (.goto 4, 3) from by decide +kernel) (by decide) ?_
              exact sr_ireturn C _ rfl (show decode cX12_stone 88 = .ok (.ireturn, 1) from by decide +kernel)
          · refine sr_iconst (v := (-1 : Int32)) (q := 70) C (show decode cX12_stone 69 = .ok (.iconst (-1), 1) from by decide +kernel) (by decide) rfl ?_
            refine sr_goto (q := 88) C (show decode cX12_stone 70 = .ok (.goto 18, 3) from by decide +kernel) (by decide) ?_
            exact sr_ireturn C _ rfl (show decode cX12_stone 88 = .ok (.ireturn, 1) from by decide +kernel)
        · refine sr_iload_n (i := 2) (q := 41) C (show decode cX12_stone 40 = .ok (.iload_n 2, 1) from by decide +kernel) rfl rfl rfl ?_
          refine sr_iconst (v := (2 : Int32)) (q := 42) C (show decode cX12_stone 41 = .ok (.iconst 2, 1) from by decide +kernel) (by decide) rfl ?_
          refine sr_icmp_ne (q := 45) C 53 (show decode cX12_stone 42 = .ok (.if_icmp .ne 11, 3) from by decide +kernel) (by decide) rfl ?_ ?_
          · refine sr_aload_n (i := 0) (q := 54) C (show decode cX12_stone 53 = .ok (.aload_n 0, 1) from by decide +kernel) rfl rfl rfl ?_
            refine sr_iload_n (i := 1) (q := 55) C (show decode cX12_stone 54 = .ok (.iload_n 1, 1) from by decide +kernel) rfl rfl rfl ?_
            refine sr_bipush (v := (6 : Int32)) (q := 57) C (show decode cX12_stone 55 = .ok (.bipush 6, 2) from by decide +kernel) (by decide) rfl ?_
            refine sr_cVi (As := [.int v1, .int (6 : Int32)]) (st := []) (b := v0) (q := 60) C yvX12_ofStone ml_X12_239 (cnX12_ofStone (xo κ) v0 v1 (6 : Int32) hv0) hv0 (by decide) rfl rfl rfl (by decide) (by decide) (Nat.le_of_ble_eq_true rfl) rfl (show decode cX12_stone 57 = .ok (.invokevirtual 239, 3) from by decide +kernel) rfl (fun x57 => ?_)
            exact sr_ireturn C _ rfl (show decode cX12_stone 60 = .ok (.ireturn, 1) from by decide +kernel)
          · refine sr_aload_n (i := 0) (q := 46) C (show decode cX12_stone 45 = .ok (.aload_n 0, 1) from by decide +kernel) rfl rfl rfl ?_
            refine sr_iload_n (i := 1) (q := 47) C (show decode cX12_stone 46 = .ok (.iload_n 1, 1) from by decide +kernel) rfl rfl rfl ?_
            refine sr_cVi (As := [.int v1]) (st := []) (b := v0) (q := 50) C yvX12_left ml_X12_250 (cnX12_left (xo κ) v0 v1 hv0) hv0 (by decide) rfl rfl rfl (by decide) (by decide) (Nat.le_of_ble_eq_true rfl) rfl (show decode cX12_stone 47 = .ok (.invokevirtual 250, 3) from by decide +kernel) rfl (fun x47 => ?_)
            refine sr_goto (q := 60) C (show decode cX12_stone 50 = .ok (.goto 10, 3) from by decide +kernel) (by decide) ?_
            exact sr_ireturn C _ rfl (show decode cX12_stone 60 = .ok (.ireturn, 1) from by decide +kernel)
      · refine sr_aload_n (i := 0) (q := 29) C (show decode cX12_stone 28 = .ok (.aload_n 0, 1) from by decide +kernel) rfl rfl rfl ?_
        refine sr_iload_n (i := 1) (q := 30) C (show decode cX12_stone 29 = .ok (.iload_n 1, 1) from by decide +kernel) rfl rfl rfl ?_
        refine sr_iload_n (i := 2) (q := 31) C (show decode cX12_stone 30 = .ok (.iload_n 2, 1) from by decide +kernel) rfl rfl rfl ?_
        refine sr_cVi (As := [.int v1, .int v2]) (st := []) (b := v0) (q := 34) C yvX12_ofStone ml_X12_239 (cnX12_ofStone (xo κ) v0 v1 v2 hv0) hv0 (by decide) rfl rfl rfl (by decide) (by decide) (Nat.le_of_ble_eq_true rfl) rfl (show decode cX12_stone 31 = .ok (.invokevirtual 239, 3) from by decide +kernel) rfl (fun x31 => ?_)
        exact sr_ireturn C _ rfl (show decode cX12_stone 34 = .ok (.ireturn, 1) from by decide +kernel)
    · refine sr_bipush (v := (-2 : Int32)) (q := 22) C (show decode cX12_stone 20 = .ok (.bipush (-2), 2) from by decide +kernel) (by decide) rfl ?_
      exact sr_ireturn C _ rfl (show decode cX12_stone 22 = .ok (.ireturn, 1) from by decide +kernel)
theorem cnX12_stone (ω : sm_O) (v0 : Nat) (v1 : Int32) (v2 : Int32) (hv0 : kd v0 = 12) : sm_Mt 4 yX12_stone cX12_stone 3 (some .int) ω [.ref (ω.1 + v0), .int v1, .int v2] (fun a => some (.int a)) (fnX12_stone v0 v1 v2) := by
  refine sm_conI (r := fun a => a) (by decide) (fun _ => rfl) (Nat.le_of_ble_eq_true rfl) ?_
  intro κ hκ C
  subst hκ
  exact slX12_stone C v0 v1 v2 hv0
set_option maxRecDepth 100000 in
theorem yvX12_stone : sm_YV yX12_stone cX12_stone 3 (some .int) 2 := ⟨⟨lw_m (List.mem_of_getElem? (i := 1738) rfl) rfl, lw_m (List.mem_of_getElem? (i := 153) rfl) rfl, by decide +kernel, by decide +kernel, by decide +kernel⟩, lw_m (List.mem_of_getElem? (i := 1736) rfl) rfl, lw_m (List.mem_of_getElem? (i := 1737) rfl) rfl⟩
def fnX12_sure (v0 : Nat) (v1 : Int32) (v2 : Int32) : sm_M Int64 := m_bnd (fnX12_isLoad v0 v1 v2) fun x3 => m_br ((bI x3) = 0)
    (m_ret (-2 : Int64))
    (m_bnd (fnX12_sureOf v0 v1 v2) fun x12 => m_ret x12)
set_option maxHeartbeats 4000000 in
set_option maxRecDepth 100000 in
theorem slX12_sure {κ : sm_X} (C : sm_C κ RX12 cX12_sure 3 6) (v0 : Nat) (v1 : Int32) (v2 : Int32) (hv0 : kd v0 = 12) : sm_S κ (fun r : Int64 => .inr (some (.long r))) (.inl (0, [some (xad κ v0), some (.int v1), some (.int v2)], [])) (fnX12_sure v0 v1 v2) := by
  unfold fnX12_sure
  refine sr_aload_n (i := 0) (q := 1) C (show decode cX12_sure 0 = .ok (.aload_n 0, 1) from by decide +kernel) rfl rfl rfl ?_
  refine sr_iload_n (i := 1) (q := 2) C (show decode cX12_sure 1 = .ok (.iload_n 1, 1) from by decide +kernel) rfl rfl rfl ?_
  refine sr_iload_n (i := 2) (q := 3) C (show decode cX12_sure 2 = .ok (.iload_n 2, 1) from by decide +kernel) rfl rfl rfl ?_
  refine sr_cVz (As := [.int v1, .int v2]) (st := []) (b := v0) (q := 6) C yvX12_isLoad ml_X12_453 (cnX12_isLoad (xo κ) v0 v1 v2 hv0) hv0 (by decide) rfl rfl rfl (by decide) (by decide) (Nat.le_of_ble_eq_true rfl) rfl (show decode cX12_sure 3 = .ok (.invokevirtual 453, 3) from by decide +kernel) rfl (fun x3 => ?_)
  refine sr_if_eq (q := 9) C 18 (show decode cX12_sure 6 = .ok (.ifCond .eq 12, 3) from by decide +kernel) (by decide) rfl ?_ ?_
  · refine sr_ldc2 (q := 21) C co_X12_494 (show decode cX12_sure 18 = .ok (.ldc2_w 494, 3) from by decide +kernel) rfl ?_
    exact sr_lreturn C _ rfl (show decode cX12_sure 21 = .ok (.lreturn, 1) from by decide +kernel)
  · refine sr_aload_n (i := 0) (q := 10) C (show decode cX12_sure 9 = .ok (.aload_n 0, 1) from by decide +kernel) rfl rfl rfl ?_
    refine sr_iload_n (i := 1) (q := 11) C (show decode cX12_sure 10 = .ok (.iload_n 1, 1) from by decide +kernel) rfl rfl rfl ?_
    refine sr_iload_n (i := 2) (q := 12) C (show decode cX12_sure 11 = .ok (.iload_n 2, 1) from by decide +kernel) rfl rfl rfl ?_
    refine sr_cVl (As := [.int v1, .int v2]) (st := []) (b := v0) (q := 15) C yvX12_sureOf ml_X12_490 (cnX12_sureOf (xo κ) v0 v1 v2 hv0) hv0 (by decide) rfl rfl rfl (by decide) (by decide) (Nat.le_of_ble_eq_true rfl) rfl (show decode cX12_sure 12 = .ok (.invokevirtual 490, 3) from by decide +kernel) rfl (fun x12 => ?_)
    refine sr_goto (q := 21) C (show decode cX12_sure 15 = .ok (.goto 6, 3) from by decide +kernel) (by decide) ?_
    exact sr_lreturn C _ rfl (show decode cX12_sure 21 = .ok (.lreturn, 1) from by decide +kernel)
theorem cnX12_sure (ω : sm_O) (v0 : Nat) (v1 : Int32) (v2 : Int32) (hv0 : kd v0 = 12) : sm_Mt 6 yX12_sure cX12_sure 3 (some .long) ω [.ref (ω.1 + v0), .int v1, .int v2] (fun a => some (.long a)) (fnX12_sure v0 v1 v2) := by
  refine sm_conL (r := fun a => a) (by decide) (Nat.le_of_ble_eq_true rfl) ?_
  intro κ hκ C
  subst hκ
  exact slX12_sure C v0 v1 v2 hv0
set_option maxRecDepth 100000 in
theorem yvX12_sure : sm_YV yX12_sure cX12_sure 3 (some .long) 2 := ⟨⟨lw_m (List.mem_of_getElem? (i := 2117) rfl) rfl, lw_m (List.mem_of_getElem? (i := 153) rfl) rfl, by decide +kernel, by decide +kernel, by decide +kernel⟩, lw_m (List.mem_of_getElem? (i := 2115) rfl) rfl, lw_m (List.mem_of_getElem? (i := 2116) rfl) rfl⟩
def fnX12_tread (v0 : Nat) (v1 : Int32) (v2 : Int32) (v3 : Int32) : sm_M Int64 := m_bnd (fnX12_isStone v0 v1) fun x2 => m_br ((bI x2) = 0)
    (m_ret (-2 : Int64))
    (m_bnd (fnX12_isLoad v0 v2 v3) fun x11 => m_br ((bI x11) = 0)
    (m_ret (-2 : Int64))
    (m_bnd (fnX12_treadOf v0 v1 v2 v3) fun x21 => m_ret x21))
set_option maxHeartbeats 4000000 in
set_option maxRecDepth 100000 in
theorem slX12_tread {κ : sm_X} (C : sm_C κ RX12 cX12_tread 4 7) (v0 : Nat) (v1 : Int32) (v2 : Int32) (v3 : Int32) (hv0 : kd v0 = 12) : sm_S κ (fun r : Int64 => .inr (some (.long r))) (.inl (0, [some (xad κ v0), some (.int v1), some (.int v2), some (.int v3)], [])) (fnX12_tread v0 v1 v2 v3) := by
  unfold fnX12_tread
  refine sr_aload_n (i := 0) (q := 1) C (show decode cX12_tread 0 = .ok (.aload_n 0, 1) from by decide +kernel) rfl rfl rfl ?_
  refine sr_iload_n (i := 1) (q := 2) C (show decode cX12_tread 1 = .ok (.iload_n 1, 1) from by decide +kernel) rfl rfl rfl ?_
  refine sr_cVz (As := [.int v1]) (st := []) (b := v0) (q := 5) C yvX12_isStone ml_X12_111 (cnX12_isStone (xo κ) v0 v1 hv0) hv0 (by decide) rfl rfl rfl (by decide) (by decide) (Nat.le_of_ble_eq_true rfl) rfl (show decode cX12_tread 2 = .ok (.invokevirtual 111, 3) from by decide +kernel) rfl (fun x2 => ?_)
  refine sr_if_eq (q := 8) C 27 (show decode cX12_tread 5 = .ok (.ifCond .eq 22, 3) from by decide +kernel) (by decide) rfl ?_ ?_
  · refine sr_ldc2 (q := 30) C co_X12_494 (show decode cX12_tread 27 = .ok (.ldc2_w 494, 3) from by decide +kernel) rfl ?_
    exact sr_lreturn C _ rfl (show decode cX12_tread 30 = .ok (.lreturn, 1) from by decide +kernel)
  · refine sr_aload_n (i := 0) (q := 9) C (show decode cX12_tread 8 = .ok (.aload_n 0, 1) from by decide +kernel) rfl rfl rfl ?_
    refine sr_iload_n (i := 2) (q := 10) C (show decode cX12_tread 9 = .ok (.iload_n 2, 1) from by decide +kernel) rfl rfl rfl ?_
    refine sr_iload_n (i := 3) (q := 11) C (show decode cX12_tread 10 = .ok (.iload_n 3, 1) from by decide +kernel) rfl rfl rfl ?_
    refine sr_cVz (As := [.int v2, .int v3]) (st := []) (b := v0) (q := 14) C yvX12_isLoad ml_X12_453 (cnX12_isLoad (xo κ) v0 v2 v3 hv0) hv0 (by decide) rfl rfl rfl (by decide) (by decide) (Nat.le_of_ble_eq_true rfl) rfl (show decode cX12_tread 11 = .ok (.invokevirtual 453, 3) from by decide +kernel) rfl (fun x11 => ?_)
    refine sr_if_eq (q := 17) C 27 (show decode cX12_tread 14 = .ok (.ifCond .eq 13, 3) from by decide +kernel) (by decide) rfl ?_ ?_
    · refine sr_ldc2 (q := 30) C co_X12_494 (show decode cX12_tread 27 = .ok (.ldc2_w 494, 3) from by decide +kernel) rfl ?_
      exact sr_lreturn C _ rfl (show decode cX12_tread 30 = .ok (.lreturn, 1) from by decide +kernel)
    · refine sr_aload_n (i := 0) (q := 18) C (show decode cX12_tread 17 = .ok (.aload_n 0, 1) from by decide +kernel) rfl rfl rfl ?_
      refine sr_iload_n (i := 1) (q := 19) C (show decode cX12_tread 18 = .ok (.iload_n 1, 1) from by decide +kernel) rfl rfl rfl ?_
      refine sr_iload_n (i := 2) (q := 20) C (show decode cX12_tread 19 = .ok (.iload_n 2, 1) from by decide +kernel) rfl rfl rfl ?_
      refine sr_iload_n (i := 3) (q := 21) C (show decode cX12_tread 20 = .ok (.iload_n 3, 1) from by decide +kernel) rfl rfl rfl ?_
      refine sr_cVl (As := [.int v1, .int v2, .int v3]) (st := []) (b := v0) (q := 24) C yvX12_treadOf ml_X12_496 (cnX12_treadOf (xo κ) v0 v1 v2 v3 hv0) hv0 (by decide) rfl rfl rfl (by decide) (by decide) (Nat.le_of_ble_eq_true rfl) rfl (show decode cX12_tread 21 = .ok (.invokevirtual 496, 3) from by decide +kernel) rfl (fun x21 => ?_)
      refine sr_goto (q := 30) C (show decode cX12_tread 24 = .ok (.goto 6, 3) from by decide +kernel) (by decide) ?_
      exact sr_lreturn C _ rfl (show decode cX12_tread 30 = .ok (.lreturn, 1) from by decide +kernel)
theorem cnX12_tread (ω : sm_O) (v0 : Nat) (v1 : Int32) (v2 : Int32) (v3 : Int32) (hv0 : kd v0 = 12) : sm_Mt 7 yX12_tread cX12_tread 4 (some .long) ω [.ref (ω.1 + v0), .int v1, .int v2, .int v3] (fun a => some (.long a)) (fnX12_tread v0 v1 v2 v3) := by
  refine sm_conL (r := fun a => a) (by decide) (Nat.le_of_ble_eq_true rfl) ?_
  intro κ hκ C
  subst hκ
  exact slX12_tread C v0 v1 v2 v3 hv0
set_option maxRecDepth 100000 in
theorem yvX12_tread : sm_YV yX12_tread cX12_tread 4 (some .long) 3 := ⟨⟨lw_m (List.mem_of_getElem? (i := 2135) rfl) rfl, lw_m (List.mem_of_getElem? (i := 153) rfl) rfl, by decide +kernel, by decide +kernel, by decide +kernel⟩, lw_m (List.mem_of_getElem? (i := 2133) rfl) rfl, lw_m (List.mem_of_getElem? (i := 2134) rfl) rfl⟩
def fnX12_waits_L16 : Nat → Nat → Int32 → Int32 → Int32 → sm_M Int32
  | 0, _, _, _, _ => m_fail
  | n + 1, v0, v1, v2, v4 => m_br ((60 : Int32) < v4)
    (m_ret (-1 : Int32))
    (m_bnd (fnX12_meet v0 v1 v2 v4) fun x28 => m_br ((bI x28) = 0)
    (m_ret v4)
    ((fnX12_waits_L16 n) v0 v1 v2 (v4 + (1 : Int32))))
set_option maxHeartbeats 4000000 in
set_option maxRecDepth 100000 in
theorem slX12_waits_L16 {κ : sm_X} (C : sm_C κ RX12 cX12_waits 5 4) : ∀ (n : Nat) (v0 : Nat) (v1 : Int32) (v2 : Int32) (v4 : Int32) (hv0 : kd v0 = 12), sm_S κ (fun r : Int32 => .inr (some (.int r))) (.inl (16, [some (xad κ v0), some (.int v1), some (.int v2), none, some (.int v4)], [])) (fnX12_waits_L16 n v0 v1 v2 v4) := by
  intro n
  induction n with
  | zero =>
    intros
    exact sr_fail
  | succ n K16 =>
    intro v0 v1 v2 v4 hv0
    unfold fnX12_waits_L16
    refine sr_iload (i := 4) (q := 18) C (show decode cX12_waits 16 = .ok (.iload 4, 2) from by decide +kernel) rfl rfl ?_
    refine sr_bipush (v := (60 : Int32)) (q := 20) C (show decode cX12_waits 18 = .ok (.bipush 60, 2) from by decide +kernel) (by decide) rfl ?_
    refine sr_icmp_gt (q := 23) C 43 (show decode cX12_waits 20 = .ok (.if_icmp .gt 23, 3) from by decide +kernel) (by decide) rfl ?_ ?_
    · refine sr_iconst (v := (-1 : Int32)) (q := 44) C (show decode cX12_waits 43 = .ok (.iconst (-1), 1) from by decide +kernel) (by decide) rfl ?_
      exact sr_ireturn C _ rfl (show decode cX12_waits 44 = .ok (.ireturn, 1) from by decide +kernel)
    · refine sr_aload_n (i := 0) (q := 24) C (show decode cX12_waits 23 = .ok (.aload_n 0, 1) from by decide +kernel) rfl rfl rfl ?_
      refine sr_iload_n (i := 1) (q := 25) C (show decode cX12_waits 24 = .ok (.iload_n 1, 1) from by decide +kernel) rfl rfl rfl ?_
      refine sr_iload_n (i := 2) (q := 26) C (show decode cX12_waits 25 = .ok (.iload_n 2, 1) from by decide +kernel) rfl rfl rfl ?_
      refine sr_iload (i := 4) (q := 28) C (show decode cX12_waits 26 = .ok (.iload 4, 2) from by decide +kernel) rfl rfl ?_
      refine sr_cVz (As := [.int v1, .int v2, .int v4]) (st := []) (b := v0) (q := 31) C yvX12_meet ml_X12_514 (cnX12_meet (xo κ) v0 v1 v2 v4 hv0) hv0 (by decide) rfl rfl rfl (by decide) (by decide) (Nat.le_of_ble_eq_true rfl) rfl (show decode cX12_waits 28 = .ok (.invokevirtual 514, 3) from by decide +kernel) rfl (fun x28 => ?_)
      refine sr_if_ne (q := 34) C 37 (show decode cX12_waits 31 = .ok (.ifCond .ne 6, 3) from by decide +kernel) (by decide) rfl ?_ ?_
      · refine sr_iinc (v := v4 + (1 : Int32)) (L' := [some (xad κ v0), some (.int v1), some (.int v2), none, some (.int (v4 + (1 : Int32)))]) (q := 40) C (show decode cX12_waits 37 = .ok (.iinc 4 1, 3) from by decide +kernel) rfl rfl (by decide) rfl rfl ?_
        refine sr_goto (q := 16) C (show decode cX12_waits 40 = .ok (.goto (-24), 3) from by decide +kernel) (by decide) ?_
        exact K16 v0 v1 v2 (v4 + (1 : Int32)) hv0
      · refine sr_iload (i := 4) (q := 36) C (show decode cX12_waits 34 = .ok (.iload 4, 2) from by decide +kernel) rfl rfl ?_
        exact sr_ireturn C _ rfl (show decode cX12_waits 36 = .ok (.ireturn, 1) from by decide +kernel)
def fnX12_waits (v0 : Nat) (v1 : Int32) (v2 : Int32) : sm_M Int32 := m_bnd (fnX12_asksTwo v0 v1 v2) fun x3 => m_br (0 ≤ x3)
    (fnX12_waits_L16 4096 v0 v1 v2 (0 : Int32))
    (m_ret x3)
set_option maxHeartbeats 4000000 in
set_option maxRecDepth 100000 in
theorem slX12_waits {κ : sm_X} (C : sm_C κ RX12 cX12_waits 5 4) (v0 : Nat) (v1 : Int32) (v2 : Int32) (hv0 : kd v0 = 12) : sm_S κ (fun r : Int32 => .inr (some (.int r))) (.inl (0, [some (xad κ v0), some (.int v1), some (.int v2), none, none], [])) (fnX12_waits v0 v1 v2) := by
  unfold fnX12_waits
  refine sr_aload_n (i := 0) (q := 1) C (show decode cX12_waits 0 = .ok (.aload_n 0, 1) from by decide +kernel) rfl rfl rfl ?_
  refine sr_iload_n (i := 1) (q := 2) C (show decode cX12_waits 1 = .ok (.iload_n 1, 1) from by decide +kernel) rfl rfl rfl ?_
  refine sr_iload_n (i := 2) (q := 3) C (show decode cX12_waits 2 = .ok (.iload_n 2, 1) from by decide +kernel) rfl rfl rfl ?_
  refine sr_cVi (As := [.int v1, .int v2]) (st := []) (b := v0) (q := 6) C yvX12_asksTwo ml_X12_511 (cnX12_asksTwo (xo κ) v0 v1 v2 hv0) hv0 (by decide) rfl rfl rfl (by decide) (by decide) (Nat.le_of_ble_eq_true rfl) rfl (show decode cX12_waits 3 = .ok (.invokevirtual 511, 3) from by decide +kernel) rfl (fun x3 => ?_)
  refine sr_istore_n (i := 3) (L' := [some (xad κ v0), some (.int v1), some (.int v2), some (.int x3), none]) (q := 7) C (show decode cX12_waits 6 = .ok (.istore_n 3, 1) from by decide +kernel) rfl (by decide) rfl rfl ?_
  refine sr_iload_n (i := 3) (q := 8) C (show decode cX12_waits 7 = .ok (.iload_n 3, 1) from by decide +kernel) rfl rfl rfl ?_
  refine sr_if_ge (q := 11) C 13 (show decode cX12_waits 8 = .ok (.ifCond .ge 5, 3) from by decide +kernel) (by decide) rfl ?_ ?_
  · refine sr_iconst (v := (0 : Int32)) (q := 14) C (show decode cX12_waits 13 = .ok (.iconst 0, 1) from by decide +kernel) (by decide) rfl ?_
    refine sr_istore (i := 4) (L' := [some (xad κ v0), some (.int v1), some (.int v2), some (.int x3), some (.int (0 : Int32))]) (q := 16) C (show decode cX12_waits 14 = .ok (.istore 4, 2) from by decide +kernel) (by decide) rfl rfl ?_
    refine sr_weak (L' := [some (xad κ v0), some (.int v1), some (.int v2), none, some (.int (0 : Int32))]) ⟨rfl, rfl, rfl, rfl, trivial⟩ ?_
    exact slX12_waits_L16 C 4096 v0 v1 v2 (0 : Int32) hv0
  · refine sr_iload_n (i := 3) (q := 12) C (show decode cX12_waits 11 = .ok (.iload_n 3, 1) from by decide +kernel) rfl rfl rfl ?_
    exact sr_ireturn C _ rfl (show decode cX12_waits 12 = .ok (.ireturn, 1) from by decide +kernel)
theorem cnX12_waits (ω : sm_O) (v0 : Nat) (v1 : Int32) (v2 : Int32) (hv0 : kd v0 = 12) : sm_Mt 4 yX12_waits cX12_waits 5 (some .int) ω [.ref (ω.1 + v0), .int v1, .int v2] (fun a => some (.int a)) (fnX12_waits v0 v1 v2) := by
  refine sm_conI (r := fun a => a) (by decide) (fun _ => rfl) (Nat.le_of_ble_eq_true rfl) ?_
  intro κ hκ C
  subst hκ
  exact slX12_waits C v0 v1 v2 hv0
set_option maxRecDepth 100000 in
theorem yvX12_waits : sm_YV yX12_waits cX12_waits 5 (some .int) 2 := ⟨⟨lw_m (List.mem_of_getElem? (i := 2172) rfl) rfl, lw_m (List.mem_of_getElem? (i := 153) rfl) rfl, by decide +kernel, by decide +kernel, by decide +kernel⟩, lw_m (List.mem_of_getElem? (i := 2170) rfl) rfl, lw_m (List.mem_of_getElem? (i := 2171) rfl) rfl⟩
def fnX12_where_J119 (k37 : Nat → Int32 → Int32 → Int32 → Int32 → Int32 → sm_M Int32) (v0 : Nat) (v1 : Int32) (v2 : Int32) (v3 : Int32) (v4 : Int32) (v5 : Int32) : sm_M Int32 := k37 v0 v1 v2 v3 v4 (v5 + (1 : Int32))
set_option maxHeartbeats 4000000 in
set_option maxRecDepth 100000 in
theorem slX12_where_J119 {κ : sm_X} (C : sm_C κ RX12 cX12_where 8 6) {k37 : Nat → Int32 → Int32 → Int32 → Int32 → Int32 → sm_M Int32} (K37 : ∀ (v0 : Nat) (v1 : Int32) (v2 : Int32) (v3 : Int32) (v4 : Int32) (v5 : Int32) (hv0 : kd v0 = 12), sm_S κ (fun r : Int32 => .inr (some (.int r))) (.inl (37, [some (xad κ v0), some (.int v1), some (.int v2), some (.int v3), some (.int v4), some (.int v5), none, none], [])) (k37 v0 v1 v2 v3 v4 v5)) (v0 : Nat) (v1 : Int32) (v2 : Int32) (v3 : Int32) (v4 : Int32) (v5 : Int32) (hv0 : kd v0 = 12) : sm_S κ (fun r : Int32 => .inr (some (.int r))) (.inl (119, [some (xad κ v0), some (.int v1), some (.int v2), some (.int v3), some (.int v4), some (.int v5), none, none], [])) (fnX12_where_J119 k37 v0 v1 v2 v3 v4 v5) := by
  unfold fnX12_where_J119
  refine sr_iinc (v := v5 + (1 : Int32)) (L' := [some (xad κ v0), some (.int v1), some (.int v2), some (.int v3), some (.int v4), some (.int (v5 + (1 : Int32))), none, none]) (q := 122) C (show decode cX12_where 119 = .ok (.iinc 5 1, 3) from by decide +kernel) rfl rfl (by decide) rfl rfl ?_
  refine sr_goto (q := 37) C (show decode cX12_where 122 = .ok (.goto (-85), 3) from by decide +kernel) (by decide) ?_
  exact K37 v0 v1 v2 v3 v4 (v5 + (1 : Int32)) hv0
def fnX12_where_J113 (k37 : Nat → Int32 → Int32 → Int32 → Int32 → Int32 → sm_M Int32) (k51 : Nat → Int32 → Int32 → Int32 → Int32 → Int32 → Int32 → sm_M Int32) (v0 : Nat) (v1 : Int32) (v2 : Int32) (v3 : Int32) (v4 : Int32) (v5 : Int32) (v6 : Int32) : sm_M Int32 := k51 v0 v1 v2 v3 v4 v5 (v6 + (1 : Int32))
set_option maxHeartbeats 4000000 in
set_option maxRecDepth 100000 in
theorem slX12_where_J113 {κ : sm_X} (C : sm_C κ RX12 cX12_where 8 6) {k37 : Nat → Int32 → Int32 → Int32 → Int32 → Int32 → sm_M Int32} (K37 : ∀ (v0 : Nat) (v1 : Int32) (v2 : Int32) (v3 : Int32) (v4 : Int32) (v5 : Int32) (hv0 : kd v0 = 12), sm_S κ (fun r : Int32 => .inr (some (.int r))) (.inl (37, [some (xad κ v0), some (.int v1), some (.int v2), some (.int v3), some (.int v4), some (.int v5), none, none], [])) (k37 v0 v1 v2 v3 v4 v5)) {k51 : Nat → Int32 → Int32 → Int32 → Int32 → Int32 → Int32 → sm_M Int32} (K51 : ∀ (v0 : Nat) (v1 : Int32) (v2 : Int32) (v3 : Int32) (v4 : Int32) (v5 : Int32) (v6 : Int32) (hv0 : kd v0 = 12), sm_S κ (fun r : Int32 => .inr (some (.int r))) (.inl (51, [some (xad κ v0), some (.int v1), some (.int v2), some (.int v3), some (.int v4), some (.int v5), some (.int v6), none], [])) (k51 v0 v1 v2 v3 v4 v5 v6)) (v0 : Nat) (v1 : Int32) (v2 : Int32) (v3 : Int32) (v4 : Int32) (v5 : Int32) (v6 : Int32) (hv0 : kd v0 = 12) : sm_S κ (fun r : Int32 => .inr (some (.int r))) (.inl (113, [some (xad κ v0), some (.int v1), some (.int v2), some (.int v3), some (.int v4), some (.int v5), some (.int v6), none], [])) (fnX12_where_J113 k37 k51 v0 v1 v2 v3 v4 v5 v6) := by
  unfold fnX12_where_J113
  refine sr_iinc (v := v6 + (1 : Int32)) (L' := [some (xad κ v0), some (.int v1), some (.int v2), some (.int v3), some (.int v4), some (.int v5), some (.int (v6 + (1 : Int32))), none]) (q := 116) C (show decode cX12_where 113 = .ok (.iinc 6 1, 3) from by decide +kernel) rfl rfl (by decide) rfl rfl ?_
  refine sr_goto (q := 51) C (show decode cX12_where 116 = .ok (.goto (-65), 3) from by decide +kernel) (by decide) ?_
  exact K51 v0 v1 v2 v3 v4 v5 (v6 + (1 : Int32)) hv0
def fnX12_where_J88 (k37 : Nat → Int32 → Int32 → Int32 → Int32 → Int32 → sm_M Int32) (k51 : Nat → Int32 → Int32 → Int32 → Int32 → Int32 → Int32 → sm_M Int32) (v0 : Nat) (v1 : Int32) (v2 : Int32) (v3 : Int32) (v4 : Int32) (v5 : Int32) (v6 : Int32) (s0 : Int32) : sm_M Int32 := m_br (v4 < s0)
    (m_nm (v6 + ((100 : Int32) * v5)) fun y108 => fnX12_where_J113 k37 k51 v0 v1 v2 y108 s0 v5 v6)
    (fnX12_where_J113 k37 k51 v0 v1 v2 v3 v4 v5 v6)
set_option maxHeartbeats 4000000 in
set_option maxRecDepth 100000 in
theorem slX12_where_J88 {κ : sm_X} (C : sm_C κ RX12 cX12_where 8 6) {k37 : Nat → Int32 → Int32 → Int32 → Int32 → Int32 → sm_M Int32} (K37 : ∀ (v0 : Nat) (v1 : Int32) (v2 : Int32) (v3 : Int32) (v4 : Int32) (v5 : Int32) (hv0 : kd v0 = 12), sm_S κ (fun r : Int32 => .inr (some (.int r))) (.inl (37, [some (xad κ v0), some (.int v1), some (.int v2), some (.int v3), some (.int v4), some (.int v5), none, none], [])) (k37 v0 v1 v2 v3 v4 v5)) {k51 : Nat → Int32 → Int32 → Int32 → Int32 → Int32 → Int32 → sm_M Int32} (K51 : ∀ (v0 : Nat) (v1 : Int32) (v2 : Int32) (v3 : Int32) (v4 : Int32) (v5 : Int32) (v6 : Int32) (hv0 : kd v0 = 12), sm_S κ (fun r : Int32 => .inr (some (.int r))) (.inl (51, [some (xad κ v0), some (.int v1), some (.int v2), some (.int v3), some (.int v4), some (.int v5), some (.int v6), none], [])) (k51 v0 v1 v2 v3 v4 v5 v6)) (v0 : Nat) (v1 : Int32) (v2 : Int32) (v3 : Int32) (v4 : Int32) (v5 : Int32) (v6 : Int32) (s0 : Int32) (hv0 : kd v0 = 12) : sm_S κ (fun r : Int32 => .inr (some (.int r))) (.inl (88, [some (xad κ v0), some (.int v1), some (.int v2), some (.int v3), some (.int v4), some (.int v5), some (.int v6), none], [.int s0])) (fnX12_where_J88 k37 k51 v0 v1 v2 v3 v4 v5 v6 s0) := by
  unfold fnX12_where_J88
  refine sr_istore (i := 7) (L' := [some (xad κ v0), some (.int v1), some (.int v2), some (.int v3), some (.int v4), some (.int v5), some (.int v6), some (.int s0)]) (q := 90) C (show decode cX12_where 88 = .ok (.istore 7, 2) from by decide +kernel) (by decide) rfl rfl ?_
  refine sr_iload (i := 7) (q := 92) C (show decode cX12_where 90 = .ok (.iload 7, 2) from by decide +kernel) rfl rfl ?_
  refine sr_iload (i := 4) (q := 94) C (show decode cX12_where 92 = .ok (.iload 4, 2) from by decide +kernel) rfl rfl ?_
  refine sr_icmp_gt (q := 97) C 100 (show decode cX12_where 94 = .ok (.if_icmp .gt 6, 3) from by decide +kernel) (by decide) rfl ?_ ?_
  · refine sr_iload (i := 6) (q := 102) C (show decode cX12_where 100 = .ok (.iload 6, 2) from by decide +kernel) rfl rfl ?_
    refine sr_bipush (v := (100 : Int32)) (q := 104) C (show decode cX12_where 102 = .ok (.bipush 100, 2) from by decide +kernel) (by decide) rfl ?_
    refine sr_iload (i := 5) (q := 106) C (show decode cX12_where 104 = .ok (.iload 5, 2) from by decide +kernel) rfl rfl ?_
    refine sr_imul (q := 107) C (show decode cX12_where 106 = .ok (.imul, 1) from by decide +kernel) rfl ?_
    refine sr_iadd (q := 108) C (show decode cX12_where 107 = .ok (.iadd, 1) from by decide +kernel) rfl ?_
    refine sr_nmi (fun y108 => ?_)
    refine sr_istore_n (i := 3) (L' := [some (xad κ v0), some (.int v1), some (.int v2), some (.int y108), some (.int v4), some (.int v5), some (.int v6), some (.int s0)]) (q := 109) C (show decode cX12_where 108 = .ok (.istore_n 3, 1) from by decide +kernel) rfl (by decide) rfl rfl ?_
    refine sr_iload (i := 7) (q := 111) C (show decode cX12_where 109 = .ok (.iload 7, 2) from by decide +kernel) rfl rfl ?_
    refine sr_istore (i := 4) (L' := [some (xad κ v0), some (.int v1), some (.int v2), some (.int y108), some (.int s0), some (.int v5), some (.int v6), some (.int s0)]) (q := 113) C (show decode cX12_where 111 = .ok (.istore 4, 2) from by decide +kernel) (by decide) rfl rfl ?_
    refine sr_weak (L' := [some (xad κ v0), some (.int v1), some (.int v2), some (.int y108), some (.int s0), some (.int v5), some (.int v6), none]) ⟨rfl, rfl, rfl, rfl, rfl, rfl, rfl, trivial⟩ ?_
    exact slX12_where_J113 C K37 K51 v0 v1 v2 y108 s0 v5 v6 hv0
  · refine sr_goto (q := 113) C (show decode cX12_where 97 = .ok (.goto 16, 3) from by decide +kernel) (by decide) ?_
    refine sr_weak (L' := [some (xad κ v0), some (.int v1), some (.int v2), some (.int v3), some (.int v4), some (.int v5), some (.int v6), none]) ⟨rfl, rfl, rfl, rfl, rfl, rfl, rfl, trivial⟩ ?_
    exact slX12_where_J113 C K37 K51 v0 v1 v2 v3 v4 v5 v6 hv0
def fnX12_where_L51 (k37 : Nat → Int32 → Int32 → Int32 → Int32 → Int32 → sm_M Int32) : Nat → Nat → Int32 → Int32 → Int32 → Int32 → Int32 → Int32 → sm_M Int32
  | 0, _, _, _, _, _, _, _ => m_fail
  | n + 1, v0, v1, v2, v3, v4, v5, v6 => m_ai (lk v0 1) (2 : Int32) fun x58 => m_br (x58 ≤ v6)
    (fnX12_where_J119 k37 v0 v1 v2 v3 v4 v5)
    (m_bnd (fnX12_stoneOn v0 v6 v5) fun x67 => m_br (x67 = (-1 : Int32))
    (m_bnd (fnX12_withMore v0 v6 v5 v1 v2) fun x81 => fnX12_where_J88 k37 (fnX12_where_L51 k37 n) v0 v1 v2 v3 v4 v5 v6 x81)
    (fnX12_where_J88 k37 (fnX12_where_L51 k37 n) v0 v1 v2 v3 v4 v5 v6 (-1 : Int32)))
set_option maxHeartbeats 4000000 in
set_option maxRecDepth 100000 in
theorem slX12_where_L51 {κ : sm_X} (C : sm_C κ RX12 cX12_where 8 6) {k37 : Nat → Int32 → Int32 → Int32 → Int32 → Int32 → sm_M Int32} (K37 : ∀ (v0 : Nat) (v1 : Int32) (v2 : Int32) (v3 : Int32) (v4 : Int32) (v5 : Int32) (hv0 : kd v0 = 12), sm_S κ (fun r : Int32 => .inr (some (.int r))) (.inl (37, [some (xad κ v0), some (.int v1), some (.int v2), some (.int v3), some (.int v4), some (.int v5), none, none], [])) (k37 v0 v1 v2 v3 v4 v5)) : ∀ (n : Nat) (v0 : Nat) (v1 : Int32) (v2 : Int32) (v3 : Int32) (v4 : Int32) (v5 : Int32) (v6 : Int32) (hv0 : kd v0 = 12), sm_S κ (fun r : Int32 => .inr (some (.int r))) (.inl (51, [some (xad κ v0), some (.int v1), some (.int v2), some (.int v3), some (.int v4), some (.int v5), some (.int v6), none], [])) (fnX12_where_L51 k37 n v0 v1 v2 v3 v4 v5 v6) := by
  intro n
  induction n with
  | zero =>
    intros
    exact sr_fail
  | succ n K51 =>
    intro v0 v1 v2 v3 v4 v5 v6 hv0
    unfold fnX12_where_L51
    refine sr_iload (i := 6) (q := 53) C (show decode cX12_where 51 = .ok (.iload 6, 2) from by decide +kernel) rfl rfl ?_
    refine sr_aload_n (i := 0) (q := 54) C (show decode cX12_where 53 = .ok (.aload_n 0, 1) from by decide +kernel) rfl rfl rfl ?_
    refine sr_getr (q := 57) C fl_X12_9 hv0 (show decode cX12_where 54 = .ok (.getfield 9, 3) from by decide +kernel) rfl ?_
    refine sr_iconst (v := (2 : Int32)) (q := 58) C (show decode cX12_where 57 = .ok (.iconst 2, 1) from by decide +kernel) (by decide) rfl ?_
    refine sr_iaload (q := 59) C (kt hv0 kp_12_1) (show decode cX12_where 58 = .ok (.iaload, 1) from by decide +kernel) rfl (fun x58 => ?_)
    refine sr_icmp_ge (q := 62) C 119 (show decode cX12_where 59 = .ok (.if_icmp .ge 60, 3) from by decide +kernel) (by decide) rfl ?_ ?_
    · refine sr_weak (L' := [some (xad κ v0), some (.int v1), some (.int v2), some (.int v3), some (.int v4), some (.int v5), none, none]) ⟨rfl, rfl, rfl, rfl, rfl, rfl, trivial⟩ ?_
      exact slX12_where_J119 C K37 v0 v1 v2 v3 v4 v5 hv0
    · refine sr_aload_n (i := 0) (q := 63) C (show decode cX12_where 62 = .ok (.aload_n 0, 1) from by decide +kernel) rfl rfl rfl ?_
      refine sr_iload (i := 6) (q := 65) C (show decode cX12_where 63 = .ok (.iload 6, 2) from by decide +kernel) rfl rfl ?_
      refine sr_iload (i := 5) (q := 67) C (show decode cX12_where 65 = .ok (.iload 5, 2) from by decide +kernel) rfl rfl ?_
      refine sr_cVi (As := [.int v6, .int v5]) (st := []) (b := v0) (q := 70) C yvX12_stoneOn ml_X12_462 (cnX12_stoneOn (xo κ) v0 v6 v5 hv0) hv0 (by decide) rfl rfl rfl (by decide) (by decide) (Nat.le_of_ble_eq_true rfl) rfl (show decode cX12_where 67 = .ok (.invokevirtual 462, 3) from by decide +kernel) rfl (fun x67 => ?_)
      refine sr_iconst (v := (-1 : Int32)) (q := 71) C (show decode cX12_where 70 = .ok (.iconst (-1), 1) from by decide +kernel) (by decide) rfl ?_
      refine sr_icmp_ne (q := 74) C 87 (show decode cX12_where 71 = .ok (.if_icmp .ne 16, 3) from by decide +kernel) (by decide) rfl ?_ ?_
      · refine sr_iconst (v := (-1 : Int32)) (q := 88) C (show decode cX12_where 87 = .ok (.iconst (-1), 1) from by decide +kernel) (by decide) rfl ?_
        exact slX12_where_J88 C K37 K51 v0 v1 v2 v3 v4 v5 v6 (-1 : Int32) hv0
      · refine sr_aload_n (i := 0) (q := 75) C (show decode cX12_where 74 = .ok (.aload_n 0, 1) from by decide +kernel) rfl rfl rfl ?_
        refine sr_iload (i := 6) (q := 77) C (show decode cX12_where 75 = .ok (.iload 6, 2) from by decide +kernel) rfl rfl ?_
        refine sr_iload (i := 5) (q := 79) C (show decode cX12_where 77 = .ok (.iload 5, 2) from by decide +kernel) rfl rfl ?_
        refine sr_iload_n (i := 1) (q := 80) C (show decode cX12_where 79 = .ok (.iload_n 1, 1) from by decide +kernel) rfl rfl rfl ?_
        refine sr_iload_n (i := 2) (q := 81) C (show decode cX12_where 80 = .ok (.iload_n 2, 1) from by decide +kernel) rfl rfl rfl ?_
        refine sr_cVi (As := [.int v6, .int v5, .int v1, .int v2]) (st := []) (b := v0) (q := 84) C yvX12_withMore ml_X12_465 (cnX12_withMore (xo κ) v0 v6 v5 v1 v2 hv0) hv0 (by decide) rfl rfl rfl (by decide) (by decide) (Nat.le_of_ble_eq_true rfl) rfl (show decode cX12_where 81 = .ok (.invokevirtual 465, 3) from by decide +kernel) rfl (fun x81 => ?_)
        refine sr_goto (q := 88) C (show decode cX12_where 84 = .ok (.goto 4, 3) from by decide +kernel) (by decide) ?_
        exact slX12_where_J88 C K37 K51 v0 v1 v2 v3 v4 v5 v6 x81 hv0
def fnX12_where_L37 : Nat → Nat → Int32 → Int32 → Int32 → Int32 → Int32 → sm_M Int32
  | 0, _, _, _, _, _, _ => m_fail
  | n + 1, v0, v1, v2, v3, v4, v5 => m_ai (lk v0 1) (1 : Int32) fun x44 => m_br (x44 ≤ v5)
    (m_ret v3)
    (fnX12_where_L51 (fnX12_where_L37 n) 4096 v0 v1 v2 v3 v4 v5 (0 : Int32))
set_option maxHeartbeats 4000000 in
set_option maxRecDepth 100000 in
theorem slX12_where_L37 {κ : sm_X} (C : sm_C κ RX12 cX12_where 8 6) : ∀ (n : Nat) (v0 : Nat) (v1 : Int32) (v2 : Int32) (v3 : Int32) (v4 : Int32) (v5 : Int32) (hv0 : kd v0 = 12), sm_S κ (fun r : Int32 => .inr (some (.int r))) (.inl (37, [some (xad κ v0), some (.int v1), some (.int v2), some (.int v3), some (.int v4), some (.int v5), none, none], [])) (fnX12_where_L37 n v0 v1 v2 v3 v4 v5) := by
  intro n
  induction n with
  | zero =>
    intros
    exact sr_fail
  | succ n K37 =>
    intro v0 v1 v2 v3 v4 v5 hv0
    unfold fnX12_where_L37
    refine sr_iload (i := 5) (q := 39) C (show decode cX12_where 37 = .ok (.iload 5, 2) from by decide +kernel) rfl rfl ?_
    refine sr_aload_n (i := 0) (q := 40) C (show decode cX12_where 39 = .ok (.aload_n 0, 1) from by decide +kernel) rfl rfl rfl ?_
    refine sr_getr (q := 43) C fl_X12_9 hv0 (show decode cX12_where 40 = .ok (.getfield 9, 3) from by decide +kernel) rfl ?_
    refine sr_iconst (v := (1 : Int32)) (q := 44) C (show decode cX12_where 43 = .ok (.iconst 1, 1) from by decide +kernel) (by decide) rfl ?_
    refine sr_iaload (q := 45) C (kt hv0 kp_12_1) (show decode cX12_where 44 = .ok (.iaload, 1) from by decide +kernel) rfl (fun x44 => ?_)
    refine sr_icmp_ge (q := 48) C 125 (show decode cX12_where 45 = .ok (.if_icmp .ge 80, 3) from by decide +kernel) (by decide) rfl ?_ ?_
    · refine sr_iload_n (i := 3) (q := 126) C (show decode cX12_where 125 = .ok (.iload_n 3, 1) from by decide +kernel) rfl rfl rfl ?_
      exact sr_ireturn C _ rfl (show decode cX12_where 126 = .ok (.ireturn, 1) from by decide +kernel)
    · refine sr_iconst (v := (0 : Int32)) (q := 49) C (show decode cX12_where 48 = .ok (.iconst 0, 1) from by decide +kernel) (by decide) rfl ?_
      refine sr_istore (i := 6) (L' := [some (xad κ v0), some (.int v1), some (.int v2), some (.int v3), some (.int v4), some (.int v5), some (.int (0 : Int32)), none]) (q := 51) C (show decode cX12_where 49 = .ok (.istore 6, 2) from by decide +kernel) (by decide) rfl rfl ?_
      exact slX12_where_L51 C K37 4096 v0 v1 v2 v3 v4 v5 (0 : Int32) hv0
def fnX12_where (v0 : Nat) (v1 : Int32) (v2 : Int32) : sm_M Int32 := m_bnd (fnX12_isRiver v0) fun x1 => m_br ((bI x1) = 0)
    (m_ret (-2 : Int32))
    (m_bnd (fnX12_in v1.toInt64 (1 : Int64) (9 : Int64)) fun x13 => m_br ((bI x13) = 0)
    (m_ret (-2 : Int32))
    (m_bnd (fnX12_isStride v2) fun x20 => m_br ((bI x20) = 0)
    (m_ret (-2 : Int32))
    (fnX12_where_L37 4096 v0 v1 v2 (-1 : Int32) (-1 : Int32) (1 : Int32))))
set_option maxHeartbeats 4000000 in
set_option maxRecDepth 100000 in
theorem slX12_where {κ : sm_X} (C : sm_C κ RX12 cX12_where 8 6) (v0 : Nat) (v1 : Int32) (v2 : Int32) (hv0 : kd v0 = 12) : sm_S κ (fun r : Int32 => .inr (some (.int r))) (.inl (0, [some (xad κ v0), some (.int v1), some (.int v2), none, none, none, none, none], [])) (fnX12_where v0 v1 v2) := by
  unfold fnX12_where
  refine sr_aload_n (i := 0) (q := 1) C (show decode cX12_where 0 = .ok (.aload_n 0, 1) from by decide +kernel) rfl rfl rfl ?_
  refine sr_cVz (As := []) (st := []) (b := v0) (q := 4) C yvX12_isRiver ml_X12_107 (cnX12_isRiver (xo κ) v0 hv0) hv0 (by decide) rfl rfl rfl (by decide) (by decide) (Nat.le_of_ble_eq_true rfl) rfl (show decode cX12_where 1 = .ok (.invokevirtual 107, 3) from by decide +kernel) rfl (fun x1 => ?_)
  refine sr_if_eq (q := 7) C 26 (show decode cX12_where 4 = .ok (.ifCond .eq 22, 3) from by decide +kernel) (by decide) rfl ?_ ?_
  · refine sr_bipush (v := (-2 : Int32)) (q := 28) C (show decode cX12_where 26 = .ok (.bipush (-2), 2) from by decide +kernel) (by decide) rfl ?_
    exact sr_ireturn C _ rfl (show decode cX12_where 28 = .ok (.ireturn, 1) from by decide +kernel)
  · refine sr_iload_n (i := 1) (q := 8) C (show decode cX12_where 7 = .ok (.iload_n 1, 1) from by decide +kernel) rfl rfl rfl ?_
    refine sr_i2l (q := 9) C (show decode cX12_where 8 = .ok (.i2l, 1) from by decide +kernel) rfl ?_
    refine sr_lconst (v := (1 : Int64)) (q := 10) C (show decode cX12_where 9 = .ok (.lconst 1, 1) from by decide +kernel) (by decide) rfl ?_
    refine sr_ldc2 (q := 13) C co_X12_262 (show decode cX12_where 10 = .ok (.ldc2_w 262, 3) from by decide +kernel) rfl ?_
    refine sr_cSz (As := [.long v1.toInt64, .long (1 : Int64), .long (9 : Int64)]) (st := []) (q := 16) C ysX12_in ml_X12_103 (cnX12_in (xo κ) v1.toInt64 (1 : Int64) (9 : Int64)) rfl (by decide) (by decide) (Nat.le_of_ble_eq_true rfl) rfl (show decode cX12_where 13 = .ok (.invokestatic 103, 3) from by decide +kernel) rfl (fun x13 => ?_)
    refine sr_if_eq (q := 19) C 26 (show decode cX12_where 16 = .ok (.ifCond .eq 10, 3) from by decide +kernel) (by decide) rfl ?_ ?_
    · refine sr_bipush (v := (-2 : Int32)) (q := 28) C (show decode cX12_where 26 = .ok (.bipush (-2), 2) from by decide +kernel) (by decide) rfl ?_
      exact sr_ireturn C _ rfl (show decode cX12_where 28 = .ok (.ireturn, 1) from by decide +kernel)
    · refine sr_iload_n (i := 2) (q := 20) C (show decode cX12_where 19 = .ok (.iload_n 2, 1) from by decide +kernel) rfl rfl rfl ?_
      refine sr_cSz (As := [.int v2]) (st := []) (q := 23) C ysX12_isStride ml_X12_267 (cnX12_isStride (xo κ) v2) rfl (by decide) (by decide) (Nat.le_of_ble_eq_true rfl) rfl (show decode cX12_where 20 = .ok (.invokestatic 267, 3) from by decide +kernel) rfl (fun x20 => ?_)
      refine sr_if_ne (q := 26) C 29 (show decode cX12_where 23 = .ok (.ifCond .ne 6, 3) from by decide +kernel) (by decide) rfl ?_ ?_
      · refine sr_iconst (v := (-1 : Int32)) (q := 30) C (show decode cX12_where 29 = .ok (.iconst (-1), 1) from by decide +kernel) (by decide) rfl ?_
        refine sr_istore_n (i := 3) (L' := [some (xad κ v0), some (.int v1), some (.int v2), some (.int (-1 : Int32)), none, none, none, none]) (q := 31) C (show decode cX12_where 30 = .ok (.istore_n 3, 1) from by decide +kernel) rfl (by decide) rfl rfl ?_
        refine sr_iconst (v := (-1 : Int32)) (q := 32) C (show decode cX12_where 31 = .ok (.iconst (-1), 1) from by decide +kernel) (by decide) rfl ?_
        refine sr_istore (i := 4) (L' := [some (xad κ v0), some (.int v1), some (.int v2), some (.int (-1 : Int32)), some (.int (-1 : Int32)), none, none, none]) (q := 34) C (show decode cX12_where 32 = .ok (.istore 4, 2) from by decide +kernel) (by decide) rfl rfl ?_
        refine sr_iconst (v := (1 : Int32)) (q := 35) C (show decode cX12_where 34 = .ok (.iconst 1, 1) from by decide +kernel) (by decide) rfl ?_
        refine sr_istore (i := 5) (L' := [some (xad κ v0), some (.int v1), some (.int v2), some (.int (-1 : Int32)), some (.int (-1 : Int32)), some (.int (1 : Int32)), none, none]) (q := 37) C (show decode cX12_where 35 = .ok (.istore 5, 2) from by decide +kernel) (by decide) rfl rfl ?_
        exact slX12_where_L37 C 4096 v0 v1 v2 (-1 : Int32) (-1 : Int32) (1 : Int32) hv0
      · refine sr_bipush (v := (-2 : Int32)) (q := 28) C (show decode cX12_where 26 = .ok (.bipush (-2), 2) from by decide +kernel) (by decide) rfl ?_
        exact sr_ireturn C _ rfl (show decode cX12_where 28 = .ok (.ireturn, 1) from by decide +kernel)
theorem cnX12_where (ω : sm_O) (v0 : Nat) (v1 : Int32) (v2 : Int32) (hv0 : kd v0 = 12) : sm_Mt 6 yX12_where cX12_where 8 (some .int) ω [.ref (ω.1 + v0), .int v1, .int v2] (fun a => some (.int a)) (fnX12_where v0 v1 v2) := by
  refine sm_conI (r := fun a => a) (by decide) (fun _ => rfl) (Nat.le_of_ble_eq_true rfl) ?_
  intro κ hκ C
  subst hκ
  exact slX12_where C v0 v1 v2 hv0
set_option maxRecDepth 100000 in
theorem yvX12_where : sm_YV yX12_where cX12_where 8 (some .int) 2 := ⟨⟨lw_m (List.mem_of_getElem? (i := 2082) rfl) rfl, lw_m (List.mem_of_getElem? (i := 153) rfl) rfl, by decide +kernel, by decide +kernel, by decide +kernel⟩, lw_m (List.mem_of_getElem? (i := 2080) rfl) rfl, lw_m (List.mem_of_getElem? (i := 2081) rfl) rfl⟩
def fnX12_write (v0 : Nat) (v1 : Int32) (v2 : Int32) (v3 : Int64) : sm_M Int32 := m_bnd (fnX12_isSlot v1) fun x1 => m_br ((bI x1) = 0)
    (m_ret (-2 : Int32))
    (m_ai (lk v0 43) v1 fun x15 => m_br (x15 = (-1 : Int32))
    (m_ret (-6 : Int32))
    (m_ai (lk v0 43) v1 fun x31 => m_bnd (fnX12_in v2.toInt64 (0 : Int64) ((x31 - (1 : Int32)).toInt64)) fun x35 => m_br ((bI x35) = 0)
    (m_ret (-7 : Int32))
    (m_ai (lk v0 44) v1 fun x60 => m_bnd (fnX12_cut_ v3 x60) fun x61 => m_sal (lk v0 45) (((60 : Int32) * v1) + v2) x61 <| m_ret (0 : Int32))))
set_option maxHeartbeats 4000000 in
set_option maxRecDepth 100000 in
theorem slX12_write {κ : sm_X} (C : sm_C κ RX12 cX12_write 5 3) (v0 : Nat) (v1 : Int32) (v2 : Int32) (v3 : Int64) (hv0 : kd v0 = 12) : sm_S κ (fun r : Int32 => .inr (some (.int r))) (.inl (0, [some (xad κ v0), some (.int v1), some (.int v2), some (.long v3), none], [])) (fnX12_write v0 v1 v2 v3) := by
  unfold fnX12_write
  refine sr_iload_n (i := 1) (q := 1) C (show decode cX12_write 0 = .ok (.iload_n 1, 1) from by decide +kernel) rfl rfl rfl ?_
  refine sr_cSz (As := [.int v1]) (st := []) (q := 4) C ysX12_isSlot ml_X12_336 (cnX12_isSlot (xo κ) v1) rfl (by decide) (by decide) (Nat.le_of_ble_eq_true rfl) rfl (show decode cX12_write 1 = .ok (.invokestatic 336, 3) from by decide +kernel) rfl (fun x1 => ?_)
  refine sr_if_ne (q := 7) C 10 (show decode cX12_write 4 = .ok (.ifCond .ne 6, 3) from by decide +kernel) (by decide) rfl ?_ ?_
  · refine sr_aload_n (i := 0) (q := 11) C (show decode cX12_write 10 = .ok (.aload_n 0, 1) from by decide +kernel) rfl rfl rfl ?_
    refine sr_getr (q := 14) C fl_X12_86 hv0 (show decode cX12_write 11 = .ok (.getfield 86, 3) from by decide +kernel) rfl ?_
    refine sr_iload_n (i := 1) (q := 15) C (show decode cX12_write 14 = .ok (.iload_n 1, 1) from by decide +kernel) rfl rfl rfl ?_
    refine sr_iaload (q := 16) C (kt hv0 kp_12_43) (show decode cX12_write 15 = .ok (.iaload, 1) from by decide +kernel) rfl (fun x15 => ?_)
    refine sr_iconst (v := (-1 : Int32)) (q := 17) C (show decode cX12_write 16 = .ok (.iconst (-1), 1) from by decide +kernel) (by decide) rfl ?_
    refine sr_icmp_ne (q := 20) C 23 (show decode cX12_write 17 = .ok (.if_icmp .ne 6, 3) from by decide +kernel) (by decide) rfl ?_ ?_
    · refine sr_iload_n (i := 2) (q := 24) C (show decode cX12_write 23 = .ok (.iload_n 2, 1) from by decide +kernel) rfl rfl rfl ?_
      refine sr_i2l (q := 25) C (show decode cX12_write 24 = .ok (.i2l, 1) from by decide +kernel) rfl ?_
      refine sr_lconst (v := (0 : Int64)) (q := 26) C (show decode cX12_write 25 = .ok (.lconst 0, 1) from by decide +kernel) (by decide) rfl ?_
      refine sr_aload_n (i := 0) (q := 27) C (show decode cX12_write 26 = .ok (.aload_n 0, 1) from by decide +kernel) rfl rfl rfl ?_
      refine sr_getr (q := 30) C fl_X12_86 hv0 (show decode cX12_write 27 = .ok (.getfield 86, 3) from by decide +kernel) rfl ?_
      refine sr_iload_n (i := 1) (q := 31) C (show decode cX12_write 30 = .ok (.iload_n 1, 1) from by decide +kernel) rfl rfl rfl ?_
      refine sr_iaload (q := 32) C (kt hv0 kp_12_43) (show decode cX12_write 31 = .ok (.iaload, 1) from by decide +kernel) rfl (fun x31 => ?_)
      refine sr_iconst (v := (1 : Int32)) (q := 33) C (show decode cX12_write 32 = .ok (.iconst 1, 1) from by decide +kernel) (by decide) rfl ?_
      refine sr_isub (q := 34) C (show decode cX12_write 33 = .ok (.isub, 1) from by decide +kernel) rfl ?_
      refine sr_i2l (q := 35) C (show decode cX12_write 34 = .ok (.i2l, 1) from by decide +kernel) rfl ?_
      refine sr_cSz (As := [.long v2.toInt64, .long (0 : Int64), .long ((x31 - (1 : Int32)).toInt64)]) (st := []) (q := 38) C ysX12_in ml_X12_103 (cnX12_in (xo κ) v2.toInt64 (0 : Int64) ((x31 - (1 : Int32)).toInt64)) rfl (by decide) (by decide) (Nat.le_of_ble_eq_true rfl) rfl (show decode cX12_write 35 = .ok (.invokestatic 103, 3) from by decide +kernel) rfl (fun x35 => ?_)
      refine sr_if_ne (q := 41) C 44 (show decode cX12_write 38 = .ok (.ifCond .ne 6, 3) from by decide +kernel) (by decide) rfl ?_ ?_
      · refine sr_aload_n (i := 0) (q := 45) C (show decode cX12_write 44 = .ok (.aload_n 0, 1) from by decide +kernel) rfl rfl rfl ?_
        refine sr_getr (q := 48) C fl_X12_92 hv0 (show decode cX12_write 45 = .ok (.getfield 92, 3) from by decide +kernel) rfl ?_
        refine sr_bipush (v := (60 : Int32)) (q := 50) C (show decode cX12_write 48 = .ok (.bipush 60, 2) from by decide +kernel) (by decide) rfl ?_
        refine sr_iload_n (i := 1) (q := 51) C (show decode cX12_write 50 = .ok (.iload_n 1, 1) from by decide +kernel) rfl rfl rfl ?_
        refine sr_imul (q := 52) C (show decode cX12_write 51 = .ok (.imul, 1) from by decide +kernel) rfl ?_
        refine sr_iload_n (i := 2) (q := 53) C (show decode cX12_write 52 = .ok (.iload_n 2, 1) from by decide +kernel) rfl rfl rfl ?_
        refine sr_iadd (q := 54) C (show decode cX12_write 53 = .ok (.iadd, 1) from by decide +kernel) rfl ?_
        refine sr_lload_n (i := 3) (q := 55) C (show decode cX12_write 54 = .ok (.lload_n 3, 1) from by decide +kernel) rfl rfl rfl ?_
        refine sr_aload_n (i := 0) (q := 56) C (show decode cX12_write 55 = .ok (.aload_n 0, 1) from by decide +kernel) rfl rfl rfl ?_
        refine sr_getr (q := 59) C fl_X12_89 hv0 (show decode cX12_write 56 = .ok (.getfield 89, 3) from by decide +kernel) rfl ?_
        refine sr_iload_n (i := 1) (q := 60) C (show decode cX12_write 59 = .ok (.iload_n 1, 1) from by decide +kernel) rfl rfl rfl ?_
        refine sr_iaload (q := 61) C (kt hv0 kp_12_44) (show decode cX12_write 60 = .ok (.iaload, 1) from by decide +kernel) rfl (fun x60 => ?_)
        refine sr_cSl (As := [.long v3, .int x60]) (st := [.int (((60 : Int32) * v1) + v2), xad κ (lk v0 45)]) (q := 64) C ysX12_cut_ ml_X12_551 (cnX12_cut_ (xo κ) v3 x60) rfl (by decide) (by decide) (Nat.le_of_ble_eq_true rfl) rfl (show decode cX12_write 61 = .ok (.invokestatic 551, 3) from by decide +kernel) rfl (fun x61 => ?_)
        refine sr_lastore (q := 65) C (kt hv0 kp_12_45) (show decode cX12_write 64 = .ok (.lastore, 1) from by decide +kernel) rfl ?_
        refine sr_iconst (v := (0 : Int32)) (q := 66) C (show decode cX12_write 65 = .ok (.iconst 0, 1) from by decide +kernel) (by decide) rfl ?_
        exact sr_ireturn C _ rfl (show decode cX12_write 66 = .ok (.ireturn, 1) from by decide +kernel)
      · refine sr_bipush (v := (-7 : Int32)) (q := 43) C (show decode cX12_write 41 = .ok (.bipush (-7), 2) from by decide +kernel) (by decide) rfl ?_
        exact sr_ireturn C _ rfl (show decode cX12_write 43 = .ok (.ireturn, 1) from by decide +kernel)
    · refine sr_bipush (v := (-6 : Int32)) (q := 22) C (show decode cX12_write 20 = .ok (.bipush (-6), 2) from by decide +kernel) (by decide) rfl ?_
      exact sr_ireturn C _ rfl (show decode cX12_write 22 = .ok (.ireturn, 1) from by decide +kernel)
  · refine sr_bipush (v := (-2 : Int32)) (q := 9) C (show decode cX12_write 7 = .ok (.bipush (-2), 2) from by decide +kernel) (by decide) rfl ?_
    exact sr_ireturn C _ rfl (show decode cX12_write 9 = .ok (.ireturn, 1) from by decide +kernel)
theorem cnX12_write (ω : sm_O) (v0 : Nat) (v1 : Int32) (v2 : Int32) (v3 : Int64) (hv0 : kd v0 = 12) : sm_Mt 3 yX12_write cX12_write 5 (some .int) ω [.ref (ω.1 + v0), .int v1, .int v2, .long v3] (fun a => some (.int a)) (fnX12_write v0 v1 v2 v3) := by
  refine sm_conI (r := fun a => a) (by decide) (fun _ => rfl) (Nat.le_of_ble_eq_true rfl) ?_
  intro κ hκ C
  subst hκ
  exact slX12_write C v0 v1 v2 v3 hv0
set_option maxRecDepth 100000 in
theorem yvX12_write : sm_YV yX12_write cX12_write 5 (some .int) 3 := ⟨⟨lw_m (List.mem_of_getElem? (i := 2237) rfl) rfl, lw_m (List.mem_of_getElem? (i := 153) rfl) rfl, by decide +kernel, by decide +kernel, by decide +kernel⟩, lw_m (List.mem_of_getElem? (i := 2235) rfl) rfl, lw_m (List.mem_of_getElem? (i := 2236) rfl) rfl⟩
