def fnX12_readLine_J83 (v0 : Nat) : sm_M Unit := m_ai (lk v0 14) (0 : Int32) fun x89 => m_sai (lk v0 14) (0 : Int32) (x89 + (1 : Int32)) <| m_ret ()
set_option maxHeartbeats 4000000 in
set_option maxRecDepth 100000 in
theorem slX12_readLine_J83 {κ : sm_X} (C : sm_C κ RX12 cX12_readLine 1 11) (v0 : Nat) (hv0 : kd v0 = 12) : sm_S κ (fun _ : Unit => .inr none) (.inl (83, [some (xad κ v0)], [])) (fnX12_readLine_J83 v0) := by
  unfold fnX12_readLine_J83
  refine sr_aload_n (i := 0) (q := 84) C (show decode cX12_readLine 83 = .ok (.aload_n 0, 1) from by decide +kernel) rfl rfl rfl ?_
  refine sr_getr (q := 87) C fl_X12_31 hv0 (show decode cX12_readLine 84 = .ok (.getfield 31, 3) from by decide +kernel) rfl ?_
  refine sr_iconst (v := (0 : Int32)) (q := 88) C (show decode cX12_readLine 87 = .ok (.iconst 0, 1) from by decide +kernel) (by decide) rfl ?_
  refine sr_dup2 (q := 89) C (show decode cX12_readLine 88 = .ok (.dup2, 1) from by decide +kernel) rfl rfl rfl ?_
  refine sr_iaload (q := 90) C (kt hv0 kp_12_14) (show decode cX12_readLine 89 = .ok (.iaload, 1) from by decide +kernel) rfl (fun x89 => ?_)
  refine sr_iconst (v := (1 : Int32)) (q := 91) C (show decode cX12_readLine 90 = .ok (.iconst 1, 1) from by decide +kernel) (by decide) rfl ?_
  refine sr_iadd (q := 92) C (show decode cX12_readLine 91 = .ok (.iadd, 1) from by decide +kernel) rfl ?_
  refine sr_iastore (q := 93) C (kt hv0 kp_12_14) (show decode cX12_readLine 92 = .ok (.iastore, 1) from by decide +kernel) rfl ?_
  exact sr_vreturn C _ rfl (show decode cX12_readLine 93 = .ok (.return_, 1) from by decide +kernel)
def fnX12_readLine_J72 (v0 : Nat) : sm_M Unit := m_bnd (fnX12_good v0) fun x73 => m_br ((bI x73) = 0)
    (fnX12_readLine_J83 v0)
    (m_bnd (fnX12_advance v0) fun _ => fnX12_readLine_J83 v0)
set_option maxHeartbeats 4000000 in
set_option maxRecDepth 100000 in
theorem slX12_readLine_J72 {κ : sm_X} (C : sm_C κ RX12 cX12_readLine 1 11) (v0 : Nat) (hv0 : kd v0 = 12) : sm_S κ (fun _ : Unit => .inr none) (.inl (72, [some (xad κ v0)], [])) (fnX12_readLine_J72 v0) := by
  unfold fnX12_readLine_J72
  refine sr_aload_n (i := 0) (q := 73) C (show decode cX12_readLine 72 = .ok (.aload_n 0, 1) from by decide +kernel) rfl rfl rfl ?_
  refine sr_cVz (As := []) (st := []) (b := v0) (q := 76) C yvX12_good ml_X12_155 (cnX12_good (xo κ) v0 hv0) hv0 (by decide) rfl rfl rfl (by decide) (by decide) (Nat.le_of_ble_eq_true rfl) rfl (show decode cX12_readLine 73 = .ok (.invokevirtual 155, 3) from by decide +kernel) rfl (fun x73 => ?_)
  refine sr_if_eq (q := 79) C 83 (show decode cX12_readLine 76 = .ok (.ifCond .eq 7, 3) from by decide +kernel) (by decide) rfl ?_ ?_
  · exact slX12_readLine_J83 C v0 hv0
  · refine sr_aload_n (i := 0) (q := 80) C (show decode cX12_readLine 79 = .ok (.aload_n 0, 1) from by decide +kernel) rfl rfl rfl ?_
    refine sr_cVv (As := []) (st := []) (b := v0) (q := 83) C yvX12_advance ml_X12_172 (cnX12_advance (xo κ) v0 hv0) hv0 (by decide) rfl rfl rfl (by decide) (by decide) (Nat.le_of_ble_eq_true rfl) rfl (show decode cX12_readLine 80 = .ok (.invokevirtual 172, 3) from by decide +kernel) rfl (fun _ => ?_)
    exact slX12_readLine_J83 C v0 hv0
def fnX12_readLine_J52 (v0 : Nat) : sm_M Unit := m_bnd (fnX12_good v0) fun x53 => m_br ((bI x53) = 0)
    (fnX12_readLine_J72 v0)
    (m_gi v0 10 fun x60 => m_br (x60 = (3 : Int32))
    (fnX12_readLine_J72 v0)
    (m_bnd (fnX12_errs v0 (1 : Int32)) fun _ => fnX12_readLine_J72 v0))
set_option maxHeartbeats 4000000 in
set_option maxRecDepth 100000 in
theorem slX12_readLine_J52 {κ : sm_X} (C : sm_C κ RX12 cX12_readLine 1 11) (v0 : Nat) (hv0 : kd v0 = 12) : sm_S κ (fun _ : Unit => .inr none) (.inl (52, [some (xad κ v0)], [])) (fnX12_readLine_J52 v0) := by
  unfold fnX12_readLine_J52
  refine sr_aload_n (i := 0) (q := 53) C (show decode cX12_readLine 52 = .ok (.aload_n 0, 1) from by decide +kernel) rfl rfl rfl ?_
  refine sr_cVz (As := []) (st := []) (b := v0) (q := 56) C yvX12_good ml_X12_155 (cnX12_good (xo κ) v0 hv0) hv0 (by decide) rfl rfl rfl (by decide) (by decide) (Nat.le_of_ble_eq_true rfl) rfl (show decode cX12_readLine 53 = .ok (.invokevirtual 155, 3) from by decide +kernel) rfl (fun x53 => ?_)
  refine sr_if_eq (q := 59) C 72 (show decode cX12_readLine 56 = .ok (.ifCond .eq 16, 3) from by decide +kernel) (by decide) rfl ?_ ?_
  · exact slX12_readLine_J72 C v0 hv0
  · refine sr_aload_n (i := 0) (q := 60) C (show decode cX12_readLine 59 = .ok (.aload_n 0, 1) from by decide +kernel) rfl rfl rfl ?_
    refine sr_geti (q := 63) C fl_X12_131 (Or.inl rfl) hv0 (show decode cX12_readLine 60 = .ok (.getfield 131, 3) from by decide +kernel) rfl (fun x60 => ?_)
    refine sr_iconst (v := (3 : Int32)) (q := 64) C (show decode cX12_readLine 63 = .ok (.iconst 3, 1) from by decide +kernel) (by decide) rfl ?_
    refine sr_icmp_eq (q := 67) C 72 (show decode cX12_readLine 64 = .ok (.if_icmp .eq 8, 3) from by decide +kernel) (by decide) rfl ?_ ?_
    · exact slX12_readLine_J72 C v0 hv0
    · refine sr_aload_n (i := 0) (q := 68) C (show decode cX12_readLine 67 = .ok (.aload_n 0, 1) from by decide +kernel) rfl rfl rfl ?_
      refine sr_iconst (v := (1 : Int32)) (q := 69) C (show decode cX12_readLine 68 = .ok (.iconst 1, 1) from by decide +kernel) (by decide) rfl ?_
      refine sr_cVv (As := [.int (1 : Int32)]) (st := []) (b := v0) (q := 72) C yvX12_errs ml_X12_178 (cnX12_errs (xo κ) v0 (1 : Int32) hv0) hv0 (by decide) rfl rfl rfl (by decide) (by decide) (Nat.le_of_ble_eq_true rfl) rfl (show decode cX12_readLine 69 = .ok (.invokevirtual 178, 3) from by decide +kernel) rfl (fun _ => ?_)
      exact slX12_readLine_J72 C v0 hv0
def fnX12_readLine (v0 : Nat) : sm_M Unit := m_ai (lk v0 14) (0 : Int32) fun x5 => m_br (x5 = 0)
    (m_bnd (fnX12_needs v0 0) fun _ => m_bnd (fnX12_told v0 1 (2 : Int32) (12 : Int32)) fun x26 => m_sai (lk v0 14) (1 : Int32) x26 <| m_bnd (fnX12_told v0 2 (1 : Int32) (20 : Int32)) fun x41 => m_sai (lk v0 14) (2 : Int32) x41 <| fnX12_readLine_J52 v0)
    (m_bnd (fnX12_readNext v0) fun _ => fnX12_readLine_J52 v0)
set_option maxHeartbeats 4000000 in
set_option maxRecDepth 100000 in
theorem slX12_readLine {κ : sm_X} (C : sm_C κ RX12 cX12_readLine 1 11) (v0 : Nat) (hv0 : kd v0 = 12) : sm_S κ (fun _ : Unit => .inr none) (.inl (0, [some (xad κ v0)], [])) (fnX12_readLine v0) := by
  unfold fnX12_readLine
  refine sr_aload_n (i := 0) (q := 1) C (show decode cX12_readLine 0 = .ok (.aload_n 0, 1) from by decide +kernel) rfl rfl rfl ?_
  refine sr_getr (q := 4) C fl_X12_31 hv0 (show decode cX12_readLine 1 = .ok (.getfield 31, 3) from by decide +kernel) rfl ?_
  refine sr_iconst (v := (0 : Int32)) (q := 5) C (show decode cX12_readLine 4 = .ok (.iconst 0, 1) from by decide +kernel) (by decide) rfl ?_
  refine sr_iaload (q := 6) C (kt hv0 kp_12_14) (show decode cX12_readLine 5 = .ok (.iaload, 1) from by decide +kernel) rfl (fun x5 => ?_)
  refine sr_if_ne (q := 9) C 48 (show decode cX12_readLine 6 = .ok (.ifCond .ne 42, 3) from by decide +kernel) (by decide) rfl ?_ ?_
  · refine sr_aload_n (i := 0) (q := 49) C (show decode cX12_readLine 48 = .ok (.aload_n 0, 1) from by decide +kernel) rfl rfl rfl ?_
    refine sr_cVv (As := []) (st := []) (b := v0) (q := 52) C yvX12_readNext ml_X12_233 (cnX12_readNext (xo κ) v0 hv0) hv0 (by decide) rfl rfl rfl (by decide) (by decide) (Nat.le_of_ble_eq_true rfl) rfl (show decode cX12_readLine 49 = .ok (.invokevirtual 233, 3) from by decide +kernel) rfl (fun _ => ?_)
    exact slX12_readLine_J52 C v0 hv0
  · refine sr_aload_n (i := 0) (q := 10) C (show decode cX12_readLine 9 = .ok (.aload_n 0, 1) from by decide +kernel) rfl rfl rfl ?_
    refine sr_ldcS (i := 0) (q := 12) C sc_X12_227 (show decode cX12_readLine 10 = .ok (.ldc 227, 2) from by decide +kernel) rfl ?_
    refine sr_cVv (As := [xst κ 0]) (st := []) (b := v0) (q := 15) C yvX12_needs ml_X12_182 (cnX12_needs (xo κ) v0 0 hv0 (by decide)) hv0 (by decide) rfl rfl rfl (by decide) (by decide) (Nat.le_of_ble_eq_true rfl) rfl (show decode cX12_readLine 12 = .ok (.invokevirtual 182, 3) from by decide +kernel) rfl (fun _ => ?_)
    refine sr_aload_n (i := 0) (q := 16) C (show decode cX12_readLine 15 = .ok (.aload_n 0, 1) from by decide +kernel) rfl rfl rfl ?_
    refine sr_getr (q := 19) C fl_X12_31 hv0 (show decode cX12_readLine 16 = .ok (.getfield 31, 3) from by decide +kernel) rfl ?_
    refine sr_iconst (v := (1 : Int32)) (q := 20) C (show decode cX12_readLine 19 = .ok (.iconst 1, 1) from by decide +kernel) (by decide) rfl ?_
    refine sr_aload_n (i := 0) (q := 21) C (show decode cX12_readLine 20 = .ok (.aload_n 0, 1) from by decide +kernel) rfl rfl rfl ?_
    refine sr_ldcS (i := 1) (q := 23) C sc_X12_229 (show decode cX12_readLine 21 = .ok (.ldc 229, 2) from by decide +kernel) rfl ?_
    refine sr_iconst (v := (2 : Int32)) (q := 24) C (show decode cX12_readLine 23 = .ok (.iconst 2, 1) from by decide +kernel) (by decide) rfl ?_
    refine sr_bipush (v := (12 : Int32)) (q := 26) C (show decode cX12_readLine 24 = .ok (.bipush 12, 2) from by decide +kernel) (by decide) rfl ?_
    refine sr_cVi (As := [xst κ 1, .int (2 : Int32), .int (12 : Int32)]) (st := [.int (1 : Int32), xad κ (lk v0 14)]) (b := v0) (q := 29) C yvX12_told ml_X12_190 (cnX12_told (xo κ) v0 1 (2 : Int32) (12 : Int32) hv0 (by decide)) hv0 (by decide) rfl rfl rfl (by decide) (by decide) (Nat.le_of_ble_eq_true rfl) rfl (show decode cX12_readLine 26 = .ok (.invokevirtual 190, 3) from by decide +kernel) rfl (fun x26 => ?_)
    refine sr_iastore (q := 30) C (kt hv0 kp_12_14) (show decode cX12_readLine 29 = .ok (.iastore, 1) from by decide +kernel) rfl ?_
    refine sr_aload_n (i := 0) (q := 31) C (show decode cX12_readLine 30 = .ok (.aload_n 0, 1) from by decide +kernel) rfl rfl rfl ?_
    refine sr_getr (q := 34) C fl_X12_31 hv0 (show decode cX12_readLine 31 = .ok (.getfield 31, 3) from by decide +kernel) rfl ?_
    refine sr_iconst (v := (2 : Int32)) (q := 35) C (show decode cX12_readLine 34 = .ok (.iconst 2, 1) from by decide +kernel) (by decide) rfl ?_
    refine sr_aload_n (i := 0) (q := 36) C (show decode cX12_readLine 35 = .ok (.aload_n 0, 1) from by decide +kernel) rfl rfl rfl ?_
    refine sr_ldcS (i := 2) (q := 38) C sc_X12_231 (show decode cX12_readLine 36 = .ok (.ldc 231, 2) from by decide +kernel) rfl ?_
    refine sr_iconst (v := (1 : Int32)) (q := 39) C (show decode cX12_readLine 38 = .ok (.iconst 1, 1) from by decide +kernel) (by decide) rfl ?_
    refine sr_bipush (v := (20 : Int32)) (q := 41) C (show decode cX12_readLine 39 = .ok (.bipush 20, 2) from by decide +kernel) (by decide) rfl ?_
    refine sr_cVi (As := [xst κ 2, .int (1 : Int32), .int (20 : Int32)]) (st := [.int (2 : Int32), xad κ (lk v0 14)]) (b := v0) (q := 44) C yvX12_told ml_X12_190 (cnX12_told (xo κ) v0 2 (1 : Int32) (20 : Int32) hv0 (by decide)) hv0 (by decide) rfl rfl rfl (by decide) (by decide) (Nat.le_of_ble_eq_true rfl) rfl (show decode cX12_readLine 41 = .ok (.invokevirtual 190, 3) from by decide +kernel) rfl (fun x41 => ?_)
    refine sr_iastore (q := 45) C (kt hv0 kp_12_14) (show decode cX12_readLine 44 = .ok (.iastore, 1) from by decide +kernel) rfl ?_
    refine sr_goto (q := 52) C (show decode cX12_readLine 45 = .ok (.goto 7, 3) from by decide +kernel) (by decide) ?_
    exact slX12_readLine_J52 C v0 hv0
theorem cnX12_readLine (ω : sm_O) (v0 : Nat) (hv0 : kd v0 = 12) : sm_Mt 11 yX12_readLine cX12_readLine 1 none ω [.ref (ω.1 + v0)] (fun _ => none) (fnX12_readLine v0) := by
  refine sm_conV (by decide) (Nat.le_of_ble_eq_true rfl) ?_
  intro κ hκ C
  subst hκ
  exact slX12_readLine C v0 hv0
def fnX12_river_J112 (v0 : Nat) : sm_M Int32 := m_ai (lk v0 1) (0 : Int32) fun x117 => m_ret x117
set_option maxHeartbeats 4000000 in
set_option maxRecDepth 100000 in
theorem slX12_river_J112 {κ : sm_X} (C : sm_C κ RX12 cX12_river 2 12) (v0 : Nat) (hv0 : kd v0 = 12) : sm_S κ (fun r : Int32 => .inr (some (.int r))) (.inl (112, [some (xad κ v0), none], [])) (fnX12_river_J112 v0) := by
  unfold fnX12_river_J112
  refine sr_aload_n (i := 0) (q := 113) C (show decode cX12_river 112 = .ok (.aload_n 0, 1) from by decide +kernel) rfl rfl rfl ?_
  refine sr_getr (q := 116) C fl_X12_9 hv0 (show decode cX12_river 113 = .ok (.getfield 9, 3) from by decide +kernel) rfl ?_
  refine sr_iconst (v := (0 : Int32)) (q := 117) C (show decode cX12_river 116 = .ok (.iconst 0, 1) from by decide +kernel) (by decide) rfl ?_
  refine sr_iaload (q := 118) C (kt hv0 kp_12_1) (show decode cX12_river 117 = .ok (.iaload, 1) from by decide +kernel) rfl (fun x117 => ?_)
  exact sr_ireturn C _ rfl (show decode cX12_river 118 = .ok (.ireturn, 1) from by decide +kernel)
def fnX12_river_L87 : Nat → Nat → Int32 → sm_M Int32
  | 0, _, _ => m_fail
  | n + 1, v0, v1 => m_br ((241 : Int32) ≤ v1)
    (fnX12_river_J112 v0)
    (m_ai (lk v0 14) v1 fun x104 => m_sai (lk v0 1) v1 x104 <| (fnX12_river_L87 n) v0 (v1 + (1 : Int32)))
set_option maxHeartbeats 4000000 in
set_option maxRecDepth 100000 in
theorem slX12_river_L87 {κ : sm_X} (C : sm_C κ RX12 cX12_river 2 12) : ∀ (n : Nat) (v0 : Nat) (v1 : Int32) (hv0 : kd v0 = 12), sm_S κ (fun r : Int32 => .inr (some (.int r))) (.inl (87, [some (xad κ v0), some (.int v1)], [])) (fnX12_river_L87 n v0 v1) := by
  intro n
  induction n with
  | zero =>
    intros
    exact sr_fail
  | succ n K87 =>
    intro v0 v1 hv0
    unfold fnX12_river_L87
    refine sr_iload_n (i := 1) (q := 88) C (show decode cX12_river 87 = .ok (.iload_n 1, 1) from by decide +kernel) rfl rfl rfl ?_
    refine sr_sipush (v := (241 : Int32)) (q := 91) C (show decode cX12_river 88 = .ok (.sipush 241, 3) from by decide +kernel) (by decide) rfl ?_
    refine sr_icmp_ge (q := 94) C 112 (show decode cX12_river 91 = .ok (.if_icmp .ge 21, 3) from by decide +kernel) (by decide) rfl ?_ ?_
    · refine sr_weak (L' := [some (xad κ v0), none]) ⟨rfl, trivial⟩ ?_
      exact slX12_river_J112 C v0 hv0
    · refine sr_aload_n (i := 0) (q := 95) C (show decode cX12_river 94 = .ok (.aload_n 0, 1) from by decide +kernel) rfl rfl rfl ?_
      refine sr_getr (q := 98) C fl_X12_9 hv0 (show decode cX12_river 95 = .ok (.getfield 9, 3) from by decide +kernel) rfl ?_
      refine sr_iload_n (i := 1) (q := 99) C (show decode cX12_river 98 = .ok (.iload_n 1, 1) from by decide +kernel) rfl rfl rfl ?_
      refine sr_aload_n (i := 0) (q := 100) C (show decode cX12_river 99 = .ok (.aload_n 0, 1) from by decide +kernel) rfl rfl rfl ?_
      refine sr_getr (q := 103) C fl_X12_31 hv0 (show decode cX12_river 100 = .ok (.getfield 31, 3) from by decide +kernel) rfl ?_
      refine sr_iload_n (i := 1) (q := 104) C (show decode cX12_river 103 = .ok (.iload_n 1, 1) from by decide +kernel) rfl rfl rfl ?_
      refine sr_iaload (q := 105) C (kt hv0 kp_12_14) (show decode cX12_river 104 = .ok (.iaload, 1) from by decide +kernel) rfl (fun x104 => ?_)
      refine sr_iastore (q := 106) C (kt hv0 kp_12_1) (show decode cX12_river 105 = .ok (.iastore, 1) from by decide +kernel) rfl ?_
      refine sr_iinc (v := v1 + (1 : Int32)) (L' := [some (xad κ v0), some (.int (v1 + (1 : Int32)))]) (q := 109) C (show decode cX12_river 106 = .ok (.iinc 1 1, 3) from by decide +kernel) rfl rfl (by decide) rfl rfl ?_
      refine sr_goto (q := 87) C (show decode cX12_river 109 = .ok (.goto (-22), 3) from by decide +kernel) (by decide) ?_
      exact K87 v0 (v1 + (1 : Int32)) hv0
def fnX12_river_J75 (v0 : Nat) : sm_M Int32 := m_bnd (fnX12_good v0) fun x76 => m_br ((bI x76) = 0)
    (m_ret (-4 : Int32))
    (fnX12_river_L87 4096 v0 (0 : Int32))
set_option maxHeartbeats 4000000 in
set_option maxRecDepth 100000 in
theorem slX12_river_J75 {κ : sm_X} (C : sm_C κ RX12 cX12_river 2 12) (v0 : Nat) (hv0 : kd v0 = 12) : sm_S κ (fun r : Int32 => .inr (some (.int r))) (.inl (75, [some (xad κ v0), none], [])) (fnX12_river_J75 v0) := by
  unfold fnX12_river_J75
  refine sr_aload_n (i := 0) (q := 76) C (show decode cX12_river 75 = .ok (.aload_n 0, 1) from by decide +kernel) rfl rfl rfl ?_
  refine sr_cVz (As := []) (st := []) (b := v0) (q := 79) C yvX12_good ml_X12_155 (cnX12_good (xo κ) v0 hv0) hv0 (by decide) rfl rfl rfl (by decide) (by decide) (Nat.le_of_ble_eq_true rfl) rfl (show decode cX12_river 76 = .ok (.invokevirtual 155, 3) from by decide +kernel) rfl (fun x76 => ?_)
  refine sr_if_ne (q := 82) C 85 (show decode cX12_river 79 = .ok (.ifCond .ne 6, 3) from by decide +kernel) (by decide) rfl ?_ ?_
  · refine sr_iconst (v := (0 : Int32)) (q := 86) C (show decode cX12_river 85 = .ok (.iconst 0, 1) from by decide +kernel) (by decide) rfl ?_
    refine sr_istore_n (i := 1) (L' := [some (xad κ v0), some (.int (0 : Int32))]) (q := 87) C (show decode cX12_river 86 = .ok (.istore_n 1, 1) from by decide +kernel) rfl (by decide) rfl rfl ?_
    exact slX12_river_L87 C 4096 v0 (0 : Int32) hv0
  · refine sr_bipush (v := (-4 : Int32)) (q := 84) C (show decode cX12_river 82 = .ok (.bipush (-4), 2) from by decide +kernel) (by decide) rfl ?_
    exact sr_ireturn C _ rfl (show decode cX12_river 84 = .ok (.ireturn, 1) from by decide +kernel)
def fnX12_river_L54 : Nat → Nat → sm_M Int32
  | 0, _ => m_fail
  | n + 1, v0 => m_bnd (fnX12_good v0) fun x55 => m_br ((bI x55) = 0)
    (fnX12_river_J75 v0)
    (m_gi v0 10 fun x62 => m_br (x62 = 0)
    (fnX12_river_J75 v0)
    (m_bnd (fnX12_readLine v0) fun _ => (fnX12_river_L54 n) v0))
set_option maxHeartbeats 4000000 in
set_option maxRecDepth 100000 in
theorem slX12_river_L54 {κ : sm_X} (C : sm_C κ RX12 cX12_river 2 12) : ∀ (n : Nat) (v0 : Nat) (hv0 : kd v0 = 12), sm_S κ (fun r : Int32 => .inr (some (.int r))) (.inl (54, [some (xad κ v0), none], [])) (fnX12_river_L54 n v0) := by
  intro n
  induction n with
  | zero =>
    intros
    exact sr_fail
  | succ n K54 =>
    intro v0 hv0
    unfold fnX12_river_L54
    refine sr_aload_n (i := 0) (q := 55) C (show decode cX12_river 54 = .ok (.aload_n 0, 1) from by decide +kernel) rfl rfl rfl ?_
    refine sr_cVz (As := []) (st := []) (b := v0) (q := 58) C yvX12_good ml_X12_155 (cnX12_good (xo κ) v0 hv0) hv0 (by decide) rfl rfl rfl (by decide) (by decide) (Nat.le_of_ble_eq_true rfl) rfl (show decode cX12_river 55 = .ok (.invokevirtual 155, 3) from by decide +kernel) rfl (fun x55 => ?_)
    refine sr_if_eq (q := 61) C 75 (show decode cX12_river 58 = .ok (.ifCond .eq 17, 3) from by decide +kernel) (by decide) rfl ?_ ?_
    · exact slX12_river_J75 C v0 hv0
    · refine sr_aload_n (i := 0) (q := 62) C (show decode cX12_river 61 = .ok (.aload_n 0, 1) from by decide +kernel) rfl rfl rfl ?_
      refine sr_geti (q := 65) C fl_X12_131 (Or.inl rfl) hv0 (show decode cX12_river 62 = .ok (.getfield 131, 3) from by decide +kernel) rfl (fun x62 => ?_)
      refine sr_if_eq (q := 68) C 75 (show decode cX12_river 65 = .ok (.ifCond .eq 10, 3) from by decide +kernel) (by decide) rfl ?_ ?_
      · exact slX12_river_J75 C v0 hv0
      · refine sr_aload_n (i := 0) (q := 69) C (show decode cX12_river 68 = .ok (.aload_n 0, 1) from by decide +kernel) rfl rfl rfl ?_
        refine sr_cVv (As := []) (st := []) (b := v0) (q := 72) C yvX12_readLine ml_X12_236 (cnX12_readLine (xo κ) v0 hv0) hv0 (by decide) rfl rfl rfl (by decide) (by decide) (Nat.le_of_ble_eq_true rfl) rfl (show decode cX12_river 69 = .ok (.invokevirtual 236, 3) from by decide +kernel) rfl (fun _ => ?_)
        refine sr_goto (q := 54) C (show decode cX12_river 72 = .ok (.goto (-18), 3) from by decide +kernel) (by decide) ?_
        exact K54 v0 hv0
def fnX12_river_J50 (v0 : Nat) : sm_M Int32 := m_bnd (fnX12_advance v0) fun _ => fnX12_river_L54 4096 v0
set_option maxHeartbeats 4000000 in
set_option maxRecDepth 100000 in
theorem slX12_river_J50 {κ : sm_X} (C : sm_C κ RX12 cX12_river 2 12) (v0 : Nat) (hv0 : kd v0 = 12) : sm_S κ (fun r : Int32 => .inr (some (.int r))) (.inl (50, [some (xad κ v0), none], [])) (fnX12_river_J50 v0) := by
  unfold fnX12_river_J50
  refine sr_aload_n (i := 0) (q := 51) C (show decode cX12_river 50 = .ok (.aload_n 0, 1) from by decide +kernel) rfl rfl rfl ?_
  refine sr_cVv (As := []) (st := []) (b := v0) (q := 54) C yvX12_advance ml_X12_172 (cnX12_advance (xo κ) v0 hv0) hv0 (by decide) rfl rfl rfl (by decide) (by decide) (Nat.le_of_ble_eq_true rfl) rfl (show decode cX12_river 51 = .ok (.invokevirtual 172, 3) from by decide +kernel) rfl (fun _ => ?_)
  exact slX12_river_L54 C 4096 v0 hv0
def fnX12_river_L30 : Nat → Nat → Int32 → sm_M Int32
  | 0, _, _ => m_fail
  | n + 1, v0, v1 => m_br ((241 : Int32) ≤ v1)
    (fnX12_river_J50 v0)
    (m_sai (lk v0 14) v1 (0 : Int32) <| (fnX12_river_L30 n) v0 (v1 + (1 : Int32)))
set_option maxHeartbeats 4000000 in
set_option maxRecDepth 100000 in
theorem slX12_river_L30 {κ : sm_X} (C : sm_C κ RX12 cX12_river 2 12) : ∀ (n : Nat) (v0 : Nat) (v1 : Int32) (hv0 : kd v0 = 12), sm_S κ (fun r : Int32 => .inr (some (.int r))) (.inl (30, [some (xad κ v0), some (.int v1)], [])) (fnX12_river_L30 n v0 v1) := by
  intro n
  induction n with
  | zero =>
    intros
    exact sr_fail
  | succ n K30 =>
    intro v0 v1 hv0
    unfold fnX12_river_L30
    refine sr_iload_n (i := 1) (q := 31) C (show decode cX12_river 30 = .ok (.iload_n 1, 1) from by decide +kernel) rfl rfl rfl ?_
    refine sr_sipush (v := (241 : Int32)) (q := 34) C (show decode cX12_river 31 = .ok (.sipush 241, 3) from by decide +kernel) (by decide) rfl ?_
    refine sr_icmp_ge (q := 37) C 50 (show decode cX12_river 34 = .ok (.if_icmp .ge 16, 3) from by decide +kernel) (by decide) rfl ?_ ?_
    · refine sr_weak (L' := [some (xad κ v0), none]) ⟨rfl, trivial⟩ ?_
      exact slX12_river_J50 C v0 hv0
    · refine sr_aload_n (i := 0) (q := 38) C (show decode cX12_river 37 = .ok (.aload_n 0, 1) from by decide +kernel) rfl rfl rfl ?_
      refine sr_getr (q := 41) C fl_X12_31 hv0 (show decode cX12_river 38 = .ok (.getfield 31, 3) from by decide +kernel) rfl ?_
      refine sr_iload_n (i := 1) (q := 42) C (show decode cX12_river 41 = .ok (.iload_n 1, 1) from by decide +kernel) rfl rfl rfl ?_
      refine sr_iconst (v := (0 : Int32)) (q := 43) C (show decode cX12_river 42 = .ok (.iconst 0, 1) from by decide +kernel) (by decide) rfl ?_
      refine sr_iastore (q := 44) C (kt hv0 kp_12_14) (show decode cX12_river 43 = .ok (.iastore, 1) from by decide +kernel) rfl ?_
      refine sr_iinc (v := v1 + (1 : Int32)) (L' := [some (xad κ v0), some (.int (v1 + (1 : Int32)))]) (q := 47) C (show decode cX12_river 44 = .ok (.iinc 1 1, 3) from by decide +kernel) rfl rfl (by decide) rfl rfl ?_
      refine sr_goto (q := 30) C (show decode cX12_river 47 = .ok (.goto (-17), 3) from by decide +kernel) (by decide) ?_
      exact K30 v0 (v1 + (1 : Int32)) hv0
def fnX12_river (v0 : Nat) : sm_M Int32 := m_gi v0 5 fun x2 => m_si v0 7 x2 <| m_si v0 5 (0 : Int32) <| m_si v0 8 (0 : Int32) <| m_si v0 12 (0 : Int32) <| m_si v0 13 (-1 : Int32) <| fnX12_river_L30 4096 v0 (0 : Int32)
set_option maxHeartbeats 4000000 in
set_option maxRecDepth 100000 in
theorem slX12_river {κ : sm_X} (C : sm_C κ RX12 cX12_river 2 12) (v0 : Nat) (hv0 : kd v0 = 12) : sm_S κ (fun r : Int32 => .inr (some (.int r))) (.inl (0, [some (xad κ v0), none], [])) (fnX12_river v0) := by
  unfold fnX12_river
  refine sr_aload_n (i := 0) (q := 1) C (show decode cX12_river 0 = .ok (.aload_n 0, 1) from by decide +kernel) rfl rfl rfl ?_
  refine sr_aload_n (i := 0) (q := 2) C (show decode cX12_river 1 = .ok (.aload_n 0, 1) from by decide +kernel) rfl rfl rfl ?_
  refine sr_geti (q := 5) C fl_X12_115 (Or.inl rfl) hv0 (show decode cX12_river 2 = .ok (.getfield 115, 3) from by decide +kernel) rfl (fun x2 => ?_)
  refine sr_puti (q := 8) C fp_X12_118 hv0 (show decode cX12_river 5 = .ok (.putfield 118, 3) from by decide +kernel) rfl ?_
  refine sr_aload_n (i := 0) (q := 9) C (show decode cX12_river 8 = .ok (.aload_n 0, 1) from by decide +kernel) rfl rfl rfl ?_
  refine sr_iconst (v := (0 : Int32)) (q := 10) C (show decode cX12_river 9 = .ok (.iconst 0, 1) from by decide +kernel) (by decide) rfl ?_
  refine sr_puti (q := 13) C fp_X12_115 hv0 (show decode cX12_river 10 = .ok (.putfield 115, 3) from by decide +kernel) rfl ?_
  refine sr_aload_n (i := 0) (q := 14) C (show decode cX12_river 13 = .ok (.aload_n 0, 1) from by decide +kernel) rfl rfl rfl ?_
  refine sr_iconst (v := (0 : Int32)) (q := 15) C (show decode cX12_river 14 = .ok (.iconst 0, 1) from by decide +kernel) (by decide) rfl ?_
  refine sr_puti (q := 18) C fp_X12_121 hv0 (show decode cX12_river 15 = .ok (.putfield 121, 3) from by decide +kernel) rfl ?_
  refine sr_aload_n (i := 0) (q := 19) C (show decode cX12_river 18 = .ok (.aload_n 0, 1) from by decide +kernel) rfl rfl rfl ?_
  refine sr_iconst (v := (0 : Int32)) (q := 20) C (show decode cX12_river 19 = .ok (.iconst 0, 1) from by decide +kernel) (by decide) rfl ?_
  refine sr_puti (q := 23) C fp_X12_152 hv0 (show decode cX12_river 20 = .ok (.putfield 152, 3) from by decide +kernel) rfl ?_
  refine sr_aload_n (i := 0) (q := 24) C (show decode cX12_river 23 = .ok (.aload_n 0, 1) from by decide +kernel) rfl rfl rfl ?_
  refine sr_iconst (v := (-1 : Int32)) (q := 25) C (show decode cX12_river 24 = .ok (.iconst (-1), 1) from by decide +kernel) (by decide) rfl ?_
  refine sr_puti (q := 28) C fp_X12_27 hv0 (show decode cX12_river 25 = .ok (.putfield 27, 3) from by decide +kernel) rfl ?_
  refine sr_iconst (v := (0 : Int32)) (q := 29) C (show decode cX12_river 28 = .ok (.iconst 0, 1) from by decide +kernel) (by decide) rfl ?_
  refine sr_istore_n (i := 1) (L' := [some (xad κ v0), some (.int (0 : Int32))]) (q := 30) C (show decode cX12_river 29 = .ok (.istore_n 1, 1) from by decide +kernel) rfl (by decide) rfl rfl ?_
  exact slX12_river_L30 C 4096 v0 (0 : Int32) hv0
theorem cnX12_river (ω : sm_O) (v0 : Nat) (hv0 : kd v0 = 12) : sm_Mt 12 yX12_river cX12_river 2 (some .int) ω [.ref (ω.1 + v0)] (fun a => some (.int a)) (fnX12_river v0) := by
  refine sm_conI (r := fun a => a) (by decide) (fun _ => rfl) (Nat.le_of_ble_eq_true rfl) ?_
  intro κ hκ C
  subst hκ
  exact slX12_river C v0 hv0
def fnX12_row_L52 : Nat → Nat → Int32 → Int32 → sm_M Int32
  | 0, _, _, _ => m_fail
  | n + 1, v0, v1, v4 => m_br ((60 : Int32) ≤ v4)
    (m_ret (0 : Int32))
    (m_sal (lk v0 45) (((60 : Int32) * v1) + v4) (0 : Int64) <| (fnX12_row_L52 n) v0 v1 (v4 + (1 : Int32)))
set_option maxHeartbeats 4000000 in
set_option maxRecDepth 100000 in
theorem slX12_row_L52 {κ : sm_X} (C : sm_C κ RX12 cX12_row 5 3) : ∀ (n : Nat) (v0 : Nat) (v1 : Int32) (v4 : Int32) (hv0 : kd v0 = 12), sm_S κ (fun r : Int32 => .inr (some (.int r))) (.inl (52, [some (xad κ v0), some (.int v1), none, none, some (.int v4)], [])) (fnX12_row_L52 n v0 v1 v4) := by
  intro n
  induction n with
  | zero =>
    intros
    exact sr_fail
  | succ n K52 =>
    intro v0 v1 v4 hv0
    unfold fnX12_row_L52
    refine sr_iload (i := 4) (q := 54) C (show decode cX12_row 52 = .ok (.iload 4, 2) from by decide +kernel) rfl rfl ?_
    refine sr_bipush (v := (60 : Int32)) (q := 56) C (show decode cX12_row 54 = .ok (.bipush 60, 2) from by decide +kernel) (by decide) rfl ?_
    refine sr_icmp_ge (q := 59) C 78 (show decode cX12_row 56 = .ok (.if_icmp .ge 22, 3) from by decide +kernel) (by decide) rfl ?_ ?_
    · refine sr_iconst (v := (0 : Int32)) (q := 79) C (show decode cX12_row 78 = .ok (.iconst 0, 1) from by decide +kernel) (by decide) rfl ?_
      exact sr_ireturn C _ rfl (show decode cX12_row 79 = .ok (.ireturn, 1) from by decide +kernel)
    · refine sr_aload_n (i := 0) (q := 60) C (show decode cX12_row 59 = .ok (.aload_n 0, 1) from by decide +kernel) rfl rfl rfl ?_
      refine sr_getr (q := 63) C fl_X12_92 hv0 (show decode cX12_row 60 = .ok (.getfield 92, 3) from by decide +kernel) rfl ?_
      refine sr_bipush (v := (60 : Int32)) (q := 65) C (show decode cX12_row 63 = .ok (.bipush 60, 2) from by decide +kernel) (by decide) rfl ?_
      refine sr_iload_n (i := 1) (q := 66) C (show decode cX12_row 65 = .ok (.iload_n 1, 1) from by decide +kernel) rfl rfl rfl ?_
      refine sr_imul (q := 67) C (show decode cX12_row 66 = .ok (.imul, 1) from by decide +kernel) rfl ?_
      refine sr_iload (i := 4) (q := 69) C (show decode cX12_row 67 = .ok (.iload 4, 2) from by decide +kernel) rfl rfl ?_
      refine sr_iadd (q := 70) C (show decode cX12_row 69 = .ok (.iadd, 1) from by decide +kernel) rfl ?_
      refine sr_lconst (v := (0 : Int64)) (q := 71) C (show decode cX12_row 70 = .ok (.lconst 0, 1) from by decide +kernel) (by decide) rfl ?_
      refine sr_lastore (q := 72) C (kt hv0 kp_12_45) (show decode cX12_row 71 = .ok (.lastore, 1) from by decide +kernel) rfl ?_
      refine sr_iinc (v := v4 + (1 : Int32)) (L' := [some (xad κ v0), some (.int v1), none, none, some (.int (v4 + (1 : Int32)))]) (q := 75) C (show decode cX12_row 72 = .ok (.iinc 4 1, 3) from by decide +kernel) rfl rfl (by decide) rfl rfl ?_
      refine sr_goto (q := 52) C (show decode cX12_row 75 = .ok (.goto (-23), 3) from by decide +kernel) (by decide) ?_
      exact K52 v0 v1 (v4 + (1 : Int32)) hv0
def fnX12_row (v0 : Nat) (v1 : Int32) (v2 : Int32) (v3 : Int32) : sm_M Int32 := m_bnd (fnX12_isSlot v1) fun x1 => m_br ((bI x1) = 0)
    (m_ret (-2 : Int32))
    (m_bnd (fnX12_in v2.toInt64 (0 : Int64) (3 : Int64)) fun x13 => m_br ((bI x13) = 0)
    (m_ret (-2 : Int32))
    (m_br (v3 ≤ (60 : Int32))
    (m_br (0 ≤ v3)
    (m_sai (lk v0 43) v1 v3 <| m_sai (lk v0 44) v1 v2 <| fnX12_row_L52 4096 v0 v1 (0 : Int32))
    (m_ret (-3 : Int32)))
    (m_ret (-2 : Int32))))
set_option maxHeartbeats 4000000 in
set_option maxRecDepth 100000 in
theorem slX12_row {κ : sm_X} (C : sm_C κ RX12 cX12_row 5 3) (v0 : Nat) (v1 : Int32) (v2 : Int32) (v3 : Int32) (hv0 : kd v0 = 12) : sm_S κ (fun r : Int32 => .inr (some (.int r))) (.inl (0, [some (xad κ v0), some (.int v1), some (.int v2), some (.int v3), none], [])) (fnX12_row v0 v1 v2 v3) := by
  unfold fnX12_row
  refine sr_iload_n (i := 1) (q := 1) C (show decode cX12_row 0 = .ok (.iload_n 1, 1) from by decide +kernel) rfl rfl rfl ?_
  refine sr_cSz (As := [.int v1]) (st := []) (q := 4) C ysX12_isSlot ml_X12_336 (cnX12_isSlot (xo κ) v1) rfl (by decide) (by decide) (Nat.le_of_ble_eq_true rfl) rfl (show decode cX12_row 1 = .ok (.invokestatic 336, 3) from by decide +kernel) rfl (fun x1 => ?_)
  refine sr_if_eq (q := 7) C 25 (show decode cX12_row 4 = .ok (.ifCond .eq 21, 3) from by decide +kernel) (by decide) rfl ?_ ?_
  · refine sr_bipush (v := (-2 : Int32)) (q := 27) C (show decode cX12_row 25 = .ok (.bipush (-2), 2) from by decide +kernel) (by decide) rfl ?_
    exact sr_ireturn C _ rfl (show decode cX12_row 27 = .ok (.ireturn, 1) from by decide +kernel)
  · refine sr_iload_n (i := 2) (q := 8) C (show decode cX12_row 7 = .ok (.iload_n 2, 1) from by decide +kernel) rfl rfl rfl ?_
    refine sr_i2l (q := 9) C (show decode cX12_row 8 = .ok (.i2l, 1) from by decide +kernel) rfl ?_
    refine sr_lconst (v := (0 : Int64)) (q := 10) C (show decode cX12_row 9 = .ok (.lconst 0, 1) from by decide +kernel) (by decide) rfl ?_
    refine sr_ldc2 (q := 13) C co_X12_308 (show decode cX12_row 10 = .ok (.ldc2_w 308, 3) from by decide +kernel) rfl ?_
    refine sr_cSz (As := [.long v2.toInt64, .long (0 : Int64), .long (3 : Int64)]) (st := []) (q := 16) C ysX12_in ml_X12_103 (cnX12_in (xo κ) v2.toInt64 (0 : Int64) (3 : Int64)) rfl (by decide) (by decide) (Nat.le_of_ble_eq_true rfl) rfl (show decode cX12_row 13 = .ok (.invokestatic 103, 3) from by decide +kernel) rfl (fun x13 => ?_)
    refine sr_if_eq (q := 19) C 25 (show decode cX12_row 16 = .ok (.ifCond .eq 9, 3) from by decide +kernel) (by decide) rfl ?_ ?_
    · refine sr_bipush (v := (-2 : Int32)) (q := 27) C (show decode cX12_row 25 = .ok (.bipush (-2), 2) from by decide +kernel) (by decide) rfl ?_
      exact sr_ireturn C _ rfl (show decode cX12_row 27 = .ok (.ireturn, 1) from by decide +kernel)
    · refine sr_iload_n (i := 3) (q := 20) C (show decode cX12_row 19 = .ok (.iload_n 3, 1) from by decide +kernel) rfl rfl rfl ?_
      refine sr_bipush (v := (60 : Int32)) (q := 22) C (show decode cX12_row 20 = .ok (.bipush 60, 2) from by decide +kernel) (by decide) rfl ?_
      refine sr_icmp_le (q := 25) C 28 (show decode cX12_row 22 = .ok (.if_icmp .le 6, 3) from by decide +kernel) (by decide) rfl ?_ ?_
      · refine sr_iload_n (i := 3) (q := 29) C (show decode cX12_row 28 = .ok (.iload_n 3, 1) from by decide +kernel) rfl rfl rfl ?_
        refine sr_if_ge (q := 32) C 35 (show decode cX12_row 29 = .ok (.ifCond .ge 6, 3) from by decide +kernel) (by decide) rfl ?_ ?_
        · refine sr_aload_n (i := 0) (q := 36) C (show decode cX12_row 35 = .ok (.aload_n 0, 1) from by decide +kernel) rfl rfl rfl ?_
          refine sr_getr (q := 39) C fl_X12_86 hv0 (show decode cX12_row 36 = .ok (.getfield 86, 3) from by decide +kernel) rfl ?_
          refine sr_iload_n (i := 1) (q := 40) C (show decode cX12_row 39 = .ok (.iload_n 1, 1) from by decide +kernel) rfl rfl rfl ?_
          refine sr_iload_n (i := 3) (q := 41) C (show decode cX12_row 40 = .ok (.iload_n 3, 1) from by decide +kernel) rfl rfl rfl ?_
          refine sr_iastore (q := 42) C (kt hv0 kp_12_43) (show decode cX12_row 41 = .ok (.iastore, 1) from by decide +kernel) rfl ?_
          refine sr_aload_n (i := 0) (q := 43) C (show decode cX12_row 42 = .ok (.aload_n 0, 1) from by decide +kernel) rfl rfl rfl ?_
          refine sr_getr (q := 46) C fl_X12_89 hv0 (show decode cX12_row 43 = .ok (.getfield 89, 3) from by decide +kernel) rfl ?_
          refine sr_iload_n (i := 1) (q := 47) C (show decode cX12_row 46 = .ok (.iload_n 1, 1) from by decide +kernel) rfl rfl rfl ?_
          refine sr_iload_n (i := 2) (q := 48) C (show decode cX12_row 47 = .ok (.iload_n 2, 1) from by decide +kernel) rfl rfl rfl ?_
          refine sr_iastore (q := 49) C (kt hv0 kp_12_44) (show decode cX12_row 48 = .ok (.iastore, 1) from by decide +kernel) rfl ?_
          refine sr_iconst (v := (0 : Int32)) (q := 50) C (show decode cX12_row 49 = .ok (.iconst 0, 1) from by decide +kernel) (by decide) rfl ?_
          refine sr_istore (i := 4) (L' := [some (xad κ v0), some (.int v1), some (.int v2), some (.int v3), some (.int (0 : Int32))]) (q := 52) C (show decode cX12_row 50 = .ok (.istore 4, 2) from by decide +kernel) (by decide) rfl rfl ?_
          refine sr_weak (L' := [some (xad κ v0), some (.int v1), none, none, some (.int (0 : Int32))]) ⟨rfl, rfl, rfl, trivial⟩ ?_
          exact slX12_row_L52 C 4096 v0 v1 (0 : Int32) hv0
        · refine sr_bipush (v := (-3 : Int32)) (q := 34) C (show decode cX12_row 32 = .ok (.bipush (-3), 2) from by decide +kernel) (by decide) rfl ?_
          exact sr_ireturn C _ rfl (show decode cX12_row 34 = .ok (.ireturn, 1) from by decide +kernel)
      · refine sr_bipush (v := (-2 : Int32)) (q := 27) C (show decode cX12_row 25 = .ok (.bipush (-2), 2) from by decide +kernel) (by decide) rfl ?_
        exact sr_ireturn C _ rfl (show decode cX12_row 27 = .ok (.ireturn, 1) from by decide +kernel)
theorem cnX12_row (ω : sm_O) (v0 : Nat) (v1 : Int32) (v2 : Int32) (v3 : Int32) (hv0 : kd v0 = 12) : sm_Mt 3 yX12_row cX12_row 5 (some .int) ω [.ref (ω.1 + v0), .int v1, .int v2, .int v3] (fun a => some (.int a)) (fnX12_row v0 v1 v2 v3) := by
  refine sm_conI (r := fun a => a) (by decide) (fun _ => rfl) (Nat.le_of_ble_eq_true rfl) ?_
  intro κ hκ C
  subst hκ
  exact slX12_row C v0 v1 v2 v3 hv0
def fnX12_ventures_J112 (v0 : Nat) (v1 : Int32) : sm_M Unit := m_bnd (fnX12_puts v0 v1 (99 : Int32)) fun _ => m_gi v0 22 fun x121 => m_bnd (fnX12_manyOf v0 v1) fun x126 => m_si v0 22 (x121 + x126) <| m_ret ()
set_option maxHeartbeats 4000000 in
set_option maxRecDepth 100000 in
theorem slX12_ventures_J112 {κ : sm_X} (C : sm_C κ RX12 cX12_ventures 7 8) (v0 : Nat) (v1 : Int32) (hv0 : kd v0 = 12) : sm_S κ (fun _ : Unit => .inr none) (.inl (112, [some (xad κ v0), some (.int v1), none, none, none, none, none], [])) (fnX12_ventures_J112 v0 v1) := by
  unfold fnX12_ventures_J112
  refine sr_aload_n (i := 0) (q := 113) C (show decode cX12_ventures 112 = .ok (.aload_n 0, 1) from by decide +kernel) rfl rfl rfl ?_
  refine sr_iload_n (i := 1) (q := 114) C (show decode cX12_ventures 113 = .ok (.iload_n 1, 1) from by decide +kernel) rfl rfl rfl ?_
  refine sr_bipush (v := (99 : Int32)) (q := 116) C (show decode cX12_ventures 114 = .ok (.bipush 99, 2) from by decide +kernel) (by decide) rfl ?_
  refine sr_cVv (As := [.int v1, .int (99 : Int32)]) (st := []) (b := v0) (q := 119) C yvX12_puts ml_X12_363 (cnX12_puts (xo κ) v0 v1 (99 : Int32) hv0) hv0 (by decide) rfl rfl rfl (by decide) (by decide) (Nat.le_of_ble_eq_true rfl) rfl (show decode cX12_ventures 116 = .ok (.invokevirtual 363, 3) from by decide +kernel) rfl (fun _ => ?_)
  refine sr_aload_n (i := 0) (q := 120) C (show decode cX12_ventures 119 = .ok (.aload_n 0, 1) from by decide +kernel) rfl rfl rfl ?_
  refine sr_dup (q := 121) C (show decode cX12_ventures 120 = .ok (.dup, 1) from by decide +kernel) rfl rfl ?_
  refine sr_geti (q := 124) C fl_X12_372 (Or.inl rfl) hv0 (show decode cX12_ventures 121 = .ok (.getfield 372, 3) from by decide +kernel) rfl (fun x121 => ?_)
  refine sr_aload_n (i := 0) (q := 125) C (show decode cX12_ventures 124 = .ok (.aload_n 0, 1) from by decide +kernel) rfl rfl rfl ?_
  refine sr_iload_n (i := 1) (q := 126) C (show decode cX12_ventures 125 = .ok (.iload_n 1, 1) from by decide +kernel) rfl rfl rfl ?_
  refine sr_cVi (As := [.int v1]) (st := [.int x121, xad κ v0]) (b := v0) (q := 129) C yvX12_manyOf ml_X12_384 (cnX12_manyOf (xo κ) v0 v1 hv0) hv0 (by decide) rfl rfl rfl (by decide) (by decide) (Nat.le_of_ble_eq_true rfl) rfl (show decode cX12_ventures 126 = .ok (.invokevirtual 384, 3) from by decide +kernel) rfl (fun x126 => ?_)
  refine sr_iadd (q := 130) C (show decode cX12_ventures 129 = .ok (.iadd, 1) from by decide +kernel) rfl ?_
  refine sr_puti (q := 133) C fp_X12_372 hv0 (show decode cX12_ventures 130 = .ok (.putfield 372, 3) from by decide +kernel) rfl ?_
  exact sr_vreturn C _ rfl (show decode cX12_ventures 133 = .ok (.return_, 1) from by decide +kernel)
def fnX12_ventures_J98 (k43 : Nat → Int32 → Int32 → Int32 → Int32 → sm_M Unit) (v0 : Nat) (v1 : Int32) (v3 : Int32) (v4 : Int32) (v5 : Int32) (v6 : Int32) : sm_M Unit := m_bnd (fnX12_bears v0 v6 v4) fun _ => k43 v0 v1 v3 v4 (v5 + (1 : Int32))
set_option maxHeartbeats 4000000 in
set_option maxRecDepth 100000 in
theorem slX12_ventures_J98 {κ : sm_X} (C : sm_C κ RX12 cX12_ventures 7 8) {k43 : Nat → Int32 → Int32 → Int32 → Int32 → sm_M Unit} (K43 : ∀ (v0 : Nat) (v1 : Int32) (v3 : Int32) (v4 : Int32) (v5 : Int32) (hv0 : kd v0 = 12), sm_S κ (fun _ : Unit => .inr none) (.inl (43, [some (xad κ v0), some (.int v1), none, some (.int v3), some (.int v4), some (.int v5), none], [])) (k43 v0 v1 v3 v4 v5)) (v0 : Nat) (v1 : Int32) (v3 : Int32) (v4 : Int32) (v5 : Int32) (v6 : Int32) (hv0 : kd v0 = 12) : sm_S κ (fun _ : Unit => .inr none) (.inl (98, [some (xad κ v0), some (.int v1), none, some (.int v3), some (.int v4), some (.int v5), some (.int v6)], [])) (fnX12_ventures_J98 k43 v0 v1 v3 v4 v5 v6) := by
  unfold fnX12_ventures_J98
  refine sr_aload_n (i := 0) (q := 99) C (show decode cX12_ventures 98 = .ok (.aload_n 0, 1) from by decide +kernel) rfl rfl rfl ?_
  refine sr_iload (i := 6) (q := 101) C (show decode cX12_ventures 99 = .ok (.iload 6, 2) from by decide +kernel) rfl rfl ?_
  refine sr_iload (i := 4) (q := 103) C (show decode cX12_ventures 101 = .ok (.iload 4, 2) from by decide +kernel) rfl rfl ?_
  refine sr_cVv (As := [.int v6, .int v4]) (st := []) (b := v0) (q := 106) C yvX12_bears ml_X12_316 (cnX12_bears (xo κ) v0 v6 v4 hv0) hv0 (by decide) rfl rfl rfl (by decide) (by decide) (Nat.le_of_ble_eq_true rfl) rfl (show decode cX12_ventures 103 = .ok (.invokevirtual 316, 3) from by decide +kernel) rfl (fun _ => ?_)
  refine sr_iinc (v := v5 + (1 : Int32)) (L' := [some (xad κ v0), some (.int v1), none, some (.int v3), some (.int v4), some (.int (v5 + (1 : Int32))), some (.int v6)]) (q := 109) C (show decode cX12_ventures 106 = .ok (.iinc 5 1, 3) from by decide +kernel) rfl rfl (by decide) rfl rfl ?_
  refine sr_goto (q := 43) C (show decode cX12_ventures 109 = .ok (.goto (-66), 3) from by decide +kernel) (by decide) ?_
  refine sr_weak (L' := [some (xad κ v0), some (.int v1), none, some (.int v3), some (.int v4), some (.int (v5 + (1 : Int32))), none]) ⟨rfl, rfl, rfl, rfl, rfl, trivial⟩ ?_
  exact K43 v0 v1 v3 v4 (v5 + (1 : Int32)) hv0
def fnX12_ventures_J86 (v0 : Nat) (v6 : Int32) : sm_M Unit := m_bnd (fnX12_setStone v0 v6 (6 : Int32) (1000 : Int32)) fun _ => m_ret ()
set_option maxHeartbeats 4000000 in
set_option maxRecDepth 100000 in
theorem slX12_ventures_J86 {κ : sm_X} (C : sm_C κ RX12 cX12_ventures 7 8) (v0 : Nat) (v6 : Int32) (hv0 : kd v0 = 12) : sm_S κ (fun _ : Unit => .inr none) (.inl (86, [some (xad κ v0), none, none, none, none, none, some (.int v6)], [])) (fnX12_ventures_J86 v0 v6) := by
  unfold fnX12_ventures_J86
  refine sr_aload_n (i := 0) (q := 87) C (show decode cX12_ventures 86 = .ok (.aload_n 0, 1) from by decide +kernel) rfl rfl rfl ?_
  refine sr_iload (i := 6) (q := 89) C (show decode cX12_ventures 87 = .ok (.iload 6, 2) from by decide +kernel) rfl rfl ?_
  refine sr_bipush (v := (6 : Int32)) (q := 91) C (show decode cX12_ventures 89 = .ok (.bipush 6, 2) from by decide +kernel) (by decide) rfl ?_
  refine sr_sipush (v := (1000 : Int32)) (q := 94) C (show decode cX12_ventures 91 = .ok (.sipush 1000, 3) from by decide +kernel) (by decide) rfl ?_
  refine sr_cVv (As := [.int v6, .int (6 : Int32), .int (1000 : Int32)]) (st := []) (b := v0) (q := 97) C yvX12_setStone ml_X12_279 (cnX12_setStone (xo κ) v0 v6 (6 : Int32) (1000 : Int32) hv0) hv0 (by decide) rfl rfl rfl (by decide) (by decide) (Nat.le_of_ble_eq_true rfl) rfl (show decode cX12_ventures 94 = .ok (.invokevirtual 279, 3) from by decide +kernel) rfl (fun _ => ?_)
  exact sr_vreturn C _ rfl (show decode cX12_ventures 97 = .ok (.return_, 1) from by decide +kernel)
def fnX12_ventures_L43 : Nat → Nat → Int32 → Int32 → Int32 → Int32 → sm_M Unit
  | 0, _, _, _, _, _ => m_fail
  | n + 1, v0, v1, v3, v4, v5 => m_gi v0 19 fun x46 => m_br (x46 ≤ v5)
    (fnX12_ventures_J112 v0 v1)
    (m_ai (lk v0 18) v5 fun x58 => m_br (((v3 >>> (x58 &&& 31)) &&& (1 : Int32)) = (1 : Int32))
    (m_bnd (fnX12_ofStone v0 x58 (6 : Int32)) fun x76 => m_br ((x76 + v4) ≤ (1 : Int32))
    (fnX12_ventures_J98 (fnX12_ventures_L43 n) v0 v1 v3 v4 v5 x58)
    (fnX12_ventures_J86 v0 x58))
    (fnX12_ventures_J98 (fnX12_ventures_L43 n) v0 v1 v3 v4 v5 x58))
set_option maxHeartbeats 4000000 in
set_option maxRecDepth 100000 in
theorem slX12_ventures_L43 {κ : sm_X} (C : sm_C κ RX12 cX12_ventures 7 8) : ∀ (n : Nat) (v0 : Nat) (v1 : Int32) (v3 : Int32) (v4 : Int32) (v5 : Int32) (hv0 : kd v0 = 12), sm_S κ (fun _ : Unit => .inr none) (.inl (43, [some (xad κ v0), some (.int v1), none, some (.int v3), some (.int v4), some (.int v5), none], [])) (fnX12_ventures_L43 n v0 v1 v3 v4 v5) := by
  intro n
  induction n with
  | zero =>
    intros
    exact sr_fail
  | succ n K43 =>
    intro v0 v1 v3 v4 v5 hv0
    unfold fnX12_ventures_L43
    refine sr_iload (i := 5) (q := 45) C (show decode cX12_ventures 43 = .ok (.iload 5, 2) from by decide +kernel) rfl rfl ?_
    refine sr_aload_n (i := 0) (q := 46) C (show decode cX12_ventures 45 = .ok (.aload_n 0, 1) from by decide +kernel) rfl rfl rfl ?_
    refine sr_geti (q := 49) C fl_X12_297 (Or.inl rfl) hv0 (show decode cX12_ventures 46 = .ok (.getfield 297, 3) from by decide +kernel) rfl (fun x46 => ?_)
    refine sr_icmp_ge (q := 52) C 112 (show decode cX12_ventures 49 = .ok (.if_icmp .ge 63, 3) from by decide +kernel) (by decide) rfl ?_ ?_
    · refine sr_weak (L' := [some (xad κ v0), some (.int v1), none, none, none, none, none]) ⟨rfl, rfl, trivial⟩ ?_
      exact slX12_ventures_J112 C v0 v1 hv0
    · refine sr_aload_n (i := 0) (q := 53) C (show decode cX12_ventures 52 = .ok (.aload_n 0, 1) from by decide +kernel) rfl rfl rfl ?_
      refine sr_getr (q := 56) C fl_X12_43 hv0 (show decode cX12_ventures 53 = .ok (.getfield 43, 3) from by decide +kernel) rfl ?_
      refine sr_iload (i := 5) (q := 58) C (show decode cX12_ventures 56 = .ok (.iload 5, 2) from by decide +kernel) rfl rfl ?_
      refine sr_iaload (q := 59) C (kt hv0 kp_12_18) (show decode cX12_ventures 58 = .ok (.iaload, 1) from by decide +kernel) rfl (fun x58 => ?_)
      refine sr_istore (i := 6) (L' := [some (xad κ v0), some (.int v1), none, some (.int v3), some (.int v4), some (.int v5), some (.int x58)]) (q := 61) C (show decode cX12_ventures 59 = .ok (.istore 6, 2) from by decide +kernel) (by decide) rfl rfl ?_
      refine sr_iload_n (i := 3) (q := 62) C (show decode cX12_ventures 61 = .ok (.iload_n 3, 1) from by decide +kernel) rfl rfl rfl ?_
      refine sr_iload (i := 6) (q := 64) C (show decode cX12_ventures 62 = .ok (.iload 6, 2) from by decide +kernel) rfl rfl ?_
      refine sr_ishr (q := 65) C (show decode cX12_ventures 64 = .ok (.ishr, 1) from by decide +kernel) rfl ?_
      refine sr_iconst (v := (1 : Int32)) (q := 66) C (show decode cX12_ventures 65 = .ok (.iconst 1, 1) from by decide +kernel) (by decide) rfl ?_
      refine sr_iand (q := 67) C (show decode cX12_ventures 66 = .ok (.iand, 1) from by decide +kernel) rfl ?_
      refine sr_iconst (v := (1 : Int32)) (q := 68) C (show decode cX12_ventures 67 = .ok (.iconst 1, 1) from by decide +kernel) (by decide) rfl ?_
      refine sr_icmp_ne (q := 71) C 98 (show decode cX12_ventures 68 = .ok (.if_icmp .ne 30, 3) from by decide +kernel) (by decide) rfl ?_ ?_
      · exact slX12_ventures_J98 C K43 v0 v1 v3 v4 v5 x58 hv0
      · refine sr_aload_n (i := 0) (q := 72) C (show decode cX12_ventures 71 = .ok (.aload_n 0, 1) from by decide +kernel) rfl rfl rfl ?_
        refine sr_iload (i := 6) (q := 74) C (show decode cX12_ventures 72 = .ok (.iload 6, 2) from by decide +kernel) rfl rfl ?_
        refine sr_bipush (v := (6 : Int32)) (q := 76) C (show decode cX12_ventures 74 = .ok (.bipush 6, 2) from by decide +kernel) (by decide) rfl ?_
        refine sr_cVi (As := [.int x58, .int (6 : Int32)]) (st := []) (b := v0) (q := 79) C yvX12_ofStone ml_X12_239 (cnX12_ofStone (xo κ) v0 x58 (6 : Int32) hv0) hv0 (by decide) rfl rfl rfl (by decide) (by decide) (Nat.le_of_ble_eq_true rfl) rfl (show decode cX12_ventures 76 = .ok (.invokevirtual 239, 3) from by decide +kernel) rfl (fun x76 => ?_)
        refine sr_iload (i := 4) (q := 81) C (show decode cX12_ventures 79 = .ok (.iload 4, 2) from by decide +kernel) rfl rfl ?_
        refine sr_iadd (q := 82) C (show decode cX12_ventures 81 = .ok (.iadd, 1) from by decide +kernel) rfl ?_
        refine sr_iconst (v := (1 : Int32)) (q := 83) C (show decode cX12_ventures 82 = .ok (.iconst 1, 1) from by decide +kernel) (by decide) rfl ?_
        refine sr_icmp_le (q := 86) C 98 (show decode cX12_ventures 83 = .ok (.if_icmp .le 15, 3) from by decide +kernel) (by decide) rfl ?_ ?_
        · exact slX12_ventures_J98 C K43 v0 v1 v3 v4 v5 x58 hv0
        · refine sr_weak (L' := [some (xad κ v0), none, none, none, none, none, some (.int x58)]) ⟨rfl, rfl, trivial⟩ ?_
          exact slX12_ventures_J86 C v0 x58 hv0
def fnX12_ventures (v0 : Nat) (v1 : Int32) (v2 : Int32) (v3 : Int32) : sm_M Unit := m_bnd (fnX12_isAt v0 v1 (98 : Int32)) fun x4 => m_br ((bI x4) = 0)
    (m_ret ())
    (m_bnd (fnX12_strideOf v0 v1) fun x13 => m_bnd (fnX12_sumOf v0 v1 (1 : Int32)) fun x19 => m_bnd (fnX12_finds v0 x13 x19 v2 (98 : Int32)) fun x25 => m_br ((bI x25) = 0)
    (m_ret ())
    (m_bnd (fnX12_sumOf v0 v1 (1 : Int32)) fun x35 => fnX12_ventures_L43 4096 v0 v1 v3 x35 (0 : Int32)))
set_option maxHeartbeats 4000000 in
set_option maxRecDepth 100000 in
theorem slX12_ventures {κ : sm_X} (C : sm_C κ RX12 cX12_ventures 7 8) (v0 : Nat) (v1 : Int32) (v2 : Int32) (v3 : Int32) (hv0 : kd v0 = 12) : sm_S κ (fun _ : Unit => .inr none) (.inl (0, [some (xad κ v0), some (.int v1), some (.int v2), some (.int v3), none, none, none], [])) (fnX12_ventures v0 v1 v2 v3) := by
  unfold fnX12_ventures
  refine sr_aload_n (i := 0) (q := 1) C (show decode cX12_ventures 0 = .ok (.aload_n 0, 1) from by decide +kernel) rfl rfl rfl ?_
  refine sr_iload_n (i := 1) (q := 2) C (show decode cX12_ventures 1 = .ok (.iload_n 1, 1) from by decide +kernel) rfl rfl rfl ?_
  refine sr_bipush (v := (98 : Int32)) (q := 4) C (show decode cX12_ventures 2 = .ok (.bipush 98, 2) from by decide +kernel) (by decide) rfl ?_
  refine sr_cVz (As := [.int v1, .int (98 : Int32)]) (st := []) (b := v0) (q := 7) C yvX12_isAt ml_X12_354 (cnX12_isAt (xo κ) v0 v1 (98 : Int32) hv0) hv0 (by decide) rfl rfl rfl (by decide) (by decide) (Nat.le_of_ble_eq_true rfl) rfl (show decode cX12_ventures 4 = .ok (.invokevirtual 354, 3) from by decide +kernel) rfl (fun x4 => ?_)
  refine sr_if_eq (q := 10) C 31 (show decode cX12_ventures 7 = .ok (.ifCond .eq 24, 3) from by decide +kernel) (by decide) rfl ?_ ?_
  · exact sr_vreturn C _ rfl (show decode cX12_ventures 31 = .ok (.return_, 1) from by decide +kernel)
  · refine sr_aload_n (i := 0) (q := 11) C (show decode cX12_ventures 10 = .ok (.aload_n 0, 1) from by decide +kernel) rfl rfl rfl ?_
    refine sr_aload_n (i := 0) (q := 12) C (show decode cX12_ventures 11 = .ok (.aload_n 0, 1) from by decide +kernel) rfl rfl rfl ?_
    refine sr_iload_n (i := 1) (q := 13) C (show decode cX12_ventures 12 = .ok (.iload_n 1, 1) from by decide +kernel) rfl rfl rfl ?_
    refine sr_cVi (As := [.int v1]) (st := [xad κ v0]) (b := v0) (q := 16) C yvX12_strideOf ml_X12_357 (cnX12_strideOf (xo κ) v0 v1 hv0) hv0 (by decide) rfl rfl rfl (by decide) (by decide) (Nat.le_of_ble_eq_true rfl) rfl (show decode cX12_ventures 13 = .ok (.invokevirtual 357, 3) from by decide +kernel) rfl (fun x13 => ?_)
    refine sr_aload_n (i := 0) (q := 17) C (show decode cX12_ventures 16 = .ok (.aload_n 0, 1) from by decide +kernel) rfl rfl rfl ?_
    refine sr_iload_n (i := 1) (q := 18) C (show decode cX12_ventures 17 = .ok (.iload_n 1, 1) from by decide +kernel) rfl rfl rfl ?_
    refine sr_iconst (v := (1 : Int32)) (q := 19) C (show decode cX12_ventures 18 = .ok (.iconst 1, 1) from by decide +kernel) (by decide) rfl ?_
    refine sr_cVi (As := [.int v1, .int (1 : Int32)]) (st := [.int x13, xad κ v0]) (b := v0) (q := 22) C yvX12_sumOf ml_X12_360 (cnX12_sumOf (xo κ) v0 v1 (1 : Int32) hv0) hv0 (by decide) rfl rfl rfl (by decide) (by decide) (Nat.le_of_ble_eq_true rfl) rfl (show decode cX12_ventures 19 = .ok (.invokevirtual 360, 3) from by decide +kernel) rfl (fun x19 => ?_)
    refine sr_iload_n (i := 2) (q := 23) C (show decode cX12_ventures 22 = .ok (.iload_n 2, 1) from by decide +kernel) rfl rfl rfl ?_
    refine sr_bipush (v := (98 : Int32)) (q := 25) C (show decode cX12_ventures 23 = .ok (.bipush 98, 2) from by decide +kernel) (by decide) rfl ?_
    refine sr_cVz (As := [.int x13, .int x19, .int v2, .int (98 : Int32)]) (st := []) (b := v0) (q := 28) C yvX12_finds ml_X12_313 (cnX12_finds (xo κ) v0 x13 x19 v2 (98 : Int32) hv0) hv0 (by decide) rfl rfl rfl (by decide) (by decide) (Nat.le_of_ble_eq_true rfl) rfl (show decode cX12_ventures 25 = .ok (.invokevirtual 313, 3) from by decide +kernel) rfl (fun x25 => ?_)
    refine sr_if_ne (q := 31) C 32 (show decode cX12_ventures 28 = .ok (.ifCond .ne 4, 3) from by decide +kernel) (by decide) rfl ?_ ?_
    · refine sr_aload_n (i := 0) (q := 33) C (show decode cX12_ventures 32 = .ok (.aload_n 0, 1) from by decide +kernel) rfl rfl rfl ?_
      refine sr_iload_n (i := 1) (q := 34) C (show decode cX12_ventures 33 = .ok (.iload_n 1, 1) from by decide +kernel) rfl rfl rfl ?_
      refine sr_iconst (v := (1 : Int32)) (q := 35) C (show decode cX12_ventures 34 = .ok (.iconst 1, 1) from by decide +kernel) (by decide) rfl ?_
      refine sr_cVi (As := [.int v1, .int (1 : Int32)]) (st := []) (b := v0) (q := 38) C yvX12_sumOf ml_X12_360 (cnX12_sumOf (xo κ) v0 v1 (1 : Int32) hv0) hv0 (by decide) rfl rfl rfl (by decide) (by decide) (Nat.le_of_ble_eq_true rfl) rfl (show decode cX12_ventures 35 = .ok (.invokevirtual 360, 3) from by decide +kernel) rfl (fun x35 => ?_)
      refine sr_istore (i := 4) (L' := [some (xad κ v0), some (.int v1), some (.int v2), some (.int v3), some (.int x35), none, none]) (q := 40) C (show decode cX12_ventures 38 = .ok (.istore 4, 2) from by decide +kernel) (by decide) rfl rfl ?_
      refine sr_iconst (v := (0 : Int32)) (q := 41) C (show decode cX12_ventures 40 = .ok (.iconst 0, 1) from by decide +kernel) (by decide) rfl ?_
      refine sr_istore (i := 5) (L' := [some (xad κ v0), some (.int v1), some (.int v2), some (.int v3), some (.int x35), some (.int (0 : Int32)), none]) (q := 43) C (show decode cX12_ventures 41 = .ok (.istore 5, 2) from by decide +kernel) (by decide) rfl rfl ?_
      refine sr_weak (L' := [some (xad κ v0), some (.int v1), none, some (.int v3), some (.int x35), some (.int (0 : Int32)), none]) ⟨rfl, rfl, rfl, rfl, rfl, trivial⟩ ?_
      exact slX12_ventures_L43 C 4096 v0 v1 v3 x35 (0 : Int32) hv0
    · exact sr_vreturn C _ rfl (show decode cX12_ventures 31 = .ok (.return_, 1) from by decide +kernel)
theorem cnX12_ventures (ω : sm_O) (v0 : Nat) (v1 : Int32) (v2 : Int32) (v3 : Int32) (hv0 : kd v0 = 12) : sm_Mt 8 yX12_ventures cX12_ventures 7 none ω [.ref (ω.1 + v0), .int v1, .int v2, .int v3] (fun _ => none) (fnX12_ventures v0 v1 v2 v3) := by
  refine sm_conV (by decide) (Nat.le_of_ble_eq_true rfl) ?_
  intro κ hκ C
  subst hκ
  exact slX12_ventures C v0 v1 v2 v3 hv0
def fnX12_runOf_J95 (v0 : Nat) : sm_M Int32 := m_bnd (fnX12_mustAndNot v0) fun x97 => m_si v0 25 x97 <| m_bnd (fnX12_wakes v0) fun _ => m_gi v0 22 fun x108 => m_ret x108
set_option maxHeartbeats 4000000 in
set_option maxRecDepth 100000 in
theorem slX12_runOf_J95 {κ : sm_X} (C : sm_C κ RX12 cX12_runOf 6 9) (v0 : Nat) (hv0 : kd v0 = 12) : sm_S κ (fun r : Int32 => .inr (some (.int r))) (.inl (95, [some (xad κ v0), none, none, none, none, none], [])) (fnX12_runOf_J95 v0) := by
  unfold fnX12_runOf_J95
  refine sr_aload_n (i := 0) (q := 96) C (show decode cX12_runOf 95 = .ok (.aload_n 0, 1) from by decide +kernel) rfl rfl rfl ?_
  refine sr_aload_n (i := 0) (q := 97) C (show decode cX12_runOf 96 = .ok (.aload_n 0, 1) from by decide +kernel) rfl rfl rfl ?_
  refine sr_cVi (As := []) (st := [xad κ v0]) (b := v0) (q := 100) C yvX12_mustAndNot ml_X12_402 (cnX12_mustAndNot (xo κ) v0 hv0) hv0 (by decide) rfl rfl rfl (by decide) (by decide) (Nat.le_of_ble_eq_true rfl) rfl (show decode cX12_runOf 97 = .ok (.invokevirtual 402, 3) from by decide +kernel) rfl (fun x97 => ?_)
  refine sr_puti (q := 103) C fp_X12_381 hv0 (show decode cX12_runOf 100 = .ok (.putfield 381, 3) from by decide +kernel) rfl ?_
  refine sr_aload_n (i := 0) (q := 104) C (show decode cX12_runOf 103 = .ok (.aload_n 0, 1) from by decide +kernel) rfl rfl rfl ?_
  refine sr_cVv (As := []) (st := []) (b := v0) (q := 107) C yvX12_wakes ml_X12_345 (cnX12_wakes (xo κ) v0 hv0) hv0 (by decide) rfl rfl rfl (by decide) (by decide) (Nat.le_of_ble_eq_true rfl) rfl (show decode cX12_runOf 104 = .ok (.invokevirtual 345, 3) from by decide +kernel) rfl (fun _ => ?_)
  refine sr_aload_n (i := 0) (q := 108) C (show decode cX12_runOf 107 = .ok (.aload_n 0, 1) from by decide +kernel) rfl rfl rfl ?_
  refine sr_geti (q := 111) C fl_X12_372 (Or.inl rfl) hv0 (show decode cX12_runOf 108 = .ok (.getfield 372, 3) from by decide +kernel) rfl (fun x108 => ?_)
  exact sr_ireturn C _ rfl (show decode cX12_runOf 111 = .ok (.ireturn, 1) from by decide +kernel)
def fnX12_runOf_L71 : Nat → Nat → Int32 → Int32 → Int32 → sm_M Int32
  | 0, _, _, _, _ => m_fail
  | n + 1, v0, v3, v4, v5 => m_bnd (fnX12_units v0) fun x74 => m_br (x74 ≤ v5)
    (fnX12_runOf_J95 v0)
    (m_bnd (fnX12_ventures v0 v5 v3 v4) fun _ => (fnX12_runOf_L71 n) v0 v3 v4 (v5 + (1 : Int32)))
set_option maxHeartbeats 4000000 in
set_option maxRecDepth 100000 in
theorem slX12_runOf_L71 {κ : sm_X} (C : sm_C κ RX12 cX12_runOf 6 9) : ∀ (n : Nat) (v0 : Nat) (v3 : Int32) (v4 : Int32) (v5 : Int32) (hv0 : kd v0 = 12), sm_S κ (fun r : Int32 => .inr (some (.int r))) (.inl (71, [some (xad κ v0), none, none, some (.int v3), some (.int v4), some (.int v5)], [])) (fnX12_runOf_L71 n v0 v3 v4 v5) := by
  intro n
  induction n with
  | zero =>
    intros
    exact sr_fail
  | succ n K71 =>
    intro v0 v3 v4 v5 hv0
    unfold fnX12_runOf_L71
    refine sr_iload (i := 5) (q := 73) C (show decode cX12_runOf 71 = .ok (.iload 5, 2) from by decide +kernel) rfl rfl ?_
    refine sr_aload_n (i := 0) (q := 74) C (show decode cX12_runOf 73 = .ok (.aload_n 0, 1) from by decide +kernel) rfl rfl rfl ?_
    refine sr_cVi (As := []) (st := [.int v5]) (b := v0) (q := 77) C yvX12_units ml_X12_393 (cnX12_units (xo κ) v0 hv0) hv0 (by decide) rfl rfl rfl (by decide) (by decide) (Nat.le_of_ble_eq_true rfl) rfl (show decode cX12_runOf 74 = .ok (.invokevirtual 393, 3) from by decide +kernel) rfl (fun x74 => ?_)
    refine sr_icmp_ge (q := 80) C 95 (show decode cX12_runOf 77 = .ok (.if_icmp .ge 18, 3) from by decide +kernel) (by decide) rfl ?_ ?_
    · refine sr_weak (L' := [some (xad κ v0), none, none, none, none, none]) ⟨rfl, trivial⟩ ?_
      exact slX12_runOf_J95 C v0 hv0
    · refine sr_aload_n (i := 0) (q := 81) C (show decode cX12_runOf 80 = .ok (.aload_n 0, 1) from by decide +kernel) rfl rfl rfl ?_
      refine sr_iload (i := 5) (q := 83) C (show decode cX12_runOf 81 = .ok (.iload 5, 2) from by decide +kernel) rfl rfl ?_
      refine sr_iload_n (i := 3) (q := 84) C (show decode cX12_runOf 83 = .ok (.iload_n 3, 1) from by decide +kernel) rfl rfl rfl ?_
      refine sr_iload (i := 4) (q := 86) C (show decode cX12_runOf 84 = .ok (.iload 4, 2) from by decide +kernel) rfl rfl ?_
      refine sr_cVv (As := [.int v5, .int v3, .int v4]) (st := []) (b := v0) (q := 89) C yvX12_ventures ml_X12_535 (cnX12_ventures (xo κ) v0 v5 v3 v4 hv0) hv0 (by decide) rfl rfl rfl (by decide) (by decide) (Nat.le_of_ble_eq_true rfl) rfl (show decode cX12_runOf 86 = .ok (.invokevirtual 535, 3) from by decide +kernel) rfl (fun _ => ?_)
      refine sr_iinc (v := v5 + (1 : Int32)) (L' := [some (xad κ v0), none, none, some (.int v3), some (.int v4), some (.int (v5 + (1 : Int32)))]) (q := 92) C (show decode cX12_runOf 89 = .ok (.iinc 5 1, 3) from by decide +kernel) rfl rfl (by decide) rfl rfl ?_
      refine sr_goto (q := 71) C (show decode cX12_runOf 92 = .ok (.goto (-21), 3) from by decide +kernel) (by decide) ?_
      exact K71 v0 v3 v4 (v5 + (1 : Int32)) hv0
def fnX12_runOf_J60 (v0 : Nat) (v3 : Int32) (v4 : Int32) : sm_M Int32 := m_bnd (fnX12_thinks v0) fun _ => m_bnd (fnX12_clearsOver v0) fun _ => fnX12_runOf_L71 4096 v0 v3 v4 (0 : Int32)
set_option maxHeartbeats 4000000 in
set_option maxRecDepth 100000 in
theorem slX12_runOf_J60 {κ : sm_X} (C : sm_C κ RX12 cX12_runOf 6 9) (v0 : Nat) (v3 : Int32) (v4 : Int32) (hv0 : kd v0 = 12) : sm_S κ (fun r : Int32 => .inr (some (.int r))) (.inl (60, [some (xad κ v0), none, none, some (.int v3), some (.int v4), none], [])) (fnX12_runOf_J60 v0 v3 v4) := by
  unfold fnX12_runOf_J60
  refine sr_aload_n (i := 0) (q := 61) C (show decode cX12_runOf 60 = .ok (.aload_n 0, 1) from by decide +kernel) rfl rfl rfl ?_
  refine sr_cVv (As := []) (st := []) (b := v0) (q := 64) C yvX12_thinks ml_X12_339 (cnX12_thinks (xo κ) v0 hv0) hv0 (by decide) rfl rfl rfl (by decide) (by decide) (Nat.le_of_ble_eq_true rfl) rfl (show decode cX12_runOf 61 = .ok (.invokevirtual 339, 3) from by decide +kernel) rfl (fun _ => ?_)
  refine sr_aload_n (i := 0) (q := 65) C (show decode cX12_runOf 64 = .ok (.aload_n 0, 1) from by decide +kernel) rfl rfl rfl ?_
  refine sr_cVv (As := []) (st := []) (b := v0) (q := 68) C yvX12_clearsOver ml_X12_390 (cnX12_clearsOver (xo κ) v0 hv0) hv0 (by decide) rfl rfl rfl (by decide) (by decide) (Nat.le_of_ble_eq_true rfl) rfl (show decode cX12_runOf 65 = .ok (.invokevirtual 390, 3) from by decide +kernel) rfl (fun _ => ?_)
  refine sr_iconst (v := (0 : Int32)) (q := 69) C (show decode cX12_runOf 68 = .ok (.iconst 0, 1) from by decide +kernel) (by decide) rfl ?_
  refine sr_istore (i := 5) (L' := [some (xad κ v0), none, none, some (.int v3), some (.int v4), some (.int (0 : Int32))]) (q := 71) C (show decode cX12_runOf 69 = .ok (.istore 5, 2) from by decide +kernel) (by decide) rfl rfl ?_
  exact slX12_runOf_L71 C 4096 v0 v3 v4 (0 : Int32) hv0
def fnX12_runOf_J54 (k11 : Nat → Int32 → Int32 → Int32 → sm_M Int32) (v0 : Nat) (v3 : Int32) (v4 : Int32) (v5 : Int32) : sm_M Int32 := k11 v0 v3 v4 (v5 + (1 : Int32))
set_option maxHeartbeats 4000000 in
set_option maxRecDepth 100000 in
theorem slX12_runOf_J54 {κ : sm_X} (C : sm_C κ RX12 cX12_runOf 6 9) {k11 : Nat → Int32 → Int32 → Int32 → sm_M Int32} (K11 : ∀ (v0 : Nat) (v3 : Int32) (v4 : Int32) (v5 : Int32) (hv0 : kd v0 = 12), sm_S κ (fun r : Int32 => .inr (some (.int r))) (.inl (11, [some (xad κ v0), none, none, some (.int v3), some (.int v4), some (.int v5)], [])) (k11 v0 v3 v4 v5)) (v0 : Nat) (v3 : Int32) (v4 : Int32) (v5 : Int32) (hv0 : kd v0 = 12) : sm_S κ (fun r : Int32 => .inr (some (.int r))) (.inl (54, [some (xad κ v0), none, none, some (.int v3), some (.int v4), some (.int v5)], [])) (fnX12_runOf_J54 k11 v0 v3 v4 v5) := by
  unfold fnX12_runOf_J54
  refine sr_iinc (v := v5 + (1 : Int32)) (L' := [some (xad κ v0), none, none, some (.int v3), some (.int v4), some (.int (v5 + (1 : Int32)))]) (q := 57) C (show decode cX12_runOf 54 = .ok (.iinc 5 1, 3) from by decide +kernel) rfl rfl (by decide) rfl rfl ?_
  refine sr_goto (q := 11) C (show decode cX12_runOf 57 = .ok (.goto (-46), 3) from by decide +kernel) (by decide) ?_
  exact K11 v0 v3 v4 (v5 + (1 : Int32)) hv0
def fnX12_runOf_L11 : Nat → Nat → Int32 → Int32 → Int32 → sm_M Int32
  | 0, _, _, _, _ => m_fail
  | n + 1, v0, v3, v4, v5 => m_ai (lk v0 1) (3 : Int32) fun x18 => m_br (x18 ≤ v5)
    (fnX12_runOf_J60 v0 v3 v4)
    (m_bnd (fnX12_isInDoubt v0 v5) fun x25 => m_br ((bI x25) = 0)
    (fnX12_runOf_J54 (fnX12_runOf_L11 n) v0 v3 v4 v5)
    (m_bnd (fnX12_draw v0) fun x32 => m_bnd (fnX12_ofStone v0 v5 (4 : Int32)) fun x39 => m_br (x39 ≤ x32)
    (fnX12_runOf_J54 (fnX12_runOf_L11 n) v0 v3 v4 v5)
    (m_nm (v4 ||| ((1 : Int32) <<< (v5 &&& 31))) fun y52 => fnX12_runOf_J54 (fnX12_runOf_L11 n) v0 v3 y52 v5)))
set_option maxHeartbeats 4000000 in
set_option maxRecDepth 100000 in
theorem slX12_runOf_L11 {κ : sm_X} (C : sm_C κ RX12 cX12_runOf 6 9) : ∀ (n : Nat) (v0 : Nat) (v3 : Int32) (v4 : Int32) (v5 : Int32) (hv0 : kd v0 = 12), sm_S κ (fun r : Int32 => .inr (some (.int r))) (.inl (11, [some (xad κ v0), none, none, some (.int v3), some (.int v4), some (.int v5)], [])) (fnX12_runOf_L11 n v0 v3 v4 v5) := by
  intro n
  induction n with
  | zero =>
    intros
    exact sr_fail
  | succ n K11 =>
    intro v0 v3 v4 v5 hv0
    unfold fnX12_runOf_L11
    refine sr_iload (i := 5) (q := 13) C (show decode cX12_runOf 11 = .ok (.iload 5, 2) from by decide +kernel) rfl rfl ?_
    refine sr_aload_n (i := 0) (q := 14) C (show decode cX12_runOf 13 = .ok (.aload_n 0, 1) from by decide +kernel) rfl rfl rfl ?_
    refine sr_getr (q := 17) C fl_X12_9 hv0 (show decode cX12_runOf 14 = .ok (.getfield 9, 3) from by decide +kernel) rfl ?_
    refine sr_iconst (v := (3 : Int32)) (q := 18) C (show decode cX12_runOf 17 = .ok (.iconst 3, 1) from by decide +kernel) (by decide) rfl ?_
    refine sr_iaload (q := 19) C (kt hv0 kp_12_1) (show decode cX12_runOf 18 = .ok (.iaload, 1) from by decide +kernel) rfl (fun x18 => ?_)
    refine sr_icmp_ge (q := 22) C 60 (show decode cX12_runOf 19 = .ok (.if_icmp .ge 41, 3) from by decide +kernel) (by decide) rfl ?_ ?_
    · refine sr_weak (L' := [some (xad κ v0), none, none, some (.int v3), some (.int v4), none]) ⟨rfl, rfl, rfl, trivial⟩ ?_
      exact slX12_runOf_J60 C v0 v3 v4 hv0
    · refine sr_aload_n (i := 0) (q := 23) C (show decode cX12_runOf 22 = .ok (.aload_n 0, 1) from by decide +kernel) rfl rfl rfl ?_
      refine sr_iload (i := 5) (q := 25) C (show decode cX12_runOf 23 = .ok (.iload 5, 2) from by decide +kernel) rfl rfl ?_
      refine sr_cVz (As := [.int v5]) (st := []) (b := v0) (q := 28) C yvX12_isInDoubt ml_X12_253 (cnX12_isInDoubt (xo κ) v0 v5 hv0) hv0 (by decide) rfl rfl rfl (by decide) (by decide) (Nat.le_of_ble_eq_true rfl) rfl (show decode cX12_runOf 25 = .ok (.invokevirtual 253, 3) from by decide +kernel) rfl (fun x25 => ?_)
      refine sr_if_eq (q := 31) C 54 (show decode cX12_runOf 28 = .ok (.ifCond .eq 26, 3) from by decide +kernel) (by decide) rfl ?_ ?_
      · exact slX12_runOf_J54 C K11 v0 v3 v4 v5 hv0
      · refine sr_aload_n (i := 0) (q := 32) C (show decode cX12_runOf 31 = .ok (.aload_n 0, 1) from by decide +kernel) rfl rfl rfl ?_
        refine sr_cVi (As := []) (st := []) (b := v0) (q := 35) C yvX12_draw ml_X12_532 (cnX12_draw (xo κ) v0 hv0) hv0 (by decide) rfl rfl rfl (by decide) (by decide) (Nat.le_of_ble_eq_true rfl) rfl (show decode cX12_runOf 32 = .ok (.invokevirtual 532, 3) from by decide +kernel) rfl (fun x32 => ?_)
        refine sr_aload_n (i := 0) (q := 36) C (show decode cX12_runOf 35 = .ok (.aload_n 0, 1) from by decide +kernel) rfl rfl rfl ?_
        refine sr_iload (i := 5) (q := 38) C (show decode cX12_runOf 36 = .ok (.iload 5, 2) from by decide +kernel) rfl rfl ?_
        refine sr_iconst (v := (4 : Int32)) (q := 39) C (show decode cX12_runOf 38 = .ok (.iconst 4, 1) from by decide +kernel) (by decide) rfl ?_
        refine sr_cVi (As := [.int v5, .int (4 : Int32)]) (st := [.int x32]) (b := v0) (q := 42) C yvX12_ofStone ml_X12_239 (cnX12_ofStone (xo κ) v0 v5 (4 : Int32) hv0) hv0 (by decide) rfl rfl rfl (by decide) (by decide) (Nat.le_of_ble_eq_true rfl) rfl (show decode cX12_runOf 39 = .ok (.invokevirtual 239, 3) from by decide +kernel) rfl (fun x39 => ?_)
        refine sr_icmp_ge (q := 45) C 54 (show decode cX12_runOf 42 = .ok (.if_icmp .ge 12, 3) from by decide +kernel) (by decide) rfl ?_ ?_
        · exact slX12_runOf_J54 C K11 v0 v3 v4 v5 hv0
        · refine sr_iload (i := 4) (q := 47) C (show decode cX12_runOf 45 = .ok (.iload 4, 2) from by decide +kernel) rfl rfl ?_
          refine sr_iconst (v := (1 : Int32)) (q := 48) C (show decode cX12_runOf 47 = .ok (.iconst 1, 1) from by decide +kernel) (by decide) rfl ?_
          refine sr_iload (i := 5) (q := 50) C (show decode cX12_runOf 48 = .ok (.iload 5, 2) from by decide +kernel) rfl rfl ?_
          refine sr_ishl (q := 51) C (show decode cX12_runOf 50 = .ok (.ishl, 1) from by decide +kernel) rfl ?_
          refine sr_ior (q := 52) C (show decode cX12_runOf 51 = .ok (.ior, 1) from by decide +kernel) rfl ?_
          refine sr_nmi (fun y52 => ?_)
          refine sr_istore (i := 4) (L' := [some (xad κ v0), none, none, some (.int v3), some (.int y52), some (.int v5)]) (q := 54) C (show decode cX12_runOf 52 = .ok (.istore 4, 2) from by decide +kernel) (by decide) rfl rfl ?_
          exact slX12_runOf_J54 C K11 v0 v3 y52 v5 hv0
def fnX12_runOf (v0 : Nat) (v1 : Int64) (v3 : Int32) : sm_M Int32 := m_sl v0 42 v1 <| fnX12_runOf_L11 4096 v0 v3 (0 : Int32) (0 : Int32)
set_option maxHeartbeats 4000000 in
set_option maxRecDepth 100000 in
theorem slX12_runOf {κ : sm_X} (C : sm_C κ RX12 cX12_runOf 6 9) (v0 : Nat) (v1 : Int64) (v3 : Int32) (hv0 : kd v0 = 12) : sm_S κ (fun r : Int32 => .inr (some (.int r))) (.inl (0, [some (xad κ v0), some (.long v1), none, some (.int v3), none, none], [])) (fnX12_runOf v0 v1 v3) := by
  unfold fnX12_runOf
  refine sr_aload_n (i := 0) (q := 1) C (show decode cX12_runOf 0 = .ok (.aload_n 0, 1) from by decide +kernel) rfl rfl rfl ?_
  refine sr_lload_n (i := 1) (q := 2) C (show decode cX12_runOf 1 = .ok (.lload_n 1, 1) from by decide +kernel) rfl rfl rfl ?_
  refine sr_putl (q := 5) C fp_X12_522 hv0 (show decode cX12_runOf 2 = .ok (.putfield 522, 3) from by decide +kernel) rfl ?_
  refine sr_iconst (v := (0 : Int32)) (q := 6) C (show decode cX12_runOf 5 = .ok (.iconst 0, 1) from by decide +kernel) (by decide) rfl ?_
  refine sr_istore (i := 4) (L' := [some (xad κ v0), some (.long v1), none, some (.int v3), some (.int (0 : Int32)), none]) (q := 8) C (show decode cX12_runOf 6 = .ok (.istore 4, 2) from by decide +kernel) (by decide) rfl rfl ?_
  refine sr_iconst (v := (0 : Int32)) (q := 9) C (show decode cX12_runOf 8 = .ok (.iconst 0, 1) from by decide +kernel) (by decide) rfl ?_
  refine sr_istore (i := 5) (L' := [some (xad κ v0), some (.long v1), none, some (.int v3), some (.int (0 : Int32)), some (.int (0 : Int32))]) (q := 11) C (show decode cX12_runOf 9 = .ok (.istore 5, 2) from by decide +kernel) (by decide) rfl rfl ?_
  refine sr_weak (L' := [some (xad κ v0), none, none, some (.int v3), some (.int (0 : Int32)), some (.int (0 : Int32))]) ⟨rfl, rfl, rfl, rfl, trivial⟩ ?_
  exact slX12_runOf_L11 C 4096 v0 v3 (0 : Int32) (0 : Int32) hv0
theorem cnX12_runOf (ω : sm_O) (v0 : Nat) (v1 : Int64) (v3 : Int32) (hv0 : kd v0 = 12) : sm_Mt 9 yX12_runOf cX12_runOf 6 (some .int) ω [.ref (ω.1 + v0), .long v1, .int v3] (fun a => some (.int a)) (fnX12_runOf v0 v1 v3) := by
  refine sm_conI (r := fun a => a) (by decide) (fun _ => rfl) (Nat.le_of_ble_eq_true rfl) ?_
  intro κ hκ C
  subst hκ
  exact slX12_runOf C v0 v1 v3 hv0
def fnX12_run (v0 : Nat) (v1 : Int32) (v2 : Int32) : sm_M Int32 := m_bnd (fnX12_isSeed v1) fun x1 => m_br ((bI x1) = 0)
    (m_ret (-2 : Int32))
    (m_bnd (fnX12_isWay v0 v2) fun x9 => m_br ((bI x9) = 0)
    (m_ret (-2 : Int32))
    (m_bnd (fnX12_runOf v0 v1.toInt64 v2) fun x19 => m_ret x19))
set_option maxHeartbeats 4000000 in
set_option maxRecDepth 100000 in
theorem slX12_run {κ : sm_X} (C : sm_C κ RX12 cX12_run 3 10) (v0 : Nat) (v1 : Int32) (v2 : Int32) (hv0 : kd v0 = 12) : sm_S κ (fun r : Int32 => .inr (some (.int r))) (.inl (0, [some (xad κ v0), some (.int v1), some (.int v2)], [])) (fnX12_run v0 v1 v2) := by
  unfold fnX12_run
  refine sr_iload_n (i := 1) (q := 1) C (show decode cX12_run 0 = .ok (.iload_n 1, 1) from by decide +kernel) rfl rfl rfl ?_
  refine sr_cSz (As := [.int v1]) (st := []) (q := 4) C ysX12_isSeed ml_X12_540 (cnX12_isSeed (xo κ) v1) rfl (by decide) (by decide) (Nat.le_of_ble_eq_true rfl) rfl (show decode cX12_run 1 = .ok (.invokestatic 540, 3) from by decide +kernel) rfl (fun x1 => ?_)
  refine sr_if_eq (q := 7) C 25 (show decode cX12_run 4 = .ok (.ifCond .eq 21, 3) from by decide +kernel) (by decide) rfl ?_ ?_
  · refine sr_bipush (v := (-2 : Int32)) (q := 27) C (show decode cX12_run 25 = .ok (.bipush (-2), 2) from by decide +kernel) (by decide) rfl ?_
    exact sr_ireturn C _ rfl (show decode cX12_run 27 = .ok (.ireturn, 1) from by decide +kernel)
  · refine sr_aload_n (i := 0) (q := 8) C (show decode cX12_run 7 = .ok (.aload_n 0, 1) from by decide +kernel) rfl rfl rfl ?_
    refine sr_iload_n (i := 2) (q := 9) C (show decode cX12_run 8 = .ok (.iload_n 2, 1) from by decide +kernel) rfl rfl rfl ?_
    refine sr_cVz (As := [.int v2]) (st := []) (b := v0) (q := 12) C yvX12_isWay ml_X12_366 (cnX12_isWay (xo κ) v0 v2 hv0) hv0 (by decide) rfl rfl rfl (by decide) (by decide) (Nat.le_of_ble_eq_true rfl) rfl (show decode cX12_run 9 = .ok (.invokevirtual 366, 3) from by decide +kernel) rfl (fun x9 => ?_)
    refine sr_if_eq (q := 15) C 25 (show decode cX12_run 12 = .ok (.ifCond .eq 13, 3) from by decide +kernel) (by decide) rfl ?_ ?_
    · refine sr_bipush (v := (-2 : Int32)) (q := 27) C (show decode cX12_run 25 = .ok (.bipush (-2), 2) from by decide +kernel) (by decide) rfl ?_
      exact sr_ireturn C _ rfl (show decode cX12_run 27 = .ok (.ireturn, 1) from by decide +kernel)
    · refine sr_aload_n (i := 0) (q := 16) C (show decode cX12_run 15 = .ok (.aload_n 0, 1) from by decide +kernel) rfl rfl rfl ?_
      refine sr_iload_n (i := 1) (q := 17) C (show decode cX12_run 16 = .ok (.iload_n 1, 1) from by decide +kernel) rfl rfl rfl ?_
      refine sr_i2l (q := 18) C (show decode cX12_run 17 = .ok (.i2l, 1) from by decide +kernel) rfl ?_
      refine sr_iload_n (i := 2) (q := 19) C (show decode cX12_run 18 = .ok (.iload_n 2, 1) from by decide +kernel) rfl rfl rfl ?_
      refine sr_cVi (As := [.long v1.toInt64, .int v2]) (st := []) (b := v0) (q := 22) C yvX12_runOf ml_X12_543 (cnX12_runOf (xo κ) v0 v1.toInt64 v2 hv0) hv0 (by decide) rfl rfl rfl (by decide) (by decide) (Nat.le_of_ble_eq_true rfl) rfl (show decode cX12_run 19 = .ok (.invokevirtual 543, 3) from by decide +kernel) rfl (fun x19 => ?_)
      refine sr_goto (q := 27) C (show decode cX12_run 22 = .ok (.goto 5, 3) from by decide +kernel) (by decide) ?_
      exact sr_ireturn C _ rfl (show decode cX12_run 27 = .ok (.ireturn, 1) from by decide +kernel)
theorem cnX12_run (ω : sm_O) (v0 : Nat) (v1 : Int32) (v2 : Int32) (hv0 : kd v0 = 12) : sm_Mt 10 yX12_run cX12_run 3 (some .int) ω [.ref (ω.1 + v0), .int v1, .int v2] (fun a => some (.int a)) (fnX12_run v0 v1 v2) := by
  refine sm_conI (r := fun a => a) (by decide) (fun _ => rfl) (Nat.le_of_ble_eq_true rfl) ?_
  intro κ hκ C
  subst hκ
  exact slX12_run C v0 v1 v2 hv0
def fnX12_runs_J115 (v4 : Int32) (v5 : Int32) (v6 : Int32) (v7 : Int32) : sm_M Int32 := m_br (v4 = 0)
    (m_ret v5)
    (m_br (v4 = (1 : Int32))
    (m_ret v6)
    (m_ret v7))
set_option maxHeartbeats 4000000 in
set_option maxRecDepth 100000 in
theorem slX12_runs_J115 {κ : sm_X} (C : sm_C κ RX12 cX12_runs 10 10) (v4 : Int32) (v5 : Int32) (v6 : Int32) (v7 : Int32)  : sm_S κ (fun r : Int32 => .inr (some (.int r))) (.inl (115, [none, none, none, none, some (.int v4), some (.int v5), some (.int v6), some (.int v7), none, none], [])) (fnX12_runs_J115 v4 v5 v6 v7) := by
  unfold fnX12_runs_J115
  refine sr_iload (i := 4) (q := 117) C (show decode cX12_runs 115 = .ok (.iload 4, 2) from by decide +kernel) rfl rfl ?_
  refine sr_if_ne (q := 120) C 125 (show decode cX12_runs 117 = .ok (.ifCond .ne 8, 3) from by decide +kernel) (by decide) rfl ?_ ?_
  · refine sr_iload (i := 4) (q := 127) C (show decode cX12_runs 125 = .ok (.iload 4, 2) from by decide +kernel) rfl rfl ?_
    refine sr_iconst (v := (1 : Int32)) (q := 128) C (show decode cX12_runs 127 = .ok (.iconst 1, 1) from by decide +kernel) (by decide) rfl ?_
    refine sr_icmp_ne (q := 131) C 136 (show decode cX12_runs 128 = .ok (.if_icmp .ne 8, 3) from by decide +kernel) (by decide) rfl ?_ ?_
    · refine sr_iload (i := 7) (q := 138) C (show decode cX12_runs 136 = .ok (.iload 7, 2) from by decide +kernel) rfl rfl ?_
      exact sr_ireturn C _ rfl (show decode cX12_runs 138 = .ok (.ireturn, 1) from by decide +kernel)
    · refine sr_iload (i := 6) (q := 133) C (show decode cX12_runs 131 = .ok (.iload 6, 2) from by decide +kernel) rfl rfl ?_
      refine sr_goto (q := 138) C (show decode cX12_runs 133 = .ok (.goto 5, 3) from by decide +kernel) (by decide) ?_
      exact sr_ireturn C _ rfl (show decode cX12_runs 138 = .ok (.ireturn, 1) from by decide +kernel)
  · refine sr_iload (i := 5) (q := 122) C (show decode cX12_runs 120 = .ok (.iload 5, 2) from by decide +kernel) rfl rfl ?_
    refine sr_goto (q := 138) C (show decode cX12_runs 122 = .ok (.goto 16, 3) from by decide +kernel) (by decide) ?_
    exact sr_ireturn C _ rfl (show decode cX12_runs 138 = .ok (.ireturn, 1) from by decide +kernel)
def fnX12_runs_J106 (k57 : Nat → Int32 → Int32 → Int32 → Int32 → Int32 → Int32 → Int32 → Int32 → sm_M Int32) (v0 : Nat) (v1 : Int32) (v2 : Int32) (v3 : Int32) (v4 : Int32) (v5 : Int32) (v6 : Int32) (v8 : Int32) (s0 : Int32) (s1 : Int32) : sm_M Int32 := m_nm (s1 + s0) fun y107 => k57 v0 v1 v2 v3 v4 v5 v6 y107 (v8 + (1 : Int32))
set_option maxHeartbeats 4000000 in
set_option maxRecDepth 100000 in
theorem slX12_runs_J106 {κ : sm_X} (C : sm_C κ RX12 cX12_runs 10 10) {k57 : Nat → Int32 → Int32 → Int32 → Int32 → Int32 → Int32 → Int32 → Int32 → sm_M Int32} (K57 : ∀ (v0 : Nat) (v1 : Int32) (v2 : Int32) (v3 : Int32) (v4 : Int32) (v5 : Int32) (v6 : Int32) (v7 : Int32) (v8 : Int32) (hv0 : kd v0 = 12), sm_S κ (fun r : Int32 => .inr (some (.int r))) (.inl (57, [some (xad κ v0), some (.int v1), some (.int v2), some (.int v3), some (.int v4), some (.int v5), some (.int v6), some (.int v7), some (.int v8), none], [])) (k57 v0 v1 v2 v3 v4 v5 v6 v7 v8)) (v0 : Nat) (v1 : Int32) (v2 : Int32) (v3 : Int32) (v4 : Int32) (v5 : Int32) (v6 : Int32) (v8 : Int32) (s0 : Int32) (s1 : Int32) (hv0 : kd v0 = 12) : sm_S κ (fun r : Int32 => .inr (some (.int r))) (.inl (106, [some (xad κ v0), some (.int v1), some (.int v2), some (.int v3), some (.int v4), some (.int v5), some (.int v6), none, some (.int v8), none], [.int s0, .int s1])) (fnX12_runs_J106 k57 v0 v1 v2 v3 v4 v5 v6 v8 s0 s1) := by
  unfold fnX12_runs_J106
  refine sr_iadd (q := 107) C (show decode cX12_runs 106 = .ok (.iadd, 1) from by decide +kernel) rfl ?_
  refine sr_nmi (fun y107 => ?_)
  refine sr_istore (i := 7) (L' := [some (xad κ v0), some (.int v1), some (.int v2), some (.int v3), some (.int v4), some (.int v5), some (.int v6), some (.int y107), some (.int v8), none]) (q := 109) C (show decode cX12_runs 107 = .ok (.istore 7, 2) from by decide +kernel) (by decide) rfl rfl ?_
  refine sr_iinc (v := v8 + (1 : Int32)) (L' := [some (xad κ v0), some (.int v1), some (.int v2), some (.int v3), some (.int v4), some (.int v5), some (.int v6), some (.int y107), some (.int (v8 + (1 : Int32))), none]) (q := 112) C (show decode cX12_runs 109 = .ok (.iinc 8 1, 3) from by decide +kernel) rfl rfl (by decide) rfl rfl ?_
  refine sr_goto (q := 57) C (show decode cX12_runs 112 = .ok (.goto (-55), 3) from by decide +kernel) (by decide) ?_
  exact K57 v0 v1 v2 v3 v4 v5 v6 y107 (v8 + (1 : Int32)) hv0
def fnX12_runs_L57 : Nat → Nat → Int32 → Int32 → Int32 → Int32 → Int32 → Int32 → Int32 → Int32 → sm_M Int32
  | 0, _, _, _, _, _, _, _, _, _ => m_fail
  | n + 1, v0, v1, v2, v3, v4, v5, v6, v7, v8 => m_br (v2 ≤ v8)
    (fnX12_runs_J115 v4 v5 v6 v7)
    (m_bnd (fnX12_runOf v0 (v1.toInt64 + v8.toInt64) v3) fun x71 => m_nm (v5 + x71) fun y81 => m_nm (jmin v6 x71) fun y90 => m_gi v0 25 fun x95 => m_br (x95 = 0)
    (fnX12_runs_J106 (fnX12_runs_L57 n) v0 v1 v2 v3 v4 y81 y90 v8 (1 : Int32) v7)
    (fnX12_runs_J106 (fnX12_runs_L57 n) v0 v1 v2 v3 v4 y81 y90 v8 (0 : Int32) v7))
set_option maxHeartbeats 4000000 in
set_option maxRecDepth 100000 in
theorem slX12_runs_L57 {κ : sm_X} (C : sm_C κ RX12 cX12_runs 10 10) : ∀ (n : Nat) (v0 : Nat) (v1 : Int32) (v2 : Int32) (v3 : Int32) (v4 : Int32) (v5 : Int32) (v6 : Int32) (v7 : Int32) (v8 : Int32) (hv0 : kd v0 = 12), sm_S κ (fun r : Int32 => .inr (some (.int r))) (.inl (57, [some (xad κ v0), some (.int v1), some (.int v2), some (.int v3), some (.int v4), some (.int v5), some (.int v6), some (.int v7), some (.int v8), none], [])) (fnX12_runs_L57 n v0 v1 v2 v3 v4 v5 v6 v7 v8) := by
  intro n
  induction n with
  | zero =>
    intros
    exact sr_fail
  | succ n K57 =>
    intro v0 v1 v2 v3 v4 v5 v6 v7 v8 hv0
    unfold fnX12_runs_L57
    refine sr_iload (i := 8) (q := 59) C (show decode cX12_runs 57 = .ok (.iload 8, 2) from by decide +kernel) rfl rfl ?_
    refine sr_iload_n (i := 2) (q := 60) C (show decode cX12_runs 59 = .ok (.iload_n 2, 1) from by decide +kernel) rfl rfl rfl ?_
    refine sr_icmp_ge (q := 63) C 115 (show decode cX12_runs 60 = .ok (.if_icmp .ge 55, 3) from by decide +kernel) (by decide) rfl ?_ ?_
    · refine sr_weak (L' := [none, none, none, none, some (.int v4), some (.int v5), some (.int v6), some (.int v7), none, none]) ⟨rfl, rfl, rfl, rfl, trivial⟩ ?_
      exact slX12_runs_J115 C v4 v5 v6 v7
    · refine sr_aload_n (i := 0) (q := 64) C (show decode cX12_runs 63 = .ok (.aload_n 0, 1) from by decide +kernel) rfl rfl rfl ?_
      refine sr_iload_n (i := 1) (q := 65) C (show decode cX12_runs 64 = .ok (.iload_n 1, 1) from by decide +kernel) rfl rfl rfl ?_
      refine sr_i2l (q := 66) C (show decode cX12_runs 65 = .ok (.i2l, 1) from by decide +kernel) rfl ?_
      refine sr_iload (i := 8) (q := 68) C (show decode cX12_runs 66 = .ok (.iload 8, 2) from by decide +kernel) rfl rfl ?_
      refine sr_i2l (q := 69) C (show decode cX12_runs 68 = .ok (.i2l, 1) from by decide +kernel) rfl ?_
      refine sr_ladd (q := 70) C (show decode cX12_runs 69 = .ok (.ladd, 1) from by decide +kernel) rfl ?_
      refine sr_iload_n (i := 3) (q := 71) C (show decode cX12_runs 70 = .ok (.iload_n 3, 1) from by decide +kernel) rfl rfl rfl ?_
      refine sr_cVi (As := [.long (v1.toInt64 + v8.toInt64), .int v3]) (st := []) (b := v0) (q := 74) C yvX12_runOf ml_X12_543 (cnX12_runOf (xo κ) v0 (v1.toInt64 + v8.toInt64) v3 hv0) hv0 (by decide) rfl rfl rfl (by decide) (by decide) (Nat.le_of_ble_eq_true rfl) rfl (show decode cX12_runs 71 = .ok (.invokevirtual 543, 3) from by decide +kernel) rfl (fun x71 => ?_)
      refine sr_istore (i := 9) (L' := [some (xad κ v0), some (.int v1), some (.int v2), some (.int v3), some (.int v4), some (.int v5), some (.int v6), some (.int v7), some (.int v8), some (.int x71)]) (q := 76) C (show decode cX12_runs 74 = .ok (.istore 9, 2) from by decide +kernel) (by decide) rfl rfl ?_
      refine sr_iload (i := 5) (q := 78) C (show decode cX12_runs 76 = .ok (.iload 5, 2) from by decide +kernel) rfl rfl ?_
      refine sr_iload (i := 9) (q := 80) C (show decode cX12_runs 78 = .ok (.iload 9, 2) from by decide +kernel) rfl rfl ?_
      refine sr_iadd (q := 81) C (show decode cX12_runs 80 = .ok (.iadd, 1) from by decide +kernel) rfl ?_
      refine sr_nmi (fun y81 => ?_)
      refine sr_istore (i := 5) (L' := [some (xad κ v0), some (.int v1), some (.int v2), some (.int v3), some (.int v4), some (.int y81), some (.int v6), some (.int v7), some (.int v8), some (.int x71)]) (q := 83) C (show decode cX12_runs 81 = .ok (.istore 5, 2) from by decide +kernel) (by decide) rfl rfl ?_
      refine sr_iload (i := 6) (q := 85) C (show decode cX12_runs 83 = .ok (.iload 6, 2) from by decide +kernel) rfl rfl ?_
      refine sr_iload (i := 9) (q := 87) C (show decode cX12_runs 85 = .ok (.iload 9, 2) from by decide +kernel) rfl rfl ?_
      refine sr_jmin (st := []) (q := 90) C ml_X12_146 (by decide) (Nat.le_of_ble_eq_true rfl) (show decode cX12_runs 87 = .ok (.invokestatic 146, 3) from by decide +kernel) rfl ?_
      refine sr_nmi (fun y90 => ?_)
      refine sr_istore (i := 6) (L' := [some (xad κ v0), some (.int v1), some (.int v2), some (.int v3), some (.int v4), some (.int y81), some (.int y90), some (.int v7), some (.int v8), some (.int x71)]) (q := 92) C (show decode cX12_runs 90 = .ok (.istore 6, 2) from by decide +kernel) (by decide) rfl rfl ?_
      refine sr_iload (i := 7) (q := 94) C (show decode cX12_runs 92 = .ok (.iload 7, 2) from by decide +kernel) rfl rfl ?_
      refine sr_aload_n (i := 0) (q := 95) C (show decode cX12_runs 94 = .ok (.aload_n 0, 1) from by decide +kernel) rfl rfl rfl ?_
      refine sr_geti (q := 98) C fl_X12_381 (Or.inl rfl) hv0 (show decode cX12_runs 95 = .ok (.getfield 381, 3) from by decide +kernel) rfl (fun x95 => ?_)
      refine sr_if_ne (q := 101) C 105 (show decode cX12_runs 98 = .ok (.ifCond .ne 7, 3) from by decide +kernel) (by decide) rfl ?_ ?_
      · refine sr_iconst (v := (0 : Int32)) (q := 106) C (show decode cX12_runs 105 = .ok (.iconst 0, 1) from by decide +kernel) (by decide) rfl ?_
        refine sr_weak (L' := [some (xad κ v0), some (.int v1), some (.int v2), some (.int v3), some (.int v4), some (.int y81), some (.int y90), none, some (.int v8), none]) ⟨rfl, rfl, rfl, rfl, rfl, rfl, rfl, rfl, trivial⟩ ?_
        exact slX12_runs_J106 C K57 v0 v1 v2 v3 v4 y81 y90 v8 (0 : Int32) v7 hv0
      · refine sr_iconst (v := (1 : Int32)) (q := 102) C (show decode cX12_runs 101 = .ok (.iconst 1, 1) from by decide +kernel) (by decide) rfl ?_
        refine sr_goto (q := 106) C (show decode cX12_runs 102 = .ok (.goto 4, 3) from by decide +kernel) (by decide) ?_
        refine sr_weak (L' := [some (xad κ v0), some (.int v1), some (.int v2), some (.int v3), some (.int v4), some (.int y81), some (.int y90), none, some (.int v8), none]) ⟨rfl, rfl, rfl, rfl, rfl, rfl, rfl, rfl, trivial⟩ ?_
        exact slX12_runs_J106 C K57 v0 v1 v2 v3 v4 y81 y90 v8 (1 : Int32) v7 hv0
def fnX12_runs (v0 : Nat) (v1 : Int32) (v2 : Int32) (v3 : Int32) (v4 : Int32) : sm_M Int32 := m_bnd (fnX12_isSeed v1) fun x1 => m_br ((bI x1) = 0)
    (m_ret (-2 : Int32))
    (m_bnd (fnX12_in v2.toInt64 (1 : Int64) (60 : Int64)) fun x13 => m_br ((bI x13) = 0)
    (m_ret (-2 : Int32))
    (m_bnd (fnX12_isWay v0 v3) fun x21 => m_br ((bI x21) = 0)
    (m_ret (-2 : Int32))
    (m_bnd (fnX12_in v4.toInt64 (0 : Int64) (2 : Int64)) fun x34 => m_br ((bI x34) = 0)
    (m_ret (-2 : Int32))
    (fnX12_runs_L57 4096 v0 v1 v2 v3 v4 (0 : Int32) (1000000 : Int32) (0 : Int32) (0 : Int32)))))
set_option maxHeartbeats 4000000 in
set_option maxRecDepth 100000 in
theorem slX12_runs {κ : sm_X} (C : sm_C κ RX12 cX12_runs 10 10) (v0 : Nat) (v1 : Int32) (v2 : Int32) (v3 : Int32) (v4 : Int32) (hv0 : kd v0 = 12) : sm_S κ (fun r : Int32 => .inr (some (.int r))) (.inl (0, [some (xad κ v0), some (.int v1), some (.int v2), some (.int v3), some (.int v4), none, none, none, none, none], [])) (fnX12_runs v0 v1 v2 v3 v4) := by
  unfold fnX12_runs
  refine sr_iload_n (i := 1) (q := 1) C (show decode cX12_runs 0 = .ok (.iload_n 1, 1) from by decide +kernel) rfl rfl rfl ?_
  refine sr_cSz (As := [.int v1]) (st := []) (q := 4) C ysX12_isSeed ml_X12_540 (cnX12_isSeed (xo κ) v1) rfl (by decide) (by decide) (Nat.le_of_ble_eq_true rfl) rfl (show decode cX12_runs 1 = .ok (.invokestatic 540, 3) from by decide +kernel) rfl (fun x1 => ?_)
  refine sr_if_eq (q := 7) C 40 (show decode cX12_runs 4 = .ok (.ifCond .eq 36, 3) from by decide +kernel) (by decide) rfl ?_ ?_
  · refine sr_bipush (v := (-2 : Int32)) (q := 42) C (show decode cX12_runs 40 = .ok (.bipush (-2), 2) from by decide +kernel) (by decide) rfl ?_
    exact sr_ireturn C _ rfl (show decode cX12_runs 42 = .ok (.ireturn, 1) from by decide +kernel)
  · refine sr_iload_n (i := 2) (q := 8) C (show decode cX12_runs 7 = .ok (.iload_n 2, 1) from by decide +kernel) rfl rfl rfl ?_
    refine sr_i2l (q := 9) C (show decode cX12_runs 8 = .ok (.i2l, 1) from by decide +kernel) rfl ?_
    refine sr_lconst (v := (1 : Int64)) (q := 10) C (show decode cX12_runs 9 = .ok (.lconst 1, 1) from by decide +kernel) (by decide) rfl ?_
    refine sr_ldc2 (q := 13) C co_X12_547 (show decode cX12_runs 10 = .ok (.ldc2_w 547, 3) from by decide +kernel) rfl ?_
    refine sr_cSz (As := [.long v2.toInt64, .long (1 : Int64), .long (60 : Int64)]) (st := []) (q := 16) C ysX12_in ml_X12_103 (cnX12_in (xo κ) v2.toInt64 (1 : Int64) (60 : Int64)) rfl (by decide) (by decide) (Nat.le_of_ble_eq_true rfl) rfl (show decode cX12_runs 13 = .ok (.invokestatic 103, 3) from by decide +kernel) rfl (fun x13 => ?_)
    refine sr_if_eq (q := 19) C 40 (show decode cX12_runs 16 = .ok (.ifCond .eq 24, 3) from by decide +kernel) (by decide) rfl ?_ ?_
    · refine sr_bipush (v := (-2 : Int32)) (q := 42) C (show decode cX12_runs 40 = .ok (.bipush (-2), 2) from by decide +kernel) (by decide) rfl ?_
      exact sr_ireturn C _ rfl (show decode cX12_runs 42 = .ok (.ireturn, 1) from by decide +kernel)
    · refine sr_aload_n (i := 0) (q := 20) C (show decode cX12_runs 19 = .ok (.aload_n 0, 1) from by decide +kernel) rfl rfl rfl ?_
      refine sr_iload_n (i := 3) (q := 21) C (show decode cX12_runs 20 = .ok (.iload_n 3, 1) from by decide +kernel) rfl rfl rfl ?_
      refine sr_cVz (As := [.int v3]) (st := []) (b := v0) (q := 24) C yvX12_isWay ml_X12_366 (cnX12_isWay (xo κ) v0 v3 hv0) hv0 (by decide) rfl rfl rfl (by decide) (by decide) (Nat.le_of_ble_eq_true rfl) rfl (show decode cX12_runs 21 = .ok (.invokevirtual 366, 3) from by decide +kernel) rfl (fun x21 => ?_)
      refine sr_if_eq (q := 27) C 40 (show decode cX12_runs 24 = .ok (.ifCond .eq 16, 3) from by decide +kernel) (by decide) rfl ?_ ?_
      · refine sr_bipush (v := (-2 : Int32)) (q := 42) C (show decode cX12_runs 40 = .ok (.bipush (-2), 2) from by decide +kernel) (by decide) rfl ?_
        exact sr_ireturn C _ rfl (show decode cX12_runs 42 = .ok (.ireturn, 1) from by decide +kernel)
      · refine sr_iload (i := 4) (q := 29) C (show decode cX12_runs 27 = .ok (.iload 4, 2) from by decide +kernel) rfl rfl ?_
        refine sr_i2l (q := 30) C (show decode cX12_runs 29 = .ok (.i2l, 1) from by decide +kernel) rfl ?_
        refine sr_lconst (v := (0 : Int64)) (q := 31) C (show decode cX12_runs 30 = .ok (.lconst 0, 1) from by decide +kernel) (by decide) rfl ?_
        refine sr_ldc2 (q := 34) C co_X12_101 (show decode cX12_runs 31 = .ok (.ldc2_w 101, 3) from by decide +kernel) rfl ?_
        refine sr_cSz (As := [.long v4.toInt64, .long (0 : Int64), .long (2 : Int64)]) (st := []) (q := 37) C ysX12_in ml_X12_103 (cnX12_in (xo κ) v4.toInt64 (0 : Int64) (2 : Int64)) rfl (by decide) (by decide) (Nat.le_of_ble_eq_true rfl) rfl (show decode cX12_runs 34 = .ok (.invokestatic 103, 3) from by decide +kernel) rfl (fun x34 => ?_)
        refine sr_if_ne (q := 40) C 43 (show decode cX12_runs 37 = .ok (.ifCond .ne 6, 3) from by decide +kernel) (by decide) rfl ?_ ?_
        · refine sr_iconst (v := (0 : Int32)) (q := 44) C (show decode cX12_runs 43 = .ok (.iconst 0, 1) from by decide +kernel) (by decide) rfl ?_
          refine sr_istore (i := 5) (L' := [some (xad κ v0), some (.int v1), some (.int v2), some (.int v3), some (.int v4), some (.int (0 : Int32)), none, none, none, none]) (q := 46) C (show decode cX12_runs 44 = .ok (.istore 5, 2) from by decide +kernel) (by decide) rfl rfl ?_
          refine sr_ldcw (q := 49) C co_X12_292 (show decode cX12_runs 46 = .ok (.ldc_w 292, 3) from by decide +kernel) rfl ?_
          refine sr_istore (i := 6) (L' := [some (xad κ v0), some (.int v1), some (.int v2), some (.int v3), some (.int v4), some (.int (0 : Int32)), some (.int (1000000 : Int32)), none, none, none]) (q := 51) C (show decode cX12_runs 49 = .ok (.istore 6, 2) from by decide +kernel) (by decide) rfl rfl ?_
          refine sr_iconst (v := (0 : Int32)) (q := 52) C (show decode cX12_runs 51 = .ok (.iconst 0, 1) from by decide +kernel) (by decide) rfl ?_
          refine sr_istore (i := 7) (L' := [some (xad κ v0), some (.int v1), some (.int v2), some (.int v3), some (.int v4), some (.int (0 : Int32)), some (.int (1000000 : Int32)), some (.int (0 : Int32)), none, none]) (q := 54) C (show decode cX12_runs 52 = .ok (.istore 7, 2) from by decide +kernel) (by decide) rfl rfl ?_
          refine sr_iconst (v := (0 : Int32)) (q := 55) C (show decode cX12_runs 54 = .ok (.iconst 0, 1) from by decide +kernel) (by decide) rfl ?_
          refine sr_istore (i := 8) (L' := [some (xad κ v0), some (.int v1), some (.int v2), some (.int v3), some (.int v4), some (.int (0 : Int32)), some (.int (1000000 : Int32)), some (.int (0 : Int32)), some (.int (0 : Int32)), none]) (q := 57) C (show decode cX12_runs 55 = .ok (.istore 8, 2) from by decide +kernel) (by decide) rfl rfl ?_
          exact slX12_runs_L57 C 4096 v0 v1 v2 v3 v4 (0 : Int32) (1000000 : Int32) (0 : Int32) (0 : Int32) hv0
        · refine sr_bipush (v := (-2 : Int32)) (q := 42) C (show decode cX12_runs 40 = .ok (.bipush (-2), 2) from by decide +kernel) (by decide) rfl ?_
          exact sr_ireturn C _ rfl (show decode cX12_runs 42 = .ok (.ireturn, 1) from by decide +kernel)
theorem cnX12_runs (ω : sm_O) (v0 : Nat) (v1 : Int32) (v2 : Int32) (v3 : Int32) (v4 : Int32) (hv0 : kd v0 = 12) : sm_Mt 10 yX12_runs cX12_runs 10 (some .int) ω [.ref (ω.1 + v0), .int v1, .int v2, .int v3, .int v4] (fun a => some (.int a)) (fnX12_runs v0 v1 v2 v3 v4) := by
  refine sm_conI (r := fun a => a) (by decide) (fun _ => rfl) (Nat.le_of_ble_eq_true rfl) ?_
  intro κ hκ C
  subst hκ
  exact slX12_runs C v0 v1 v2 v3 v4 hv0
def fnX12_step (v0 : Nat) (v1 : Int32) (v2 : Int32) : sm_M Int32 := m_bnd (fnX12_isPerson v0 v1) fun x2 => m_br ((bI x2) = 0)
    (m_ret (-2 : Int32))
    (m_bnd (fnX12_isPlace v0 v2) fun x10 => m_br ((bI x10) = 0)
    (m_ret (-2 : Int32))
    (m_bnd (fnX12_steps v0 v1 v2) fun x22 => m_br ((bI x22) = 0)
    (m_ret (-5 : Int32))
    (m_br ((98 : Int32) ≤ v2)
    (m_ret (0 : Int32))
    (m_bnd (fnX12_left v0 v2) fun x36 => m_ret x36))))
set_option maxHeartbeats 4000000 in
set_option maxRecDepth 100000 in
theorem slX12_step {κ : sm_X} (C : sm_C κ RX12 cX12_step 3 6) (v0 : Nat) (v1 : Int32) (v2 : Int32) (hv0 : kd v0 = 12) : sm_S κ (fun r : Int32 => .inr (some (.int r))) (.inl (0, [some (xad κ v0), some (.int v1), some (.int v2)], [])) (fnX12_step v0 v1 v2) := by
  unfold fnX12_step
  refine sr_aload_n (i := 0) (q := 1) C (show decode cX12_step 0 = .ok (.aload_n 0, 1) from by decide +kernel) rfl rfl rfl ?_
  refine sr_iload_n (i := 1) (q := 2) C (show decode cX12_step 1 = .ok (.iload_n 1, 1) from by decide +kernel) rfl rfl rfl ?_
  refine sr_cVz (As := [.int v1]) (st := []) (b := v0) (q := 5) C yvX12_isPerson ml_X12_322 (cnX12_isPerson (xo κ) v0 v1 hv0) hv0 (by decide) rfl rfl rfl (by decide) (by decide) (Nat.le_of_ble_eq_true rfl) rfl (show decode cX12_step 2 = .ok (.invokevirtual 322, 3) from by decide +kernel) rfl (fun x2 => ?_)
  refine sr_if_eq (q := 8) C 16 (show decode cX12_step 5 = .ok (.ifCond .eq 11, 3) from by decide +kernel) (by decide) rfl ?_ ?_
  · refine sr_bipush (v := (-2 : Int32)) (q := 18) C (show decode cX12_step 16 = .ok (.bipush (-2), 2) from by decide +kernel) (by decide) rfl ?_
    exact sr_ireturn C _ rfl (show decode cX12_step 18 = .ok (.ireturn, 1) from by decide +kernel)
  · refine sr_aload_n (i := 0) (q := 9) C (show decode cX12_step 8 = .ok (.aload_n 0, 1) from by decide +kernel) rfl rfl rfl ?_
    refine sr_iload_n (i := 2) (q := 10) C (show decode cX12_step 9 = .ok (.iload_n 2, 1) from by decide +kernel) rfl rfl rfl ?_
    refine sr_cVz (As := [.int v2]) (st := []) (b := v0) (q := 13) C yvX12_isPlace ml_X12_264 (cnX12_isPlace (xo κ) v0 v2 hv0) hv0 (by decide) rfl rfl rfl (by decide) (by decide) (Nat.le_of_ble_eq_true rfl) rfl (show decode cX12_step 10 = .ok (.invokevirtual 264, 3) from by decide +kernel) rfl (fun x10 => ?_)
    refine sr_if_ne (q := 16) C 19 (show decode cX12_step 13 = .ok (.ifCond .ne 6, 3) from by decide +kernel) (by decide) rfl ?_ ?_
    · refine sr_aload_n (i := 0) (q := 20) C (show decode cX12_step 19 = .ok (.aload_n 0, 1) from by decide +kernel) rfl rfl rfl ?_
      refine sr_iload_n (i := 1) (q := 21) C (show decode cX12_step 20 = .ok (.iload_n 1, 1) from by decide +kernel) rfl rfl rfl ?_
      refine sr_iload_n (i := 2) (q := 22) C (show decode cX12_step 21 = .ok (.iload_n 2, 1) from by decide +kernel) rfl rfl rfl ?_
      refine sr_cVz (As := [.int v1, .int v2]) (st := []) (b := v0) (q := 25) C yvX12_steps ml_X12_325 (cnX12_steps (xo κ) v0 v1 v2 hv0) hv0 (by decide) rfl rfl rfl (by decide) (by decide) (Nat.le_of_ble_eq_true rfl) rfl (show decode cX12_step 22 = .ok (.invokevirtual 325, 3) from by decide +kernel) rfl (fun x22 => ?_)
      refine sr_if_eq (q := 28) C 46 (show decode cX12_step 25 = .ok (.ifCond .eq 21, 3) from by decide +kernel) (by decide) rfl ?_ ?_
      · refine sr_bipush (v := (-5 : Int32)) (q := 48) C (show decode cX12_step 46 = .ok (.bipush (-5), 2) from by decide +kernel) (by decide) rfl ?_
        exact sr_ireturn C _ rfl (show decode cX12_step 48 = .ok (.ireturn, 1) from by decide +kernel)
      · refine sr_iload_n (i := 2) (q := 29) C (show decode cX12_step 28 = .ok (.iload_n 2, 1) from by decide +kernel) rfl rfl rfl ?_
        refine sr_bipush (v := (98 : Int32)) (q := 31) C (show decode cX12_step 29 = .ok (.bipush 98, 2) from by decide +kernel) (by decide) rfl ?_
        refine sr_icmp_ge (q := 34) C 42 (show decode cX12_step 31 = .ok (.if_icmp .ge 11, 3) from by decide +kernel) (by decide) rfl ?_ ?_
        · refine sr_iconst (v := (0 : Int32)) (q := 43) C (show decode cX12_step 42 = .ok (.iconst 0, 1) from by decide +kernel) (by decide) rfl ?_
          refine sr_goto (q := 48) C (show decode cX12_step 43 = .ok (.goto 5, 3) from by decide +kernel) (by decide) ?_
          exact sr_ireturn C _ rfl (show decode cX12_step 48 = .ok (.ireturn, 1) from by decide +kernel)
        · refine sr_aload_n (i := 0) (q := 35) C (show decode cX12_step 34 = .ok (.aload_n 0, 1) from by decide +kernel) rfl rfl rfl ?_
          refine sr_iload_n (i := 2) (q := 36) C (show decode cX12_step 35 = .ok (.iload_n 2, 1) from by decide +kernel) rfl rfl rfl ?_
          refine sr_cVi (As := [.int v2]) (st := []) (b := v0) (q := 39) C yvX12_left ml_X12_250 (cnX12_left (xo κ) v0 v2 hv0) hv0 (by decide) rfl rfl rfl (by decide) (by decide) (Nat.le_of_ble_eq_true rfl) rfl (show decode cX12_step 36 = .ok (.invokevirtual 250, 3) from by decide +kernel) rfl (fun x36 => ?_)
          refine sr_goto (q := 48) C (show decode cX12_step 39 = .ok (.goto 9, 3) from by decide +kernel) (by decide) ?_
          exact sr_ireturn C _ rfl (show decode cX12_step 48 = .ok (.ireturn, 1) from by decide +kernel)
    · refine sr_bipush (v := (-2 : Int32)) (q := 18) C (show decode cX12_step 16 = .ok (.bipush (-2), 2) from by decide +kernel) (by decide) rfl ?_
      exact sr_ireturn C _ rfl (show decode cX12_step 18 = .ok (.ireturn, 1) from by decide +kernel)
theorem cnX12_step (ω : sm_O) (v0 : Nat) (v1 : Int32) (v2 : Int32) (hv0 : kd v0 = 12) : sm_Mt 6 yX12_step cX12_step 3 (some .int) ω [.ref (ω.1 + v0), .int v1, .int v2] (fun a => some (.int a)) (fnX12_step v0 v1 v2) := by
  refine sm_conI (r := fun a => a) (by decide) (fun _ => rfl) (Nat.le_of_ble_eq_true rfl) ?_
  intro κ hκ C
  subst hκ
  exact slX12_step C v0 v1 v2 hv0
def fnX12_stone (v0 : Nat) (v1 : Int32) (v2 : Int32) : sm_M Int32 := m_bnd (fnX12_isStone v0 v1) fun x2 => m_br ((bI x2) = 0)
    (m_ret (-2 : Int32))
    (m_bnd (fnX12_in v2.toInt64 (0 : Int64) (4 : Int64)) fun x14 => m_br ((bI x14) = 0)
    (m_ret (-2 : Int32))
    (m_br ((2 : Int32) ≤ v2)
    (m_br ((4 : Int32) ≤ v2)
    (m_bnd (fnX12_isInDoubt v0 v1) fun x63 => m_br ((bI x63) = 0)
    (m_bnd (fnX12_ofStone v0 v1 (5 : Int32)) fun x76 => m_br (x76 = (2 : Int32))
    (m_ret (1 : Int32))
    (m_ret (0 : Int32)))
    (m_ret (-1 : Int32)))
    (m_br (v2 = (2 : Int32))
    (m_bnd (fnX12_left v0 v1) fun x47 => m_ret x47)
    (m_bnd (fnX12_ofStone v0 v1 (6 : Int32)) fun x57 => m_ret x57)))
    (m_bnd (fnX12_ofStone v0 v1 v2) fun x31 => m_ret x31)))
set_option maxHeartbeats 4000000 in
set_option maxRecDepth 100000 in
theorem slX12_stone {κ : sm_X} (C : sm_C κ RX12 cX12_stone 3 4) (v0 : Nat) (v1 : Int32) (v2 : Int32) (hv0 : kd v0 = 12) : sm_S κ (fun r : Int32 => .inr (some (.int r))) (.inl (0, [some (xad κ v0), some (.int v1), some (.int v2)], [])) (fnX12_stone v0 v1 v2) := by
  unfold fnX12_stone
  refine sr_aload_n (i := 0) (q := 1) C (show decode cX12_stone 0 = .ok (.aload_n 0, 1) from by decide +kernel) rfl rfl rfl ?_
  refine sr_iload_n (i := 1) (q := 2) C (show decode cX12_stone 1 = .ok (.iload_n 1, 1) from by decide +kernel) rfl rfl rfl ?_
  refine sr_cVz (As := [.int v1]) (st := []) (b := v0) (q := 5) C yvX12_isStone ml_X12_111 (cnX12_isStone (xo κ) v0 v1 hv0) hv0 (by decide) rfl rfl rfl (by decide) (by decide) (Nat.le_of_ble_eq_true rfl) rfl (show decode cX12_stone 2 = .ok (.invokevirtual 111, 3) from by decide +kernel) rfl (fun x2 => ?_)
  refine sr_if_eq (q := 8) C 20 (show decode cX12_stone 5 = .ok (.ifCond .eq 15, 3) from by decide +kernel) (by decide) rfl ?_ ?_
  · refine sr_bipush (v := (-2 : Int32)) (q := 22) C (show decode cX12_stone 20 = .ok (.bipush (-2), 2) from by decide +kernel) (by decide) rfl ?_
    exact sr_ireturn C _ rfl (show decode cX12_stone 22 = .ok (.ireturn, 1) from by decide +kernel)
  · refine sr_iload_n (i := 2) (q := 9) C (show decode cX12_stone 8 = .ok (.iload_n 2, 1) from by decide +kernel) rfl rfl rfl ?_
    refine sr_i2l (q := 10) C (show decode cX12_stone 9 = .ok (.i2l, 1) from by decide +kernel) rfl ?_
    refine sr_lconst (v := (0 : Int64)) (q := 11) C (show decode cX12_stone 10 = .ok (.lconst 0, 1) from by decide +kernel) (by decide) rfl ?_
    refine sr_ldc2 (q := 14) C co_X12_248 (show decode cX12_stone 11 = .ok (.ldc2_w 248, 3) from by decide +kernel) rfl ?_
    refine sr_cSz (As := [.long v2.toInt64, .long (0 : Int64), .long (4 : Int64)]) (st := []) (q := 17) C ysX12_in ml_X12_103 (cnX12_in (xo κ) v2.toInt64 (0 : Int64) (4 : Int64)) rfl (by decide) (by decide) (Nat.le_of_ble_eq_true rfl) rfl (show decode cX12_stone 14 = .ok (.invokestatic 103, 3) from by decide +kernel) rfl (fun x14 => ?_)
    refine sr_if_ne (q := 20) C 23 (show decode cX12_stone 17 = .ok (.ifCond .ne 6, 3) from by decide +kernel) (by decide) rfl ?_ ?_
    · refine sr_iload_n (i := 2) (q := 24) C (show decode cX12_stone 23 = .ok (.iload_n 2, 1) from by decide +kernel) rfl rfl rfl ?_
      refine sr_iconst (v := (2 : Int32)) (q := 25) C (show decode cX12_stone 24 = .ok (.iconst 2, 1) from by decide +kernel) (by decide) rfl ?_
      refine sr_icmp_ge (q := 28) C 35 (show decode cX12_stone 25 = .ok (.if_icmp .ge 10, 3) from by decide +kernel) (by decide) rfl ?_ ?_
      · refine sr_iload_n (i := 2) (q := 36) C (show decode cX12_stone 35 = .ok (.iload_n 2, 1) from by decide +kernel) rfl rfl rfl ?_
        refine sr_iconst (v := (4 : Int32)) (q := 37) C (show decode cX12_stone 36 = .ok (.iconst 4, 1) from by decide +kernel) (by decide) rfl ?_
        refine sr_icmp_ge (q := 40) C 61 (show decode cX12_stone 37 = .ok (.if_icmp .ge 24, 3) from by decide +kernel) (by decide) rfl ?_ ?_
        · refine sr_aload_n (i := 0) (q := 62) C (show decode cX12_stone 61 = .ok (.aload_n 0, 1) from by decide +kernel) rfl rfl rfl ?_
          refine sr_iload_n (i := 1) (q := 63) C (show decode cX12_stone 62 = .ok (.iload_n 1, 1) from by decide +kernel) rfl rfl rfl ?_
          refine sr_cVz (As := [.int v1]) (st := []) (b := v0) (q := 66) C yvX12_isInDoubt ml_X12_253 (cnX12_isInDoubt (xo κ) v0 v1 hv0) hv0 (by decide) rfl rfl rfl (by decide) (by decide) (Nat.le_of_ble_eq_true rfl) rfl (show decode cX12_stone 63 = .ok (.invokevirtual 253, 3) from by decide +kernel) rfl (fun x63 => ?_)
          refine sr_if_eq (q := 69) C 73 (show decode cX12_stone 66 = .ok (.ifCond .eq 7, 3) from by decide +kernel) (by decide) rfl ?_ ?_
          · refine sr_aload_n (i := 0) (q := 74) C (show decode cX12_stone 73 = .ok (.aload_n 0, 1) from by decide +kernel) rfl rfl rfl ?_
            refine sr_iload_n (i := 1) (q := 75) C (show decode cX12_stone 74 = .ok (.iload_n 1, 1) from by decide +kernel) rfl rfl rfl ?_
            refine sr_iconst (v := (5 : Int32)) (q := 76) C (show decode cX12_stone 75 = .ok (.iconst 5, 1) from by decide +kernel) (by decide) rfl ?_
            refine sr_cVi (As := [.int v1, .int (5 : Int32)]) (st := []) (b := v0) (q := 79) C yvX12_ofStone ml_X12_239 (cnX12_ofStone (xo κ) v0 v1 (5 : Int32) hv0) hv0 (by decide) rfl rfl rfl (by decide) (by decide) (Nat.le_of_ble_eq_true rfl) rfl (show decode cX12_stone 76 = .ok (.invokevirtual 239, 3) from by decide +kernel) rfl (fun x76 => ?_)
            refine sr_iconst (v := (2 : Int32)) (q := 80) C (show decode cX12_stone 79 = .ok (.iconst 2, 1) from by decide +kernel) (by decide) rfl ?_
            refine sr_icmp_ne (q := 83) C 87 (show decode cX12_stone 80 = .ok (.if_icmp .ne 7, 3) from by decide +kernel) (by decide) rfl ?_ ?_
            · refine sr_iconst (v := (0 : Int32)) (q := 88) C (show decode cX12_stone 87 = .ok (.iconst 0, 1) from by decide +kernel) (by decide) rfl ?_
              exact sr_ireturn C _ rfl (show decode cX12_stone 88 = .ok (.ireturn, 1) from by decide +kernel)
            · refine sr_iconst (v := (1 : Int32)) (q := 84) C (show decode cX12_stone 83 = .ok (.iconst 1, 1) from by decide +kernel) (by decide) rfl ?_
              refine sr_goto (q := 88) C (show decode cX12_stone 84 = .ok (.goto 4, 3) from by decide +kernel) (by decide) ?_
              exact sr_ireturn C _ rfl (show decode cX12_stone 88 = .ok (.ireturn, 1) from by decide +kernel)
          · refine sr_iconst (v := (-1 : Int32)) (q := 70) C (show decode cX12_stone 69 = .ok (.iconst (-1), 1) from by decide +kernel) (by decide) rfl ?_
            refine sr_goto (q := 88) C (show decode cX12_stone 70 = .ok (.goto 18, 3) from by decide +kernel) (by decide) ?_
            exact sr_ireturn C _ rfl (show decode cX12_stone 88 = .ok (.ireturn, 1) from by decide +kernel)
        · refine sr_iload_n (i := 2) (q := 41) C (show decode cX12_stone 40 = .ok (.iload_n 2, 1) from by decide +kernel) rfl rfl rfl ?_
          refine sr_iconst (v := (2 : Int32)) (q := 42) C (show decode cX12_stone 41 = .ok (.iconst 2, 1) from by decide +kernel) (by decide) rfl ?_
          refine sr_icmp_ne (q := 45) C 53 (show decode cX12_stone 42 = .ok (.if_icmp .ne 11, 3) from by decide +kernel) (by decide) rfl ?_ ?_
          · refine sr_aload_n (i := 0) (q := 54) C (show decode cX12_stone 53 = .ok (.aload_n 0, 1) from by decide +kernel) rfl rfl rfl ?_
            refine sr_iload_n (i := 1) (q := 55) C (show decode cX12_stone 54 = .ok (.iload_n 1, 1) from by decide +kernel) rfl rfl rfl ?_
            refine sr_bipush (v := (6 : Int32)) (q := 57) C (show decode cX12_stone 55 = .ok (.bipush 6, 2) from by decide +kernel) (by decide) rfl ?_
            refine sr_cVi (As := [.int v1, .int (6 : Int32)]) (st := []) (b := v0) (q := 60) C yvX12_ofStone ml_X12_239 (cnX12_ofStone (xo κ) v0 v1 (6 : Int32) hv0) hv0 (by decide) rfl rfl rfl (by decide) (by decide) (Nat.le_of_ble_eq_true rfl) rfl (show decode cX12_stone 57 = .ok (.invokevirtual 239, 3) from by decide +kernel) rfl (fun x57 => ?_)
            exact sr_ireturn C _ rfl (show decode cX12_stone 60 = .ok (.ireturn, 1) from by decide +kernel)
          · refine sr_aload_n (i := 0) (q := 46) C (show decode cX12_stone 45 = .ok (.aload_n 0, 1) from by decide +kernel) rfl rfl rfl ?_
            refine sr_iload_n (i := 1) (q := 47) C (show decode cX12_stone 46 = .ok (.iload_n 1, 1) from by decide +kernel) rfl rfl rfl ?_
            refine sr_cVi (As := [.int v1]) (st := []) (b := v0) (q := 50) C yvX12_left ml_X12_250 (cnX12_left (xo κ) v0 v1 hv0) hv0 (by decide) rfl rfl rfl (by decide) (by decide) (Nat.le_of_ble_eq_true rfl) rfl (show decode cX12_stone 47 = .ok (.invokevirtual 250, 3) from by decide +kernel) rfl (fun x47 => ?_)
            refine sr_goto (q := 60) C (show decode cX12_stone 50 = .ok (.goto 10, 3) from by decide +kernel) (by decide) ?_
            exact sr_ireturn C _ rfl (show decode cX12_stone 60 = .ok (.ireturn, 1) from by decide +kernel)
      · refine sr_aload_n (i := 0) (q := 29) C (show decode cX12_stone 28 = .ok (.aload_n 0, 1) from by decide +kernel) rfl rfl rfl ?_
        refine sr_iload_n (i := 1) (q := 30) C (show decode cX12_stone 29 = .ok (.iload_n 1, 1) from by decide +kernel) rfl rfl rfl ?_
        refine sr_iload_n (i := 2) (q := 31) C (show decode cX12_stone 30 = .ok (.iload_n 2, 1) from by decide +kernel) rfl rfl rfl ?_
        refine sr_cVi (As := [.int v1, .int v2]) (st := []) (b := v0) (q := 34) C yvX12_ofStone ml_X12_239 (cnX12_ofStone (xo κ) v0 v1 v2 hv0) hv0 (by decide) rfl rfl rfl (by decide) (by decide) (Nat.le_of_ble_eq_true rfl) rfl (show decode cX12_stone 31 = .ok (.invokevirtual 239, 3) from by decide +kernel) rfl (fun x31 => ?_)
        exact sr_ireturn C _ rfl (show decode cX12_stone 34 = .ok (.ireturn, 1) from by decide +kernel)
    · refine sr_bipush (v := (-2 : Int32)) (q := 22) C (show decode cX12_stone 20 = .ok (.bipush (-2), 2) from by decide +kernel) (by decide) rfl ?_
      exact sr_ireturn C _ rfl (show decode cX12_stone 22 = .ok (.ireturn, 1) from by decide +kernel)
theorem cnX12_stone (ω : sm_O) (v0 : Nat) (v1 : Int32) (v2 : Int32) (hv0 : kd v0 = 12) : sm_Mt 4 yX12_stone cX12_stone 3 (some .int) ω [.ref (ω.1 + v0), .int v1, .int v2] (fun a => some (.int a)) (fnX12_stone v0 v1 v2) := by
  refine sm_conI (r := fun a => a) (by decide) (fun _ => rfl) (Nat.le_of_ble_eq_true rfl) ?_
  intro κ hκ C
  subst hκ
  exact slX12_stone C v0 v1 v2 hv0
