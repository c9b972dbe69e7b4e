def fnX12_wakes_L12 : Nat → Nat → Int32 → sm_M Unit
  | 0, _, _ => m_fail
  | n + 1, v0, v1 => m_br ((241 : Int32) ≤ v1)
    (m_ret ())
    (m_gi v0 21 fun x32 => m_ai (lk v0 20) (((241 : Int32) * x32) + v1) fun x38 => m_sai (lk v0 1) v1 x38 <| (fnX12_wakes_L12 n) v0 (v1 + (1 : Int32)))
set_option maxHeartbeats 4000000 in
set_option maxRecDepth 100000 in
theorem slX12_wakes_L12 {κ : sm_X} (C : sm_C κ RX12 cX12_wakes 2 1) : ∀ (n : Nat) (v0 : Nat) (v1 : Int32) (hv0 : kd v0 = 12), sm_S κ (fun _ : Unit => .inr none) (.inl (12, [some (xad κ v0), some (.int v1)], [])) (fnX12_wakes_L12 n v0 v1) := by
  intro n
  induction n with
  | zero =>
    intros
    exact sr_fail
  | succ n K12 =>
    intro v0 v1 hv0
    unfold fnX12_wakes_L12
    refine sr_iload_n (i := 1) (q := 13) C (show decode cX12_wakes 12 = .ok (.iload_n 1, 1) from by decide +kernel) rfl rfl rfl ?_
    refine sr_sipush (v := (241 : Int32)) (q := 16) C (show decode cX12_wakes 13 = .ok (.sipush 241, 3) from by decide +kernel) (by decide) rfl ?_
    refine sr_icmp_ge (q := 19) C 46 (show decode cX12_wakes 16 = .ok (.if_icmp .ge 30, 3) from by decide +kernel) (by decide) rfl ?_ ?_
    · exact sr_vreturn C _ rfl (show decode cX12_wakes 46 = .ok (.return_, 1) from by decide +kernel)
    · refine sr_aload_n (i := 0) (q := 20) C (show decode cX12_wakes 19 = .ok (.aload_n 0, 1) from by decide +kernel) rfl rfl rfl ?_
      refine sr_getr (q := 23) C fl_X12_9 hv0 (show decode cX12_wakes 20 = .ok (.getfield 9, 3) from by decide +kernel) rfl ?_
      refine sr_iload_n (i := 1) (q := 24) C (show decode cX12_wakes 23 = .ok (.iload_n 1, 1) from by decide +kernel) rfl rfl rfl ?_
      refine sr_aload_n (i := 0) (q := 25) C (show decode cX12_wakes 24 = .ok (.aload_n 0, 1) from by decide +kernel) rfl rfl rfl ?_
      refine sr_getr (q := 28) C fl_X12_46 hv0 (show decode cX12_wakes 25 = .ok (.getfield 46, 3) from by decide +kernel) rfl ?_
      refine sr_sipush (v := (241 : Int32)) (q := 31) C (show decode cX12_wakes 28 = .ok (.sipush 241, 3) from by decide +kernel) (by decide) rfl ?_
      refine sr_aload_n (i := 0) (q := 32) C (show decode cX12_wakes 31 = .ok (.aload_n 0, 1) from by decide +kernel) rfl rfl rfl ?_
      refine sr_geti (q := 35) C fl_X12_329 (Or.inl rfl) hv0 (show decode cX12_wakes 32 = .ok (.getfield 329, 3) from by decide +kernel) rfl (fun x32 => ?_)
      refine sr_imul (q := 36) C (show decode cX12_wakes 35 = .ok (.imul, 1) from by decide +kernel) rfl ?_
      refine sr_iload_n (i := 1) (q := 37) C (show decode cX12_wakes 36 = .ok (.iload_n 1, 1) from by decide +kernel) rfl rfl rfl ?_
      refine sr_iadd (q := 38) C (show decode cX12_wakes 37 = .ok (.iadd, 1) from by decide +kernel) rfl ?_
      refine sr_iaload (q := 39) C (kt hv0 kp_12_20) (show decode cX12_wakes 38 = .ok (.iaload, 1) from by decide +kernel) rfl (fun x38 => ?_)
      refine sr_iastore (q := 40) C (kt hv0 kp_12_1) (show decode cX12_wakes 39 = .ok (.iastore, 1) from by decide +kernel) rfl ?_
      refine sr_iinc (v := v1 + (1 : Int32)) (L' := [some (xad κ v0), some (.int (v1 + (1 : Int32)))]) (q := 43) C (show decode cX12_wakes 40 = .ok (.iinc 1 1, 3) from by decide +kernel) rfl rfl (by decide) rfl rfl ?_
      refine sr_goto (q := 12) C (show decode cX12_wakes 43 = .ok (.goto (-31), 3) from by decide +kernel) (by decide) ?_
      exact K12 v0 (v1 + (1 : Int32)) hv0
def fnX12_wakes (v0 : Nat) : sm_M Unit := m_gi v0 21 fun x2 => m_si v0 21 (x2 - (1 : Int32)) <| fnX12_wakes_L12 4096 v0 (0 : Int32)
set_option maxHeartbeats 4000000 in
set_option maxRecDepth 100000 in
theorem slX12_wakes {κ : sm_X} (C : sm_C κ RX12 cX12_wakes 2 1) (v0 : Nat) (hv0 : kd v0 = 12) : sm_S κ (fun _ : Unit => .inr none) (.inl (0, [some (xad κ v0), none], [])) (fnX12_wakes v0) := by
  unfold fnX12_wakes
  refine sr_aload_n (i := 0) (q := 1) C (show decode cX12_wakes 0 = .ok (.aload_n 0, 1) from by decide +kernel) rfl rfl rfl ?_
  refine sr_dup (q := 2) C (show decode cX12_wakes 1 = .ok (.dup, 1) from by decide +kernel) rfl rfl ?_
  refine sr_geti (q := 5) C fl_X12_329 (Or.inl rfl) hv0 (show decode cX12_wakes 2 = .ok (.getfield 329, 3) from by decide +kernel) rfl (fun x2 => ?_)
  refine sr_iconst (v := (1 : Int32)) (q := 6) C (show decode cX12_wakes 5 = .ok (.iconst 1, 1) from by decide +kernel) (by decide) rfl ?_
  refine sr_isub (q := 7) C (show decode cX12_wakes 6 = .ok (.isub, 1) from by decide +kernel) rfl ?_
  refine sr_puti (q := 10) C fp_X12_329 hv0 (show decode cX12_wakes 7 = .ok (.putfield 329, 3) from by decide +kernel) rfl ?_
  refine sr_iconst (v := (0 : Int32)) (q := 11) C (show decode cX12_wakes 10 = .ok (.iconst 0, 1) from by decide +kernel) (by decide) rfl ?_
  refine sr_istore_n (i := 1) (L' := [some (xad κ v0), some (.int (0 : Int32))]) (q := 12) C (show decode cX12_wakes 11 = .ok (.istore_n 1, 1) from by decide +kernel) rfl (by decide) rfl rfl ?_
  exact slX12_wakes_L12 C 4096 v0 (0 : Int32) hv0
theorem cnX12_wakes (ω : sm_O) (v0 : Nat) (hv0 : kd v0 = 12) : sm_Mt 1 yX12_wakes cX12_wakes 2 none ω [.ref (ω.1 + v0)] (fun _ => none) (fnX12_wakes v0) := by
  refine sm_conV (by decide) (Nat.le_of_ble_eq_true rfl) ?_
  intro κ hκ C
  subst hκ
  exact slX12_wakes C v0 hv0
def fnX12_alike_J82 (v0 : Nat) (v4 : Int32) : sm_M Int32 := m_bnd (fnX12_wakes v0) fun _ => m_ret v4
set_option maxHeartbeats 4000000 in
set_option maxRecDepth 100000 in
theorem slX12_alike_J82 {κ : sm_X} (C : sm_C κ RX12 cX12_alike 6 8) (v0 : Nat) (v4 : Int32) (hv0 : kd v0 = 12) : sm_S κ (fun r : Int32 => .inr (some (.int r))) (.inl (82, [some (xad κ v0), none, none, none, some (.int v4), none], [])) (fnX12_alike_J82 v0 v4) := by
  unfold fnX12_alike_J82
  refine sr_aload_n (i := 0) (q := 83) C (show decode cX12_alike 82 = .ok (.aload_n 0, 1) from by decide +kernel) rfl rfl rfl ?_
  refine sr_cVv (As := []) (st := []) (b := v0) (q := 86) C yvX12_wakes ml_X12_345 (cnX12_wakes (xo κ) v0 hv0) hv0 (by decide) rfl rfl rfl (by decide) (by decide) (Nat.le_of_ble_eq_true rfl) rfl (show decode cX12_alike 83 = .ok (.invokevirtual 345, 3) from by decide +kernel) rfl (fun _ => ?_)
  refine sr_iload (i := 4) (q := 88) C (show decode cX12_alike 86 = .ok (.iload 4, 2) from by decide +kernel) rfl rfl ?_
  exact sr_ireturn C _ rfl (show decode cX12_alike 88 = .ok (.ireturn, 1) from by decide +kernel)
def fnX12_alike_J76 (k34 : Nat → Int32 → Int32 → Int32 → Int32 → sm_M Int32) (v0 : Nat) (v1 : Int32) (v2 : Int32) (v3 : Int32) (v4 : Int32) : sm_M Int32 := k34 v0 v1 v2 v3 (v4 + (1 : Int32))
set_option maxHeartbeats 4000000 in
set_option maxRecDepth 100000 in
theorem slX12_alike_J76 {κ : sm_X} (C : sm_C κ RX12 cX12_alike 6 8) {k34 : Nat → Int32 → Int32 → Int32 → Int32 → sm_M Int32} (K34 : ∀ (v0 : Nat) (v1 : Int32) (v2 : Int32) (v3 : Int32) (v4 : Int32) (hv0 : kd v0 = 12), sm_S κ (fun r : Int32 => .inr (some (.int r))) (.inl (34, [some (xad κ v0), some (.int v1), some (.int v2), some (.int v3), some (.int v4), none], [])) (k34 v0 v1 v2 v3 v4)) (v0 : Nat) (v1 : Int32) (v2 : Int32) (v3 : Int32) (v4 : Int32) (hv0 : kd v0 = 12) : sm_S κ (fun r : Int32 => .inr (some (.int r))) (.inl (76, [some (xad κ v0), some (.int v1), some (.int v2), some (.int v3), some (.int v4), none], [])) (fnX12_alike_J76 k34 v0 v1 v2 v3 v4) := by
  unfold fnX12_alike_J76
  refine sr_iinc (v := v4 + (1 : Int32)) (L' := [some (xad κ v0), some (.int v1), some (.int v2), some (.int v3), some (.int (v4 + (1 : Int32))), none]) (q := 79) C (show decode cX12_alike 76 = .ok (.iinc 4 1, 3) from by decide +kernel) rfl rfl (by decide) rfl rfl ?_
  refine sr_goto (q := 34) C (show decode cX12_alike 79 = .ok (.goto (-45), 3) from by decide +kernel) (by decide) ?_
  exact K34 v0 v1 v2 v3 (v4 + (1 : Int32)) hv0
def fnX12_alike_L49 (k34 : Nat → Int32 → Int32 → Int32 → Int32 → sm_M Int32) : Nat → Nat → Int32 → Int32 → Int32 → Int32 → Int32 → sm_M Int32
  | 0, _, _, _, _, _, _ => m_fail
  | n + 1, v0, v1, v2, v3, v4, v5 => m_gi v0 19 fun x52 => m_br (x52 ≤ v5)
    (fnX12_alike_J76 k34 v0 v1 v2 v3 v4)
    (m_ai (lk v0 18) v5 fun x65 => m_bnd (fnX12_bears v0 x65 v2) fun _ => (fnX12_alike_L49 k34 n) v0 v1 v2 v3 v4 (v5 + (1 : Int32)))
set_option maxHeartbeats 4000000 in
set_option maxRecDepth 100000 in
theorem slX12_alike_L49 {κ : sm_X} (C : sm_C κ RX12 cX12_alike 6 8) {k34 : Nat → Int32 → Int32 → Int32 → Int32 → sm_M Int32} (K34 : ∀ (v0 : Nat) (v1 : Int32) (v2 : Int32) (v3 : Int32) (v4 : Int32) (hv0 : kd v0 = 12), sm_S κ (fun r : Int32 => .inr (some (.int r))) (.inl (34, [some (xad κ v0), some (.int v1), some (.int v2), some (.int v3), some (.int v4), none], [])) (k34 v0 v1 v2 v3 v4)) : ∀ (n : Nat) (v0 : Nat) (v1 : Int32) (v2 : Int32) (v3 : Int32) (v4 : Int32) (v5 : Int32) (hv0 : kd v0 = 12), sm_S κ (fun r : Int32 => .inr (some (.int r))) (.inl (49, [some (xad κ v0), some (.int v1), some (.int v2), some (.int v3), some (.int v4), some (.int v5)], [])) (fnX12_alike_L49 k34 n v0 v1 v2 v3 v4 v5) := by
  intro n
  induction n with
  | zero =>
    intros
    exact sr_fail
  | succ n K49 =>
    intro v0 v1 v2 v3 v4 v5 hv0
    unfold fnX12_alike_L49
    refine sr_iload (i := 5) (q := 51) C (show decode cX12_alike 49 = .ok (.iload 5, 2) from by decide +kernel) rfl rfl ?_
    refine sr_aload_n (i := 0) (q := 52) C (show decode cX12_alike 51 = .ok (.aload_n 0, 1) from by decide +kernel) rfl rfl rfl ?_
    refine sr_geti (q := 55) C fl_X12_297 (Or.inl rfl) hv0 (show decode cX12_alike 52 = .ok (.getfield 297, 3) from by decide +kernel) rfl (fun x52 => ?_)
    refine sr_icmp_ge (q := 58) C 76 (show decode cX12_alike 55 = .ok (.if_icmp .ge 21, 3) from by decide +kernel) (by decide) rfl ?_ ?_
    · refine sr_weak (L' := [some (xad κ v0), some (.int v1), some (.int v2), some (.int v3), some (.int v4), none]) ⟨rfl, rfl, rfl, rfl, rfl, trivial⟩ ?_
      exact slX12_alike_J76 C K34 v0 v1 v2 v3 v4 hv0
    · refine sr_aload_n (i := 0) (q := 59) C (show decode cX12_alike 58 = .ok (.aload_n 0, 1) from by decide +kernel) rfl rfl rfl ?_
      refine sr_aload_n (i := 0) (q := 60) C (show decode cX12_alike 59 = .ok (.aload_n 0, 1) from by decide +kernel) rfl rfl rfl ?_
      refine sr_getr (q := 63) C fl_X12_43 hv0 (show decode cX12_alike 60 = .ok (.getfield 43, 3) from by decide +kernel) rfl ?_
      refine sr_iload (i := 5) (q := 65) C (show decode cX12_alike 63 = .ok (.iload 5, 2) from by decide +kernel) rfl rfl ?_
      refine sr_iaload (q := 66) C (kt hv0 kp_12_18) (show decode cX12_alike 65 = .ok (.iaload, 1) from by decide +kernel) rfl (fun x65 => ?_)
      refine sr_iload_n (i := 2) (q := 67) C (show decode cX12_alike 66 = .ok (.iload_n 2, 1) from by decide +kernel) rfl rfl rfl ?_
      refine sr_cVv (As := [.int x65, .int v2]) (st := []) (b := v0) (q := 70) C yvX12_bears ml_X12_316 (cnX12_bears (xo κ) v0 x65 v2 hv0) hv0 (by decide) rfl rfl rfl (by decide) (by decide) (Nat.le_of_ble_eq_true rfl) rfl (show decode cX12_alike 67 = .ok (.invokevirtual 316, 3) from by decide +kernel) rfl (fun _ => ?_)
      refine sr_iinc (v := v5 + (1 : Int32)) (L' := [some (xad κ v0), some (.int v1), some (.int v2), some (.int v3), some (.int v4), some (.int (v5 + (1 : Int32)))]) (q := 73) C (show decode cX12_alike 70 = .ok (.iinc 5 1, 3) from by decide +kernel) rfl rfl (by decide) rfl rfl ?_
      refine sr_goto (q := 49) C (show decode cX12_alike 73 = .ok (.goto (-24), 3) from by decide +kernel) (by decide) ?_
      exact K49 v0 v1 v2 v3 v4 (v5 + (1 : Int32)) hv0
def fnX12_alike_L34 : Nat → Nat → Int32 → Int32 → Int32 → Int32 → sm_M Int32
  | 0, _, _, _, _, _ => m_fail
  | n + 1, v0, v1, v2, v3, v4 => m_bnd (fnX12_finds v0 v1 v2 v3 (98 : Int32)) fun x40 => m_br ((bI x40) = 0)
    (fnX12_alike_J82 v0 v4)
    (fnX12_alike_L49 (fnX12_alike_L34 n) 4096 v0 v1 v2 v3 v4 (0 : Int32))
set_option maxHeartbeats 4000000 in
set_option maxRecDepth 100000 in
theorem slX12_alike_L34 {κ : sm_X} (C : sm_C κ RX12 cX12_alike 6 8) : ∀ (n : Nat) (v0 : Nat) (v1 : Int32) (v2 : Int32) (v3 : Int32) (v4 : Int32) (hv0 : kd v0 = 12), sm_S κ (fun r : Int32 => .inr (some (.int r))) (.inl (34, [some (xad κ v0), some (.int v1), some (.int v2), some (.int v3), some (.int v4), none], [])) (fnX12_alike_L34 n v0 v1 v2 v3 v4) := by
  intro n
  induction n with
  | zero =>
    intros
    exact sr_fail
  | succ n K34 =>
    intro v0 v1 v2 v3 v4 hv0
    unfold fnX12_alike_L34
    refine sr_aload_n (i := 0) (q := 35) C (show decode cX12_alike 34 = .ok (.aload_n 0, 1) from by decide +kernel) rfl rfl rfl ?_
    refine sr_iload_n (i := 1) (q := 36) C (show decode cX12_alike 35 = .ok (.iload_n 1, 1) from by decide +kernel) rfl rfl rfl ?_
    refine sr_iload_n (i := 2) (q := 37) C (show decode cX12_alike 36 = .ok (.iload_n 2, 1) from by decide +kernel) rfl rfl rfl ?_
    refine sr_iload_n (i := 3) (q := 38) C (show decode cX12_alike 37 = .ok (.iload_n 3, 1) from by decide +kernel) rfl rfl rfl ?_
    refine sr_bipush (v := (98 : Int32)) (q := 40) C (show decode cX12_alike 38 = .ok (.bipush 98, 2) from by decide +kernel) (by decide) rfl ?_
    refine sr_cVz (As := [.int v1, .int v2, .int v3, .int (98 : Int32)]) (st := []) (b := v0) (q := 43) C yvX12_finds ml_X12_313 (cnX12_finds (xo κ) v0 v1 v2 v3 (98 : Int32) hv0) hv0 (by decide) rfl rfl rfl (by decide) (by decide) (Nat.le_of_ble_eq_true rfl) rfl (show decode cX12_alike 40 = .ok (.invokevirtual 313, 3) from by decide +kernel) rfl (fun x40 => ?_)
    refine sr_if_eq (q := 46) C 82 (show decode cX12_alike 43 = .ok (.ifCond .eq 39, 3) from by decide +kernel) (by decide) rfl ?_ ?_
    · refine sr_weak (L' := [some (xad κ v0), none, none, none, some (.int v4), none]) ⟨rfl, rfl, trivial⟩ ?_
      exact slX12_alike_J82 C v0 v4 hv0
    · refine sr_iconst (v := (0 : Int32)) (q := 47) C (show decode cX12_alike 46 = .ok (.iconst 0, 1) from by decide +kernel) (by decide) rfl ?_
      refine sr_istore (i := 5) (L' := [some (xad κ v0), some (.int v1), some (.int v2), some (.int v3), some (.int v4), some (.int (0 : Int32))]) (q := 49) C (show decode cX12_alike 47 = .ok (.istore 5, 2) from by decide +kernel) (by decide) rfl rfl ?_
      exact slX12_alike_L49 C K34 4096 v0 v1 v2 v3 v4 (0 : Int32) hv0
def fnX12_alike (v0 : Nat) (v1 : Int32) (v2 : Int32) (v3 : Int32) : sm_M Int32 := m_bnd (fnX12_isAsked v0 v1 v2 v3) fun x4 => m_br ((bI x4) = 0)
    (m_ret (-2 : Int32))
    (m_ai (lk v0 1) (1 : Int32) fun x19 => m_br (v1 < x19)
    (m_bnd (fnX12_thinks v0) fun _ => fnX12_alike_L34 4096 v0 v1 v2 v3 (0 : Int32))
    (m_ret (999 : Int32)))
set_option maxHeartbeats 4000000 in
set_option maxRecDepth 100000 in
theorem slX12_alike {κ : sm_X} (C : sm_C κ RX12 cX12_alike 6 8) (v0 : Nat) (v1 : Int32) (v2 : Int32) (v3 : Int32) (hv0 : kd v0 = 12) : sm_S κ (fun r : Int32 => .inr (some (.int r))) (.inl (0, [some (xad κ v0), some (.int v1), some (.int v2), some (.int v3), none, none], [])) (fnX12_alike v0 v1 v2 v3) := by
  unfold fnX12_alike
  refine sr_aload_n (i := 0) (q := 1) C (show decode cX12_alike 0 = .ok (.aload_n 0, 1) from by decide +kernel) rfl rfl rfl ?_
  refine sr_iload_n (i := 1) (q := 2) C (show decode cX12_alike 1 = .ok (.iload_n 1, 1) from by decide +kernel) rfl rfl rfl ?_
  refine sr_iload_n (i := 2) (q := 3) C (show decode cX12_alike 2 = .ok (.iload_n 2, 1) from by decide +kernel) rfl rfl rfl ?_
  refine sr_iload_n (i := 3) (q := 4) C (show decode cX12_alike 3 = .ok (.iload_n 3, 1) from by decide +kernel) rfl rfl rfl ?_
  refine sr_cVz (As := [.int v1, .int v2, .int v3]) (st := []) (b := v0) (q := 7) C yvX12_isAsked ml_X12_310 (cnX12_isAsked (xo κ) v0 v1 v2 v3 hv0) hv0 (by decide) rfl rfl rfl (by decide) (by decide) (Nat.le_of_ble_eq_true rfl) rfl (show decode cX12_alike 4 = .ok (.invokevirtual 310, 3) from by decide +kernel) rfl (fun x4 => ?_)
  refine sr_if_ne (q := 10) C 13 (show decode cX12_alike 7 = .ok (.ifCond .ne 6, 3) from by decide +kernel) (by decide) rfl ?_ ?_
  · refine sr_iload_n (i := 1) (q := 14) C (show decode cX12_alike 13 = .ok (.iload_n 1, 1) from by decide +kernel) rfl rfl rfl ?_
    refine sr_aload_n (i := 0) (q := 15) C (show decode cX12_alike 14 = .ok (.aload_n 0, 1) from by decide +kernel) rfl rfl rfl ?_
    refine sr_getr (q := 18) C fl_X12_9 hv0 (show decode cX12_alike 15 = .ok (.getfield 9, 3) from by decide +kernel) rfl ?_
    refine sr_iconst (v := (1 : Int32)) (q := 19) C (show decode cX12_alike 18 = .ok (.iconst 1, 1) from by decide +kernel) (by decide) rfl ?_
    refine sr_iaload (q := 20) C (kt hv0 kp_12_1) (show decode cX12_alike 19 = .ok (.iaload, 1) from by decide +kernel) rfl (fun x19 => ?_)
    refine sr_icmp_lt (q := 23) C 27 (show decode cX12_alike 20 = .ok (.if_icmp .lt 7, 3) from by decide +kernel) (by decide) rfl ?_ ?_
    · refine sr_aload_n (i := 0) (q := 28) C (show decode cX12_alike 27 = .ok (.aload_n 0, 1) from by decide +kernel) rfl rfl rfl ?_
      refine sr_cVv (As := []) (st := []) (b := v0) (q := 31) C yvX12_thinks ml_X12_339 (cnX12_thinks (xo κ) v0 hv0) hv0 (by decide) rfl rfl rfl (by decide) (by decide) (Nat.le_of_ble_eq_true rfl) rfl (show decode cX12_alike 28 = .ok (.invokevirtual 339, 3) from by decide +kernel) rfl (fun _ => ?_)
      refine sr_iconst (v := (0 : Int32)) (q := 32) C (show decode cX12_alike 31 = .ok (.iconst 0, 1) from by decide +kernel) (by decide) rfl ?_
      refine sr_istore (i := 4) (L' := [some (xad κ v0), some (.int v1), some (.int v2), some (.int v3), some (.int (0 : Int32)), none]) (q := 34) C (show decode cX12_alike 32 = .ok (.istore 4, 2) from by decide +kernel) (by decide) rfl rfl ?_
      exact slX12_alike_L34 C 4096 v0 v1 v2 v3 (0 : Int32) hv0
    · refine sr_sipush (v := (999 : Int32)) (q := 26) C (show decode cX12_alike 23 = .ok (.sipush 999, 3) from by decide +kernel) (by decide) rfl ?_
      exact sr_ireturn C _ rfl (show decode cX12_alike 26 = .ok (.ireturn, 1) from by decide +kernel)
  · refine sr_bipush (v := (-2 : Int32)) (q := 12) C (show decode cX12_alike 10 = .ok (.bipush (-2), 2) from by decide +kernel) (by decide) rfl ?_
    exact sr_ireturn C _ rfl (show decode cX12_alike 12 = .ok (.ireturn, 1) from by decide +kernel)
theorem cnX12_alike (ω : sm_O) (v0 : Nat) (v1 : Int32) (v2 : Int32) (v3 : Int32) (hv0 : kd v0 = 12) : sm_Mt 8 yX12_alike cX12_alike 6 (some .int) ω [.ref (ω.1 + v0), .int v1, .int v2, .int v3] (fun a => some (.int a)) (fnX12_alike v0 v1 v2 v3) := by
  refine sm_conI (r := fun a => a) (by decide) (fun _ => rfl) (Nat.le_of_ble_eq_true rfl) ?_
  intro κ hκ C
  subst hκ
  exact slX12_alike C v0 v1 v2 v3 hv0
def fnX12_clearsOver (v0 : Nat) : sm_M Unit := m_si v0 22 (0 : Int32) <| m_si v0 23 (0 : Int32) <| m_si v0 24 (0 : Int32) <| m_si v0 25 (0 : Int32) <| m_ret ()
set_option maxHeartbeats 4000000 in
set_option maxRecDepth 100000 in
theorem slX12_clearsOver {κ : sm_X} (C : sm_C κ RX12 cX12_clearsOver 1 1) (v0 : Nat) (hv0 : kd v0 = 12) : sm_S κ (fun _ : Unit => .inr none) (.inl (0, [some (xad κ v0)], [])) (fnX12_clearsOver v0) := by
  unfold fnX12_clearsOver
  refine sr_aload_n (i := 0) (q := 1) C (show decode cX12_clearsOver 0 = .ok (.aload_n 0, 1) from by decide +kernel) rfl rfl rfl ?_
  refine sr_iconst (v := (0 : Int32)) (q := 2) C (show decode cX12_clearsOver 1 = .ok (.iconst 0, 1) from by decide +kernel) (by decide) rfl ?_
  refine sr_puti (q := 5) C fp_X12_372 hv0 (show decode cX12_clearsOver 2 = .ok (.putfield 372, 3) from by decide +kernel) rfl ?_
  refine sr_aload_n (i := 0) (q := 6) C (show decode cX12_clearsOver 5 = .ok (.aload_n 0, 1) from by decide +kernel) rfl rfl rfl ?_
  refine sr_iconst (v := (0 : Int32)) (q := 7) C (show decode cX12_clearsOver 6 = .ok (.iconst 0, 1) from by decide +kernel) (by decide) rfl ?_
  refine sr_puti (q := 10) C fp_X12_375 hv0 (show decode cX12_clearsOver 7 = .ok (.putfield 375, 3) from by decide +kernel) rfl ?_
  refine sr_aload_n (i := 0) (q := 11) C (show decode cX12_clearsOver 10 = .ok (.aload_n 0, 1) from by decide +kernel) rfl rfl rfl ?_
  refine sr_iconst (v := (0 : Int32)) (q := 12) C (show decode cX12_clearsOver 11 = .ok (.iconst 0, 1) from by decide +kernel) (by decide) rfl ?_
  refine sr_puti (q := 15) C fp_X12_378 hv0 (show decode cX12_clearsOver 12 = .ok (.putfield 378, 3) from by decide +kernel) rfl ?_
  refine sr_aload_n (i := 0) (q := 16) C (show decode cX12_clearsOver 15 = .ok (.aload_n 0, 1) from by decide +kernel) rfl rfl rfl ?_
  refine sr_iconst (v := (0 : Int32)) (q := 17) C (show decode cX12_clearsOver 16 = .ok (.iconst 0, 1) from by decide +kernel) (by decide) rfl ?_
  refine sr_puti (q := 20) C fp_X12_381 hv0 (show decode cX12_clearsOver 17 = .ok (.putfield 381, 3) from by decide +kernel) rfl ?_
  exact sr_vreturn C _ rfl (show decode cX12_clearsOver 20 = .ok (.return_, 1) from by decide +kernel)
theorem cnX12_clearsOver (ω : sm_O) (v0 : Nat) (hv0 : kd v0 = 12) : sm_Mt 1 yX12_clearsOver cX12_clearsOver 1 none ω [.ref (ω.1 + v0)] (fun _ => none) (fnX12_clearsOver v0) := by
  refine sm_conV (by decide) (Nat.le_of_ble_eq_true rfl) ?_
  intro κ hκ C
  subst hκ
  exact slX12_clearsOver C v0 hv0
def fnX12_second (v0 : Nat) (v1 : Int32) : sm_M Int32 := m_bnd (fnX12_of v0 v1 (5 : Int32)) fun x3 => m_ret x3
set_option maxHeartbeats 4000000 in
set_option maxRecDepth 100000 in
theorem slX12_second {κ : sm_X} (C : sm_C κ RX12 cX12_second 2 2) (v0 : Nat) (v1 : Int32) (hv0 : kd v0 = 12) : sm_S κ (fun r : Int32 => .inr (some (.int r))) (.inl (0, [some (xad κ v0), some (.int v1)], [])) (fnX12_second v0 v1) := by
  unfold fnX12_second
  refine sr_aload_n (i := 0) (q := 1) C (show decode cX12_second 0 = .ok (.aload_n 0, 1) from by decide +kernel) rfl rfl rfl ?_
  refine sr_iload_n (i := 1) (q := 2) C (show decode cX12_second 1 = .ok (.iload_n 1, 1) from by decide +kernel) rfl rfl rfl ?_
  refine sr_iconst (v := (5 : Int32)) (q := 3) C (show decode cX12_second 2 = .ok (.iconst 5, 1) from by decide +kernel) (by decide) rfl ?_
  refine sr_cVi (As := [.int v1, .int (5 : Int32)]) (st := []) (b := v0) (q := 6) C yvX12_of ml_X12_289 (cnX12_of (xo κ) v0 v1 (5 : Int32) hv0) hv0 (by decide) rfl rfl rfl (by decide) (by decide) (Nat.le_of_ble_eq_true rfl) rfl (show decode cX12_second 3 = .ok (.invokevirtual 289, 3) from by decide +kernel) rfl (fun x3 => ?_)
  exact sr_ireturn C _ rfl (show decode cX12_second 6 = .ok (.ireturn, 1) from by decide +kernel)
theorem cnX12_second (ω : sm_O) (v0 : Nat) (v1 : Int32) (hv0 : kd v0 = 12) : sm_Mt 2 yX12_second cX12_second 2 (some .int) ω [.ref (ω.1 + v0), .int v1] (fun a => some (.int a)) (fnX12_second v0 v1) := by
  refine sm_conI (r := fun a => a) (by decide) (fun _ => rfl) (Nat.le_of_ble_eq_true rfl) ?_
  intro κ hκ C
  subst hκ
  exact slX12_second C v0 v1 hv0
def fnX12_bitsOf (v0 : Nat) (v1 : Int32) : sm_M Int32 := m_bnd (fnX12_second v0 v1) fun x5 => m_br (x5 = (-1 : Int32))
    (m_ret (((1 : Int32) <<< (v1 &&& 31)) ||| (0 : Int32)))
    (m_bnd (fnX12_second v0 v1) fun x19 => m_ret (((1 : Int32) <<< (v1 &&& 31)) ||| ((1 : Int32) <<< (x19 &&& 31))))
set_option maxHeartbeats 4000000 in
set_option maxRecDepth 100000 in
theorem slX12_bitsOf {κ : sm_X} (C : sm_C κ RX12 cX12_bitsOf 2 3) (v0 : Nat) (v1 : Int32) (hv0 : kd v0 = 12) : sm_S κ (fun r : Int32 => .inr (some (.int r))) (.inl (0, [some (xad κ v0), some (.int v1)], [])) (fnX12_bitsOf v0 v1) := by
  unfold fnX12_bitsOf
  refine sr_iconst (v := (1 : Int32)) (q := 1) C (show decode cX12_bitsOf 0 = .ok (.iconst 1, 1) from by decide +kernel) (by decide) rfl ?_
  refine sr_iload_n (i := 1) (q := 2) C (show decode cX12_bitsOf 1 = .ok (.iload_n 1, 1) from by decide +kernel) rfl rfl rfl ?_
  refine sr_ishl (q := 3) C (show decode cX12_bitsOf 2 = .ok (.ishl, 1) from by decide +kernel) rfl ?_
  refine sr_aload_n (i := 0) (q := 4) C (show decode cX12_bitsOf 3 = .ok (.aload_n 0, 1) from by decide +kernel) rfl rfl rfl ?_
  refine sr_iload_n (i := 1) (q := 5) C (show decode cX12_bitsOf 4 = .ok (.iload_n 1, 1) from by decide +kernel) rfl rfl rfl ?_
  refine sr_cVi (As := [.int v1]) (st := [.int ((1 : Int32) <<< (v1 &&& 31))]) (b := v0) (q := 8) C yvX12_second ml_X12_348 (cnX12_second (xo κ) v0 v1 hv0) hv0 (by decide) rfl rfl rfl (by decide) (by decide) (Nat.le_of_ble_eq_true rfl) rfl (show decode cX12_bitsOf 5 = .ok (.invokevirtual 348, 3) from by decide +kernel) rfl (fun x5 => ?_)
  refine sr_iconst (v := (-1 : Int32)) (q := 9) C (show decode cX12_bitsOf 8 = .ok (.iconst (-1), 1) from by decide +kernel) (by decide) rfl ?_
  refine sr_icmp_ne (q := 12) C 16 (show decode cX12_bitsOf 9 = .ok (.if_icmp .ne 7, 3) from by decide +kernel) (by decide) rfl ?_ ?_
  · refine sr_iconst (v := (1 : Int32)) (q := 17) C (show decode cX12_bitsOf 16 = .ok (.iconst 1, 1) from by decide +kernel) (by decide) rfl ?_
    refine sr_aload_n (i := 0) (q := 18) C (show decode cX12_bitsOf 17 = .ok (.aload_n 0, 1) from by decide +kernel) rfl rfl rfl ?_
    refine sr_iload_n (i := 1) (q := 19) C (show decode cX12_bitsOf 18 = .ok (.iload_n 1, 1) from by decide +kernel) rfl rfl rfl ?_
    refine sr_cVi (As := [.int v1]) (st := [.int (1 : Int32), .int ((1 : Int32) <<< (v1 &&& 31))]) (b := v0) (q := 22) C yvX12_second ml_X12_348 (cnX12_second (xo κ) v0 v1 hv0) hv0 (by decide) rfl rfl rfl (by decide) (by decide) (Nat.le_of_ble_eq_true rfl) rfl (show decode cX12_bitsOf 19 = .ok (.invokevirtual 348, 3) from by decide +kernel) rfl (fun x19 => ?_)
    refine sr_ishl (q := 23) C (show decode cX12_bitsOf 22 = .ok (.ishl, 1) from by decide +kernel) rfl ?_
    refine sr_ior (q := 24) C (show decode cX12_bitsOf 23 = .ok (.ior, 1) from by decide +kernel) rfl ?_
    exact sr_ireturn C _ rfl (show decode cX12_bitsOf 24 = .ok (.ireturn, 1) from by decide +kernel)
  · refine sr_iconst (v := (0 : Int32)) (q := 13) C (show decode cX12_bitsOf 12 = .ok (.iconst 0, 1) from by decide +kernel) (by decide) rfl ?_
    refine sr_goto (q := 23) C (show decode cX12_bitsOf 13 = .ok (.goto 10, 3) from by decide +kernel) (by decide) ?_
    refine sr_ior (q := 24) C (show decode cX12_bitsOf 23 = .ok (.ior, 1) from by decide +kernel) rfl ?_
    exact sr_ireturn C _ rfl (show decode cX12_bitsOf 24 = .ok (.ireturn, 1) from by decide +kernel)
theorem cnX12_bitsOf (ω : sm_O) (v0 : Nat) (v1 : Int32) (hv0 : kd v0 = 12) : sm_Mt 3 yX12_bitsOf cX12_bitsOf 2 (some .int) ω [.ref (ω.1 + v0), .int v1] (fun a => some (.int a)) (fnX12_bitsOf v0 v1) := by
  refine sm_conI (r := fun a => a) (by decide) (fun _ => rfl) (Nat.le_of_ble_eq_true rfl) ?_
  intro κ hκ C
  subst hκ
  exact slX12_bitsOf C v0 v1 hv0
def fnX12_leads (v0 : Nat) (v1 : Int32) : sm_M Bool := m_bnd (fnX12_of v0 v1 (5 : Int32)) fun x3 => m_br (x3 = (-1 : Int32))
    (m_ret true)
    (m_bnd (fnX12_of v0 v1 (5 : Int32)) fun x13 => m_br (x13 ≤ v1)
    (m_ret false)
    (m_ret true))
set_option maxHeartbeats 4000000 in
set_option maxRecDepth 100000 in
theorem slX12_leads {κ : sm_X} (C : sm_C κ RX12 cX12_leads 2 2) (v0 : Nat) (v1 : Int32) (hv0 : kd v0 = 12) : sm_S κ (fun r : Bool => .inr (some (.int (bI r)))) (.inl (0, [some (xad κ v0), some (.int v1)], [])) (fnX12_leads v0 v1) := by
  unfold fnX12_leads
  refine sr_aload_n (i := 0) (q := 1) C (show decode cX12_leads 0 = .ok (.aload_n 0, 1) from by decide +kernel) rfl rfl rfl ?_
  refine sr_iload_n (i := 1) (q := 2) C (show decode cX12_leads 1 = .ok (.iload_n 1, 1) from by decide +kernel) rfl rfl rfl ?_
  refine sr_iconst (v := (5 : Int32)) (q := 3) C (show decode cX12_leads 2 = .ok (.iconst 5, 1) from by decide +kernel) (by decide) rfl ?_
  refine sr_cVi (As := [.int v1, .int (5 : Int32)]) (st := []) (b := v0) (q := 6) C yvX12_of ml_X12_289 (cnX12_of (xo κ) v0 v1 (5 : Int32) hv0) hv0 (by decide) rfl rfl rfl (by decide) (by decide) (Nat.le_of_ble_eq_true rfl) rfl (show decode cX12_leads 3 = .ok (.invokevirtual 289, 3) from by decide +kernel) rfl (fun x3 => ?_)
  refine sr_iconst (v := (-1 : Int32)) (q := 7) C (show decode cX12_leads 6 = .ok (.iconst (-1), 1) from by decide +kernel) (by decide) rfl ?_
  refine sr_icmp_eq (q := 10) C 20 (show decode cX12_leads 7 = .ok (.if_icmp .eq 13, 3) from by decide +kernel) (by decide) rfl ?_ ?_
  · refine sr_iconst (v := (1 : Int32)) (q := 21) C (show decode cX12_leads 20 = .ok (.iconst 1, 1) from by decide +kernel) (by decide) rfl ?_
    refine sr_goto (q := 25) C (show decode cX12_leads 21 = .ok (.goto 4, 3) from by decide +kernel) (by decide) ?_
    exact sr_ireturn C true rfl (show decode cX12_leads 25 = .ok (.ireturn, 1) from by decide +kernel)
  · refine sr_aload_n (i := 0) (q := 11) C (show decode cX12_leads 10 = .ok (.aload_n 0, 1) from by decide +kernel) rfl rfl rfl ?_
    refine sr_iload_n (i := 1) (q := 12) C (show decode cX12_leads 11 = .ok (.iload_n 1, 1) from by decide +kernel) rfl rfl rfl ?_
    refine sr_iconst (v := (5 : Int32)) (q := 13) C (show decode cX12_leads 12 = .ok (.iconst 5, 1) from by decide +kernel) (by decide) rfl ?_
    refine sr_cVi (As := [.int v1, .int (5 : Int32)]) (st := []) (b := v0) (q := 16) C yvX12_of ml_X12_289 (cnX12_of (xo κ) v0 v1 (5 : Int32) hv0) hv0 (by decide) rfl rfl rfl (by decide) (by decide) (Nat.le_of_ble_eq_true rfl) rfl (show decode cX12_leads 13 = .ok (.invokevirtual 289, 3) from by decide +kernel) rfl (fun x13 => ?_)
    refine sr_iload_n (i := 1) (q := 17) C (show decode cX12_leads 16 = .ok (.iload_n 1, 1) from by decide +kernel) rfl rfl rfl ?_
    refine sr_icmp_le (q := 20) C 24 (show decode cX12_leads 17 = .ok (.if_icmp .le 7, 3) from by decide +kernel) (by decide) rfl ?_ ?_
    · refine sr_iconst (v := (0 : Int32)) (q := 25) C (show decode cX12_leads 24 = .ok (.iconst 0, 1) from by decide +kernel) (by decide) rfl ?_
      exact sr_ireturn C false rfl (show decode cX12_leads 25 = .ok (.ireturn, 1) from by decide +kernel)
    · refine sr_iconst (v := (1 : Int32)) (q := 21) C (show decode cX12_leads 20 = .ok (.iconst 1, 1) from by decide +kernel) (by decide) rfl ?_
      refine sr_goto (q := 25) C (show decode cX12_leads 21 = .ok (.goto 4, 3) from by decide +kernel) (by decide) ?_
      exact sr_ireturn C true rfl (show decode cX12_leads 25 = .ok (.ireturn, 1) from by decide +kernel)
theorem cnX12_leads (ω : sm_O) (v0 : Nat) (v1 : Int32) (hv0 : kd v0 = 12) : sm_Mt 2 yX12_leads cX12_leads 2 (some .boolean) ω [.ref (ω.1 + v0), .int v1] (fun a => some (.int (bI a))) (fnX12_leads v0 v1) := by
  refine sm_conI (r := bI) (by decide) bI_nar (Nat.le_of_ble_eq_true rfl) ?_
  intro κ hκ C
  subst hκ
  exact slX12_leads C v0 v1 hv0
def fnX12_isAt (v0 : Nat) (v1 : Int32) (v2 : Int32) : sm_M Bool := m_bnd (fnX12_leads v0 v1) fun x2 => m_br ((bI x2) = 0)
    (m_ret false)
    (m_bnd (fnX12_of v0 v1 (6 : Int32)) fun x12 => m_br (x12 = v2)
    (m_bnd (fnX12_second v0 v1) fun x21 => m_br (x21 = (-1 : Int32))
    (m_ret true)
    (m_bnd (fnX12_second v0 v1) fun x31 => m_bnd (fnX12_of v0 x31 (6 : Int32)) fun x36 => m_br (x36 = v2)
    (m_ret true)
    (m_ret false)))
    (m_ret false))
set_option maxHeartbeats 4000000 in
set_option maxRecDepth 100000 in
theorem slX12_isAt {κ : sm_X} (C : sm_C κ RX12 cX12_isAt 3 3) (v0 : Nat) (v1 : Int32) (v2 : Int32) (hv0 : kd v0 = 12) : sm_S κ (fun r : Bool => .inr (some (.int (bI r)))) (.inl (0, [some (xad κ v0), some (.int v1), some (.int v2)], [])) (fnX12_isAt v0 v1 v2) := by
  unfold fnX12_isAt
  refine sr_aload_n (i := 0) (q := 1) C (show decode cX12_isAt 0 = .ok (.aload_n 0, 1) from by decide +kernel) rfl rfl rfl ?_
  refine sr_iload_n (i := 1) (q := 2) C (show decode cX12_isAt 1 = .ok (.iload_n 1, 1) from by decide +kernel) rfl rfl rfl ?_
  refine sr_cVz (As := [.int v1]) (st := []) (b := v0) (q := 5) C yvX12_leads ml_X12_351 (cnX12_leads (xo κ) v0 v1 hv0) hv0 (by decide) rfl rfl rfl (by decide) (by decide) (Nat.le_of_ble_eq_true rfl) rfl (show decode cX12_isAt 2 = .ok (.invokevirtual 351, 3) from by decide +kernel) rfl (fun x2 => ?_)
  refine sr_if_eq (q := 8) C 47 (show decode cX12_isAt 5 = .ok (.ifCond .eq 42, 3) from by decide +kernel) (by decide) rfl ?_ ?_
  · refine sr_iconst (v := (0 : Int32)) (q := 48) C (show decode cX12_isAt 47 = .ok (.iconst 0, 1) from by decide +kernel) (by decide) rfl ?_
    exact sr_ireturn C false rfl (show decode cX12_isAt 48 = .ok (.ireturn, 1) from by decide +kernel)
  · refine sr_aload_n (i := 0) (q := 9) C (show decode cX12_isAt 8 = .ok (.aload_n 0, 1) from by decide +kernel) rfl rfl rfl ?_
    refine sr_iload_n (i := 1) (q := 10) C (show decode cX12_isAt 9 = .ok (.iload_n 1, 1) from by decide +kernel) rfl rfl rfl ?_
    refine sr_bipush (v := (6 : Int32)) (q := 12) C (show decode cX12_isAt 10 = .ok (.bipush 6, 2) from by decide +kernel) (by decide) rfl ?_
    refine sr_cVi (As := [.int v1, .int (6 : Int32)]) (st := []) (b := v0) (q := 15) C yvX12_of ml_X12_289 (cnX12_of (xo κ) v0 v1 (6 : Int32) hv0) hv0 (by decide) rfl rfl rfl (by decide) (by decide) (Nat.le_of_ble_eq_true rfl) rfl (show decode cX12_isAt 12 = .ok (.invokevirtual 289, 3) from by decide +kernel) rfl (fun x12 => ?_)
    refine sr_iload_n (i := 2) (q := 16) C (show decode cX12_isAt 15 = .ok (.iload_n 2, 1) from by decide +kernel) rfl rfl rfl ?_
    refine sr_icmp_ne (q := 19) C 47 (show decode cX12_isAt 16 = .ok (.if_icmp .ne 31, 3) from by decide +kernel) (by decide) rfl ?_ ?_
    · refine sr_iconst (v := (0 : Int32)) (q := 48) C (show decode cX12_isAt 47 = .ok (.iconst 0, 1) from by decide +kernel) (by decide) rfl ?_
      exact sr_ireturn C false rfl (show decode cX12_isAt 48 = .ok (.ireturn, 1) from by decide +kernel)
    · refine sr_aload_n (i := 0) (q := 20) C (show decode cX12_isAt 19 = .ok (.aload_n 0, 1) from by decide +kernel) rfl rfl rfl ?_
      refine sr_iload_n (i := 1) (q := 21) C (show decode cX12_isAt 20 = .ok (.iload_n 1, 1) from by decide +kernel) rfl rfl rfl ?_
      refine sr_cVi (As := [.int v1]) (st := []) (b := v0) (q := 24) C yvX12_second ml_X12_348 (cnX12_second (xo κ) v0 v1 hv0) hv0 (by decide) rfl rfl rfl (by decide) (by decide) (Nat.le_of_ble_eq_true rfl) rfl (show decode cX12_isAt 21 = .ok (.invokevirtual 348, 3) from by decide +kernel) rfl (fun x21 => ?_)
      refine sr_iconst (v := (-1 : Int32)) (q := 25) C (show decode cX12_isAt 24 = .ok (.iconst (-1), 1) from by decide +kernel) (by decide) rfl ?_
      refine sr_icmp_eq (q := 28) C 43 (show decode cX12_isAt 25 = .ok (.if_icmp .eq 18, 3) from by decide +kernel) (by decide) rfl ?_ ?_
      · refine sr_iconst (v := (1 : Int32)) (q := 44) C (show decode cX12_isAt 43 = .ok (.iconst 1, 1) from by decide +kernel) (by decide) rfl ?_
        refine sr_goto (q := 48) C (show decode cX12_isAt 44 = .ok (.goto 4, 3) from by decide +kernel) (by decide) ?_
        exact sr_ireturn C true rfl (show decode cX12_isAt 48 = .ok (.ireturn, 1) from by decide +kernel)
      · refine sr_aload_n (i := 0) (q := 29) C (show decode cX12_isAt 28 = .ok (.aload_n 0, 1) from by decide +kernel) rfl rfl rfl ?_
        refine sr_aload_n (i := 0) (q := 30) C (show decode cX12_isAt 29 = .ok (.aload_n 0, 1) from by decide +kernel) rfl rfl rfl ?_
        refine sr_iload_n (i := 1) (q := 31) C (show decode cX12_isAt 30 = .ok (.iload_n 1, 1) from by decide +kernel) rfl rfl rfl ?_
        refine sr_cVi (As := [.int v1]) (st := [xad κ v0]) (b := v0) (q := 34) C yvX12_second ml_X12_348 (cnX12_second (xo κ) v0 v1 hv0) hv0 (by decide) rfl rfl rfl (by decide) (by decide) (Nat.le_of_ble_eq_true rfl) rfl (show decode cX12_isAt 31 = .ok (.invokevirtual 348, 3) from by decide +kernel) rfl (fun x31 => ?_)
        refine sr_bipush (v := (6 : Int32)) (q := 36) C (show decode cX12_isAt 34 = .ok (.bipush 6, 2) from by decide +kernel) (by decide) rfl ?_
        refine sr_cVi (As := [.int x31, .int (6 : Int32)]) (st := []) (b := v0) (q := 39) C yvX12_of ml_X12_289 (cnX12_of (xo κ) v0 x31 (6 : Int32) hv0) hv0 (by decide) rfl rfl rfl (by decide) (by decide) (Nat.le_of_ble_eq_true rfl) rfl (show decode cX12_isAt 36 = .ok (.invokevirtual 289, 3) from by decide +kernel) rfl (fun x36 => ?_)
        refine sr_iload_n (i := 2) (q := 40) C (show decode cX12_isAt 39 = .ok (.iload_n 2, 1) from by decide +kernel) rfl rfl rfl ?_
        refine sr_icmp_ne (q := 43) C 47 (show decode cX12_isAt 40 = .ok (.if_icmp .ne 7, 3) from by decide +kernel) (by decide) rfl ?_ ?_
        · refine sr_iconst (v := (0 : Int32)) (q := 48) C (show decode cX12_isAt 47 = .ok (.iconst 0, 1) from by decide +kernel) (by decide) rfl ?_
          exact sr_ireturn C false rfl (show decode cX12_isAt 48 = .ok (.ireturn, 1) from by decide +kernel)
        · refine sr_iconst (v := (1 : Int32)) (q := 44) C (show decode cX12_isAt 43 = .ok (.iconst 1, 1) from by decide +kernel) (by decide) rfl ?_
          refine sr_goto (q := 48) C (show decode cX12_isAt 44 = .ok (.goto 4, 3) from by decide +kernel) (by decide) ?_
          exact sr_ireturn C true rfl (show decode cX12_isAt 48 = .ok (.ireturn, 1) from by decide +kernel)
theorem cnX12_isAt (ω : sm_O) (v0 : Nat) (v1 : Int32) (v2 : Int32) (hv0 : kd v0 = 12) : sm_Mt 3 yX12_isAt cX12_isAt 3 (some .boolean) ω [.ref (ω.1 + v0), .int v1, .int v2] (fun a => some (.int (bI a))) (fnX12_isAt v0 v1 v2) := by
  refine sm_conI (r := bI) (by decide) bI_nar (Nat.le_of_ble_eq_true rfl) ?_
  intro κ hκ C
  subst hκ
  exact slX12_isAt C v0 v1 v2 hv0
def fnX12_set (v0 : Nat) (v1 : Int32) (v2 : Int32) (v3 : Int32) : sm_M Unit := m_sai (lk v0 1) (((185 : Int32) + ((7 : Int32) * v1)) + v2) v3 <| m_ret ()
set_option maxHeartbeats 4000000 in
set_option maxRecDepth 100000 in
theorem slX12_set {κ : sm_X} (C : sm_C κ RX12 cX12_set 4 1) (v0 : Nat) (v1 : Int32) (v2 : Int32) (v3 : Int32) (hv0 : kd v0 = 12) : sm_S κ (fun _ : Unit => .inr none) (.inl (0, [some (xad κ v0), some (.int v1), some (.int v2), some (.int v3)], [])) (fnX12_set v0 v1 v2 v3) := by
  unfold fnX12_set
  refine sr_aload_n (i := 0) (q := 1) C (show decode cX12_set 0 = .ok (.aload_n 0, 1) from by decide +kernel) rfl rfl rfl ?_
  refine sr_getr (q := 4) C fl_X12_9 hv0 (show decode cX12_set 1 = .ok (.getfield 9, 3) from by decide +kernel) rfl ?_
  refine sr_sipush (v := (185 : Int32)) (q := 7) C (show decode cX12_set 4 = .ok (.sipush 185, 3) from by decide +kernel) (by decide) rfl ?_
  refine sr_bipush (v := (7 : Int32)) (q := 9) C (show decode cX12_set 7 = .ok (.bipush 7, 2) from by decide +kernel) (by decide) rfl ?_
  refine sr_iload_n (i := 1) (q := 10) C (show decode cX12_set 9 = .ok (.iload_n 1, 1) from by decide +kernel) rfl rfl rfl ?_
  refine sr_imul (q := 11) C (show decode cX12_set 10 = .ok (.imul, 1) from by decide +kernel) rfl ?_
  refine sr_iadd (q := 12) C (show decode cX12_set 11 = .ok (.iadd, 1) from by decide +kernel) rfl ?_
  refine sr_iload_n (i := 2) (q := 13) C (show decode cX12_set 12 = .ok (.iload_n 2, 1) from by decide +kernel) rfl rfl rfl ?_
  refine sr_iadd (q := 14) C (show decode cX12_set 13 = .ok (.iadd, 1) from by decide +kernel) rfl ?_
  refine sr_iload_n (i := 3) (q := 15) C (show decode cX12_set 14 = .ok (.iload_n 3, 1) from by decide +kernel) rfl rfl rfl ?_
  refine sr_iastore (q := 16) C (kt hv0 kp_12_1) (show decode cX12_set 15 = .ok (.iastore, 1) from by decide +kernel) rfl ?_
  exact sr_vreturn C _ rfl (show decode cX12_set 16 = .ok (.return_, 1) from by decide +kernel)
theorem cnX12_set (ω : sm_O) (v0 : Nat) (v1 : Int32) (v2 : Int32) (v3 : Int32) (hv0 : kd v0 = 12) : sm_Mt 1 yX12_set cX12_set 4 none ω [.ref (ω.1 + v0), .int v1, .int v2, .int v3] (fun _ => none) (fnX12_set v0 v1 v2 v3) := by
  refine sm_conV (by decide) (Nat.le_of_ble_eq_true rfl) ?_
  intro κ hκ C
  subst hκ
  exact slX12_set C v0 v1 v2 v3 hv0
def fnX12_puts (v0 : Nat) (v1 : Int32) (v2 : Int32) : sm_M Unit := m_bnd (fnX12_set v0 v1 (6 : Int32) v2) fun _ => m_bnd (fnX12_second v0 v1) fun x10 => m_br (x10 = (-1 : Int32))
    (m_ret ())
    (m_bnd (fnX12_second v0 v1) fun x20 => m_bnd (fnX12_set v0 x20 (6 : Int32) v2) fun _ => m_ret ())
set_option maxHeartbeats 4000000 in
set_option maxRecDepth 100000 in
theorem slX12_puts {κ : sm_X} (C : sm_C κ RX12 cX12_puts 3 3) (v0 : Nat) (v1 : Int32) (v2 : Int32) (hv0 : kd v0 = 12) : sm_S κ (fun _ : Unit => .inr none) (.inl (0, [some (xad κ v0), some (.int v1), some (.int v2)], [])) (fnX12_puts v0 v1 v2) := by
  unfold fnX12_puts
  refine sr_aload_n (i := 0) (q := 1) C (show decode cX12_puts 0 = .ok (.aload_n 0, 1) from by decide +kernel) rfl rfl rfl ?_
  refine sr_iload_n (i := 1) (q := 2) C (show decode cX12_puts 1 = .ok (.iload_n 1, 1) from by decide +kernel) rfl rfl rfl ?_
  refine sr_bipush (v := (6 : Int32)) (q := 4) C (show decode cX12_puts 2 = .ok (.bipush 6, 2) from by decide +kernel) (by decide) rfl ?_
  refine sr_iload_n (i := 2) (q := 5) C (show decode cX12_puts 4 = .ok (.iload_n 2, 1) from by decide +kernel) rfl rfl rfl ?_
  refine sr_cVv (As := [.int v1, .int (6 : Int32), .int v2]) (st := []) (b := v0) (q := 8) C yvX12_set ml_X12_319 (cnX12_set (xo κ) v0 v1 (6 : Int32) v2 hv0) hv0 (by decide) rfl rfl rfl (by decide) (by decide) (Nat.le_of_ble_eq_true rfl) rfl (show decode cX12_puts 5 = .ok (.invokevirtual 319, 3) from by decide +kernel) rfl (fun _ => ?_)
  refine sr_aload_n (i := 0) (q := 9) C (show decode cX12_puts 8 = .ok (.aload_n 0, 1) from by decide +kernel) rfl rfl rfl ?_
  refine sr_iload_n (i := 1) (q := 10) C (show decode cX12_puts 9 = .ok (.iload_n 1, 1) from by decide +kernel) rfl rfl rfl ?_
  refine sr_cVi (As := [.int v1]) (st := []) (b := v0) (q := 13) C yvX12_second ml_X12_348 (cnX12_second (xo κ) v0 v1 hv0) hv0 (by decide) rfl rfl rfl (by decide) (by decide) (Nat.le_of_ble_eq_true rfl) rfl (show decode cX12_puts 10 = .ok (.invokevirtual 348, 3) from by decide +kernel) rfl (fun x10 => ?_)
  refine sr_iconst (v := (-1 : Int32)) (q := 14) C (show decode cX12_puts 13 = .ok (.iconst (-1), 1) from by decide +kernel) (by decide) rfl ?_
  refine sr_icmp_eq (q := 17) C 29 (show decode cX12_puts 14 = .ok (.if_icmp .eq 15, 3) from by decide +kernel) (by decide) rfl ?_ ?_
  · exact sr_vreturn C _ rfl (show decode cX12_puts 29 = .ok (.return_, 1) from by decide +kernel)
  · refine sr_aload_n (i := 0) (q := 18) C (show decode cX12_puts 17 = .ok (.aload_n 0, 1) from by decide +kernel) rfl rfl rfl ?_
    refine sr_aload_n (i := 0) (q := 19) C (show decode cX12_puts 18 = .ok (.aload_n 0, 1) from by decide +kernel) rfl rfl rfl ?_
    refine sr_iload_n (i := 1) (q := 20) C (show decode cX12_puts 19 = .ok (.iload_n 1, 1) from by decide +kernel) rfl rfl rfl ?_
    refine sr_cVi (As := [.int v1]) (st := [xad κ v0]) (b := v0) (q := 23) C yvX12_second ml_X12_348 (cnX12_second (xo κ) v0 v1 hv0) hv0 (by decide) rfl rfl rfl (by decide) (by decide) (Nat.le_of_ble_eq_true rfl) rfl (show decode cX12_puts 20 = .ok (.invokevirtual 348, 3) from by decide +kernel) rfl (fun x20 => ?_)
    refine sr_bipush (v := (6 : Int32)) (q := 25) C (show decode cX12_puts 23 = .ok (.bipush 6, 2) from by decide +kernel) (by decide) rfl ?_
    refine sr_iload_n (i := 2) (q := 26) C (show decode cX12_puts 25 = .ok (.iload_n 2, 1) from by decide +kernel) rfl rfl rfl ?_
    refine sr_cVv (As := [.int x20, .int (6 : Int32), .int v2]) (st := []) (b := v0) (q := 29) C yvX12_set ml_X12_319 (cnX12_set (xo κ) v0 x20 (6 : Int32) v2 hv0) hv0 (by decide) rfl rfl rfl (by decide) (by decide) (Nat.le_of_ble_eq_true rfl) rfl (show decode cX12_puts 26 = .ok (.invokevirtual 319, 3) from by decide +kernel) rfl (fun _ => ?_)
    exact sr_vreturn C _ rfl (show decode cX12_puts 29 = .ok (.return_, 1) from by decide +kernel)
theorem cnX12_puts (ω : sm_O) (v0 : Nat) (v1 : Int32) (v2 : Int32) (hv0 : kd v0 = 12) : sm_Mt 3 yX12_puts cX12_puts 3 none ω [.ref (ω.1 + v0), .int v1, .int v2] (fun _ => none) (fnX12_puts v0 v1 v2) := by
  refine sm_conV (by decide) (Nat.le_of_ble_eq_true rfl) ?_
  intro κ hκ C
  subst hκ
  exact slX12_puts C v0 v1 v2 hv0
def fnX12_strideOf (v0 : Nat) (v1 : Int32) : sm_M Int32 := m_bnd (fnX12_second v0 v1) fun x2 => m_bnd (fnX12_of v0 v1 (0 : Int32)) fun x9 => m_br (x2 = (-1 : Int32))
    (m_ret x9)
    (m_bnd (fnX12_of v0 x2 (0 : Int32)) fun x26 => m_ret (jmin x9 x26))
set_option maxHeartbeats 4000000 in
set_option maxRecDepth 100000 in
theorem slX12_strideOf {κ : sm_X} (C : sm_C κ RX12 cX12_strideOf 4 3) (v0 : Nat) (v1 : Int32) (hv0 : kd v0 = 12) : sm_S κ (fun r : Int32 => .inr (some (.int r))) (.inl (0, [some (xad κ v0), some (.int v1), none, none], [])) (fnX12_strideOf v0 v1) := by
  unfold fnX12_strideOf
  refine sr_aload_n (i := 0) (q := 1) C (show decode cX12_strideOf 0 = .ok (.aload_n 0, 1) from by decide +kernel) rfl rfl rfl ?_
  refine sr_iload_n (i := 1) (q := 2) C (show decode cX12_strideOf 1 = .ok (.iload_n 1, 1) from by decide +kernel) rfl rfl rfl ?_
  refine sr_cVi (As := [.int v1]) (st := []) (b := v0) (q := 5) C yvX12_second ml_X12_348 (cnX12_second (xo κ) v0 v1 hv0) hv0 (by decide) rfl rfl rfl (by decide) (by decide) (Nat.le_of_ble_eq_true rfl) rfl (show decode cX12_strideOf 2 = .ok (.invokevirtual 348, 3) from by decide +kernel) rfl (fun x2 => ?_)
  refine sr_istore_n (i := 2) (L' := [some (xad κ v0), some (.int v1), some (.int x2), none]) (q := 6) C (show decode cX12_strideOf 5 = .ok (.istore_n 2, 1) from by decide +kernel) rfl (by decide) rfl rfl ?_
  refine sr_aload_n (i := 0) (q := 7) C (show decode cX12_strideOf 6 = .ok (.aload_n 0, 1) from by decide +kernel) rfl rfl rfl ?_
  refine sr_iload_n (i := 1) (q := 8) C (show decode cX12_strideOf 7 = .ok (.iload_n 1, 1) from by decide +kernel) rfl rfl rfl ?_
  refine sr_iconst (v := (0 : Int32)) (q := 9) C (show decode cX12_strideOf 8 = .ok (.iconst 0, 1) from by decide +kernel) (by decide) rfl ?_
  refine sr_cVi (As := [.int v1, .int (0 : Int32)]) (st := []) (b := v0) (q := 12) C yvX12_of ml_X12_289 (cnX12_of (xo κ) v0 v1 (0 : Int32) hv0) hv0 (by decide) rfl rfl rfl (by decide) (by decide) (Nat.le_of_ble_eq_true rfl) rfl (show decode cX12_strideOf 9 = .ok (.invokevirtual 289, 3) from by decide +kernel) rfl (fun x9 => ?_)
  refine sr_istore_n (i := 3) (L' := [some (xad κ v0), some (.int v1), some (.int x2), some (.int x9)]) (q := 13) C (show decode cX12_strideOf 12 = .ok (.istore_n 3, 1) from by decide +kernel) rfl (by decide) rfl rfl ?_
  refine sr_iload_n (i := 2) (q := 14) C (show decode cX12_strideOf 13 = .ok (.iload_n 2, 1) from by decide +kernel) rfl rfl rfl ?_
  refine sr_iconst (v := (-1 : Int32)) (q := 15) C (show decode cX12_strideOf 14 = .ok (.iconst (-1), 1) from by decide +kernel) (by decide) rfl ?_
  refine sr_icmp_ne (q := 18) C 22 (show decode cX12_strideOf 15 = .ok (.if_icmp .ne 7, 3) from by decide +kernel) (by decide) rfl ?_ ?_
  · refine sr_iload_n (i := 3) (q := 23) C (show decode cX12_strideOf 22 = .ok (.iload_n 3, 1) from by decide +kernel) rfl rfl rfl ?_
    refine sr_aload_n (i := 0) (q := 24) C (show decode cX12_strideOf 23 = .ok (.aload_n 0, 1) from by decide +kernel) rfl rfl rfl ?_
    refine sr_iload_n (i := 2) (q := 25) C (show decode cX12_strideOf 24 = .ok (.iload_n 2, 1) from by decide +kernel) rfl rfl rfl ?_
    refine sr_iconst (v := (0 : Int32)) (q := 26) C (show decode cX12_strideOf 25 = .ok (.iconst 0, 1) from by decide +kernel) (by decide) rfl ?_
    refine sr_cVi (As := [.int x2, .int (0 : Int32)]) (st := [.int x9]) (b := v0) (q := 29) C yvX12_of ml_X12_289 (cnX12_of (xo κ) v0 x2 (0 : Int32) hv0) hv0 (by decide) rfl rfl rfl (by decide) (by decide) (Nat.le_of_ble_eq_true rfl) rfl (show decode cX12_strideOf 26 = .ok (.invokevirtual 289, 3) from by decide +kernel) rfl (fun x26 => ?_)
    refine sr_jmin (st := []) (q := 32) C ml_X12_146 (by decide) (Nat.le_of_ble_eq_true rfl) (show decode cX12_strideOf 29 = .ok (.invokestatic 146, 3) from by decide +kernel) rfl ?_
    exact sr_ireturn C _ rfl (show decode cX12_strideOf 32 = .ok (.ireturn, 1) from by decide +kernel)
  · refine sr_iload_n (i := 3) (q := 19) C (show decode cX12_strideOf 18 = .ok (.iload_n 3, 1) from by decide +kernel) rfl rfl rfl ?_
    refine sr_goto (q := 32) C (show decode cX12_strideOf 19 = .ok (.goto 13, 3) from by decide +kernel) (by decide) ?_
    exact sr_ireturn C _ rfl (show decode cX12_strideOf 32 = .ok (.ireturn, 1) from by decide +kernel)
theorem cnX12_strideOf (ω : sm_O) (v0 : Nat) (v1 : Int32) (hv0 : kd v0 = 12) : sm_Mt 3 yX12_strideOf cX12_strideOf 4 (some .int) ω [.ref (ω.1 + v0), .int v1] (fun a => some (.int a)) (fnX12_strideOf v0 v1) := by
  refine sm_conI (r := fun a => a) (by decide) (fun _ => rfl) (Nat.le_of_ble_eq_true rfl) ?_
  intro κ hκ C
  subst hκ
  exact slX12_strideOf C v0 v1 hv0
def fnX12_sumOf (v0 : Nat) (v1 : Int32) (v2 : Int32) : sm_M Int32 := m_bnd (fnX12_second v0 v1) fun x2 => m_bnd (fnX12_of v0 v1 v2) fun x9 => m_br (x2 = (-1 : Int32))
    (m_ret (x9 + (0 : Int32)))
    (m_bnd (fnX12_of v0 x2 v2) fun x24 => m_ret (x9 + x24))
set_option maxHeartbeats 4000000 in
set_option maxRecDepth 100000 in
theorem slX12_sumOf {κ : sm_X} (C : sm_C κ RX12 cX12_sumOf 4 3) (v0 : Nat) (v1 : Int32) (v2 : Int32) (hv0 : kd v0 = 12) : sm_S κ (fun r : Int32 => .inr (some (.int r))) (.inl (0, [some (xad κ v0), some (.int v1), some (.int v2), none], [])) (fnX12_sumOf v0 v1 v2) := by
  unfold fnX12_sumOf
  refine sr_aload_n (i := 0) (q := 1) C (show decode cX12_sumOf 0 = .ok (.aload_n 0, 1) from by decide +kernel) rfl rfl rfl ?_
  refine sr_iload_n (i := 1) (q := 2) C (show decode cX12_sumOf 1 = .ok (.iload_n 1, 1) from by decide +kernel) rfl rfl rfl ?_
  refine sr_cVi (As := [.int v1]) (st := []) (b := v0) (q := 5) C yvX12_second ml_X12_348 (cnX12_second (xo κ) v0 v1 hv0) hv0 (by decide) rfl rfl rfl (by decide) (by decide) (Nat.le_of_ble_eq_true rfl) rfl (show decode cX12_sumOf 2 = .ok (.invokevirtual 348, 3) from by decide +kernel) rfl (fun x2 => ?_)
  refine sr_istore_n (i := 3) (L' := [some (xad κ v0), some (.int v1), some (.int v2), some (.int x2)]) (q := 6) C (show decode cX12_sumOf 5 = .ok (.istore_n 3, 1) from by decide +kernel) rfl (by decide) rfl rfl ?_
  refine sr_aload_n (i := 0) (q := 7) C (show decode cX12_sumOf 6 = .ok (.aload_n 0, 1) from by decide +kernel) rfl rfl rfl ?_
  refine sr_iload_n (i := 1) (q := 8) C (show decode cX12_sumOf 7 = .ok (.iload_n 1, 1) from by decide +kernel) rfl rfl rfl ?_
  refine sr_iload_n (i := 2) (q := 9) C (show decode cX12_sumOf 8 = .ok (.iload_n 2, 1) from by decide +kernel) rfl rfl rfl ?_
  refine sr_cVi (As := [.int v1, .int v2]) (st := []) (b := v0) (q := 12) C yvX12_of ml_X12_289 (cnX12_of (xo κ) v0 v1 v2 hv0) hv0 (by decide) rfl rfl rfl (by decide) (by decide) (Nat.le_of_ble_eq_true rfl) rfl (show decode cX12_sumOf 9 = .ok (.invokevirtual 289, 3) from by decide +kernel) rfl (fun x9 => ?_)
  refine sr_iload_n (i := 3) (q := 13) C (show decode cX12_sumOf 12 = .ok (.iload_n 3, 1) from by decide +kernel) rfl rfl rfl ?_
  refine sr_iconst (v := (-1 : Int32)) (q := 14) C (show decode cX12_sumOf 13 = .ok (.iconst (-1), 1) from by decide +kernel) (by decide) rfl ?_
  refine sr_icmp_ne (q := 17) C 21 (show decode cX12_sumOf 14 = .ok (.if_icmp .ne 7, 3) from by decide +kernel) (by decide) rfl ?_ ?_
  · refine sr_aload_n (i := 0) (q := 22) C (show decode cX12_sumOf 21 = .ok (.aload_n 0, 1) from by decide +kernel) rfl rfl rfl ?_
    refine sr_iload_n (i := 3) (q := 23) C (show decode cX12_sumOf 22 = .ok (.iload_n 3, 1) from by decide +kernel) rfl rfl rfl ?_
    refine sr_iload_n (i := 2) (q := 24) C (show decode cX12_sumOf 23 = .ok (.iload_n 2, 1) from by decide +kernel) rfl rfl rfl ?_
    refine sr_cVi (As := [.int x2, .int v2]) (st := [.int x9]) (b := v0) (q := 27) C yvX12_of ml_X12_289 (cnX12_of (xo κ) v0 x2 v2 hv0) hv0 (by decide) rfl rfl rfl (by decide) (by decide) (Nat.le_of_ble_eq_true rfl) rfl (show decode cX12_sumOf 24 = .ok (.invokevirtual 289, 3) from by decide +kernel) rfl (fun x24 => ?_)
    refine sr_iadd (q := 28) C (show decode cX12_sumOf 27 = .ok (.iadd, 1) from by decide +kernel) rfl ?_
    exact sr_ireturn C _ rfl (show decode cX12_sumOf 28 = .ok (.ireturn, 1) from by decide +kernel)
  · refine sr_iconst (v := (0 : Int32)) (q := 18) C (show decode cX12_sumOf 17 = .ok (.iconst 0, 1) from by decide +kernel) (by decide) rfl ?_
    refine sr_goto (q := 27) C (show decode cX12_sumOf 18 = .ok (.goto 9, 3) from by decide +kernel) (by decide) ?_
    refine sr_iadd (q := 28) C (show decode cX12_sumOf 27 = .ok (.iadd, 1) from by decide +kernel) rfl ?_
    exact sr_ireturn C _ rfl (show decode cX12_sumOf 28 = .ok (.ireturn, 1) from by decide +kernel)
theorem cnX12_sumOf (ω : sm_O) (v0 : Nat) (v1 : Int32) (v2 : Int32) (hv0 : kd v0 = 12) : sm_Mt 3 yX12_sumOf cX12_sumOf 4 (some .int) ω [.ref (ω.1 + v0), .int v1, .int v2] (fun a => some (.int a)) (fnX12_sumOf v0 v1 v2) := by
  refine sm_conI (r := fun a => a) (by decide) (fun _ => rfl) (Nat.le_of_ble_eq_true rfl) ?_
  intro κ hκ C
  subst hκ
  exact slX12_sumOf C v0 v1 v2 hv0
def fnX12_goes_J81 (s0 : Int32) (s1 : Int32) (s2 : Nat) : sm_M Bool := m_bnd (fnX12_puts s2 s1 s0) fun _ => m_ret true
set_option maxHeartbeats 4000000 in
set_option maxRecDepth 100000 in
theorem slX12_goes_J81 {κ : sm_X} (C : sm_C κ RX12 cX12_goes 5 8) (s0 : Int32) (s1 : Int32) (s2 : Nat) (hs2 : kd s2 = 12) : sm_S κ (fun r : Bool => .inr (some (.int (bI r)))) (.inl (81, [none, none, none, none, none], [.int s0, .int s1, xad κ s2])) (fnX12_goes_J81 s0 s1 s2) := by
  unfold fnX12_goes_J81
  refine sr_cVv (As := [.int s1, .int s0]) (st := []) (b := s2) (q := 84) C yvX12_puts ml_X12_363 (cnX12_puts (xo κ) s2 s1 s0 hs2) hs2 (by decide) rfl rfl rfl (by decide) (by decide) (Nat.le_of_ble_eq_true rfl) rfl (show decode cX12_goes 81 = .ok (.invokevirtual 363, 3) from by decide +kernel) rfl (fun _ => ?_)
  refine sr_iconst (v := (1 : Int32)) (q := 85) C (show decode cX12_goes 84 = .ok (.iconst 1, 1) from by decide +kernel) (by decide) rfl ?_
  exact sr_ireturn C true rfl (show decode cX12_goes 85 = .ok (.ireturn, 1) from by decide +kernel)
def fnX12_goes_J66 (v0 : Nat) (v1 : Int32) (v3 : Int32) : sm_M Bool := m_br (v3 = (98 : Int32))
    (fnX12_goes_J81 (99 : Int32) v1 v0)
    (fnX12_goes_J81 (98 : Int32) v1 v0)
set_option maxHeartbeats 4000000 in
set_option maxRecDepth 100000 in
theorem slX12_goes_J66 {κ : sm_X} (C : sm_C κ RX12 cX12_goes 5 8) (v0 : Nat) (v1 : Int32) (v3 : Int32) (hv0 : kd v0 = 12) : sm_S κ (fun r : Bool => .inr (some (.int (bI r)))) (.inl (66, [some (xad κ v0), some (.int v1), none, some (.int v3), none], [])) (fnX12_goes_J66 v0 v1 v3) := by
  unfold fnX12_goes_J66
  refine sr_aload_n (i := 0) (q := 67) C (show decode cX12_goes 66 = .ok (.aload_n 0, 1) from by decide +kernel) rfl rfl rfl ?_
  refine sr_iload_n (i := 1) (q := 68) C (show decode cX12_goes 67 = .ok (.iload_n 1, 1) from by decide +kernel) rfl rfl rfl ?_
  refine sr_iload_n (i := 3) (q := 69) C (show decode cX12_goes 68 = .ok (.iload_n 3, 1) from by decide +kernel) rfl rfl rfl ?_
  refine sr_bipush (v := (98 : Int32)) (q := 71) C (show decode cX12_goes 69 = .ok (.bipush 98, 2) from by decide +kernel) (by decide) rfl ?_
  refine sr_icmp_ne (q := 74) C 79 (show decode cX12_goes 71 = .ok (.if_icmp .ne 8, 3) from by decide +kernel) (by decide) rfl ?_ ?_
  · refine sr_bipush (v := (98 : Int32)) (q := 81) C (show decode cX12_goes 79 = .ok (.bipush 98, 2) from by decide +kernel) (by decide) rfl ?_
    refine sr_weak (L' := [none, none, none, none, none]) trivial ?_
    exact slX12_goes_J81 C (98 : Int32) v1 v0 hv0
  · refine sr_bipush (v := (99 : Int32)) (q := 76) C (show decode cX12_goes 74 = .ok (.bipush 99, 2) from by decide +kernel) (by decide) rfl ?_
    refine sr_goto (q := 81) C (show decode cX12_goes 76 = .ok (.goto 5, 3) from by decide +kernel) (by decide) ?_
    refine sr_weak (L' := [none, none, none, none, none]) trivial ?_
    exact slX12_goes_J81 C (99 : Int32) v1 v0 hv0
def fnX12_goes_L34 : Nat → Nat → Int32 → Int32 → Int32 → sm_M Bool
  | 0, _, _, _, _ => m_fail
  | n + 1, v0, v1, v3, v4 => m_gi v0 19 fun x37 => m_br (x37 ≤ v4)
    (fnX12_goes_J66 v0 v1 v3)
    (m_ai (lk v0 18) v4 fun x50 => m_bnd (fnX12_sumOf v0 v1 (1 : Int32)) fun x54 => m_bnd (fnX12_bears v0 x50 x54) fun _ => (fnX12_goes_L34 n) v0 v1 v3 (v4 + (1 : Int32)))
set_option maxHeartbeats 4000000 in
set_option maxRecDepth 100000 in
theorem slX12_goes_L34 {κ : sm_X} (C : sm_C κ RX12 cX12_goes 5 8) : ∀ (n : Nat) (v0 : Nat) (v1 : Int32) (v3 : Int32) (v4 : Int32) (hv0 : kd v0 = 12), sm_S κ (fun r : Bool => .inr (some (.int (bI r)))) (.inl (34, [some (xad κ v0), some (.int v1), none, some (.int v3), some (.int v4)], [])) (fnX12_goes_L34 n v0 v1 v3 v4) := by
  intro n
  induction n with
  | zero =>
    intros
    exact sr_fail
  | succ n K34 =>
    intro v0 v1 v3 v4 hv0
    unfold fnX12_goes_L34
    refine sr_iload (i := 4) (q := 36) C (show decode cX12_goes 34 = .ok (.iload 4, 2) from by decide +kernel) rfl rfl ?_
    refine sr_aload_n (i := 0) (q := 37) C (show decode cX12_goes 36 = .ok (.aload_n 0, 1) from by decide +kernel) rfl rfl rfl ?_
    refine sr_geti (q := 40) C fl_X12_297 (Or.inl rfl) hv0 (show decode cX12_goes 37 = .ok (.getfield 297, 3) from by decide +kernel) rfl (fun x37 => ?_)
    refine sr_icmp_ge (q := 43) C 66 (show decode cX12_goes 40 = .ok (.if_icmp .ge 26, 3) from by decide +kernel) (by decide) rfl ?_ ?_
    · refine sr_weak (L' := [some (xad κ v0), some (.int v1), none, some (.int v3), none]) ⟨rfl, rfl, rfl, trivial⟩ ?_
      exact slX12_goes_J66 C v0 v1 v3 hv0
    · refine sr_aload_n (i := 0) (q := 44) C (show decode cX12_goes 43 = .ok (.aload_n 0, 1) from by decide +kernel) rfl rfl rfl ?_
      refine sr_aload_n (i := 0) (q := 45) C (show decode cX12_goes 44 = .ok (.aload_n 0, 1) from by decide +kernel) rfl rfl rfl ?_
      refine sr_getr (q := 48) C fl_X12_43 hv0 (show decode cX12_goes 45 = .ok (.getfield 43, 3) from by decide +kernel) rfl ?_
      refine sr_iload (i := 4) (q := 50) C (show decode cX12_goes 48 = .ok (.iload 4, 2) from by decide +kernel) rfl rfl ?_
      refine sr_iaload (q := 51) C (kt hv0 kp_12_18) (show decode cX12_goes 50 = .ok (.iaload, 1) from by decide +kernel) rfl (fun x50 => ?_)
      refine sr_aload_n (i := 0) (q := 52) C (show decode cX12_goes 51 = .ok (.aload_n 0, 1) from by decide +kernel) rfl rfl rfl ?_
      refine sr_iload_n (i := 1) (q := 53) C (show decode cX12_goes 52 = .ok (.iload_n 1, 1) from by decide +kernel) rfl rfl rfl ?_
      refine sr_iconst (v := (1 : Int32)) (q := 54) C (show decode cX12_goes 53 = .ok (.iconst 1, 1) from by decide +kernel) (by decide) rfl ?_
      refine sr_cVi (As := [.int v1, .int (1 : Int32)]) (st := [.int x50, xad κ v0]) (b := v0) (q := 57) C yvX12_sumOf ml_X12_360 (cnX12_sumOf (xo κ) v0 v1 (1 : Int32) hv0) hv0 (by decide) rfl rfl rfl (by decide) (by decide) (Nat.le_of_ble_eq_true rfl) rfl (show decode cX12_goes 54 = .ok (.invokevirtual 360, 3) from by decide +kernel) rfl (fun x54 => ?_)
      refine sr_cVv (As := [.int x50, .int x54]) (st := []) (b := v0) (q := 60) C yvX12_bears ml_X12_316 (cnX12_bears (xo κ) v0 x50 x54 hv0) hv0 (by decide) rfl rfl rfl (by decide) (by decide) (Nat.le_of_ble_eq_true rfl) rfl (show decode cX12_goes 57 = .ok (.invokevirtual 316, 3) from by decide +kernel) rfl (fun _ => ?_)
      refine sr_iinc (v := v4 + (1 : Int32)) (L' := [some (xad κ v0), some (.int v1), none, some (.int v3), some (.int (v4 + (1 : Int32)))]) (q := 63) C (show decode cX12_goes 60 = .ok (.iinc 4 1, 3) from by decide +kernel) rfl rfl (by decide) rfl rfl ?_
      refine sr_goto (q := 34) C (show decode cX12_goes 63 = .ok (.goto (-29), 3) from by decide +kernel) (by decide) ?_
      exact K34 v0 v1 v3 (v4 + (1 : Int32)) hv0
def fnX12_goes (v0 : Nat) (v1 : Int32) (v2 : Int32) (v3 : Int32) : sm_M Bool := m_bnd (fnX12_isAt v0 v1 v3) fun x3 => m_br ((bI x3) = 0)
    (m_ret false)
    (m_bnd (fnX12_strideOf v0 v1) fun x12 => m_bnd (fnX12_sumOf v0 v1 (1 : Int32)) fun x18 => m_bnd (fnX12_finds v0 x12 x18 v2 v3) fun x23 => m_br ((bI x23) = 0)
    (m_ret false)
    (fnX12_goes_L34 4096 v0 v1 v3 (0 : Int32)))
set_option maxHeartbeats 4000000 in
set_option maxRecDepth 100000 in
theorem slX12_goes {κ : sm_X} (C : sm_C κ RX12 cX12_goes 5 8) (v0 : Nat) (v1 : Int32) (v2 : Int32) (v3 : Int32) (hv0 : kd v0 = 12) : sm_S κ (fun r : Bool => .inr (some (.int (bI r)))) (.inl (0, [some (xad κ v0), some (.int v1), some (.int v2), some (.int v3), none], [])) (fnX12_goes v0 v1 v2 v3) := by
  unfold fnX12_goes
  refine sr_aload_n (i := 0) (q := 1) C (show decode cX12_goes 0 = .ok (.aload_n 0, 1) from by decide +kernel) rfl rfl rfl ?_
  refine sr_iload_n (i := 1) (q := 2) C (show decode cX12_goes 1 = .ok (.iload_n 1, 1) from by decide +kernel) rfl rfl rfl ?_
  refine sr_iload_n (i := 3) (q := 3) C (show decode cX12_goes 2 = .ok (.iload_n 3, 1) from by decide +kernel) rfl rfl rfl ?_
  refine sr_cVz (As := [.int v1, .int v3]) (st := []) (b := v0) (q := 6) C yvX12_isAt ml_X12_354 (cnX12_isAt (xo κ) v0 v1 v3 hv0) hv0 (by decide) rfl rfl rfl (by decide) (by decide) (Nat.le_of_ble_eq_true rfl) rfl (show decode cX12_goes 3 = .ok (.invokevirtual 354, 3) from by decide +kernel) rfl (fun x3 => ?_)
  refine sr_if_eq (q := 9) C 29 (show decode cX12_goes 6 = .ok (.ifCond .eq 23, 3) from by decide +kernel) (by decide) rfl ?_ ?_
  · refine sr_iconst (v := (0 : Int32)) (q := 30) C (show decode cX12_goes 29 = .ok (.iconst 0, 1) from by decide +kernel) (by decide) rfl ?_
    exact sr_ireturn C false rfl (show decode cX12_goes 30 = .ok (.ireturn, 1) from by decide +kernel)
  · refine sr_aload_n (i := 0) (q := 10) C (show decode cX12_goes 9 = .ok (.aload_n 0, 1) from by decide +kernel) rfl rfl rfl ?_
    refine sr_aload_n (i := 0) (q := 11) C (show decode cX12_goes 10 = .ok (.aload_n 0, 1) from by decide +kernel) rfl rfl rfl ?_
    refine sr_iload_n (i := 1) (q := 12) C (show decode cX12_goes 11 = .ok (.iload_n 1, 1) from by decide +kernel) rfl rfl rfl ?_
    refine sr_cVi (As := [.int v1]) (st := [xad κ v0]) (b := v0) (q := 15) C yvX12_strideOf ml_X12_357 (cnX12_strideOf (xo κ) v0 v1 hv0) hv0 (by decide) rfl rfl rfl (by decide) (by decide) (Nat.le_of_ble_eq_true rfl) rfl (show decode cX12_goes 12 = .ok (.invokevirtual 357, 3) from by decide +kernel) rfl (fun x12 => ?_)
    refine sr_aload_n (i := 0) (q := 16) C (show decode cX12_goes 15 = .ok (.aload_n 0, 1) from by decide +kernel) rfl rfl rfl ?_
    refine sr_iload_n (i := 1) (q := 17) C (show decode cX12_goes 16 = .ok (.iload_n 1, 1) from by decide +kernel) rfl rfl rfl ?_
    refine sr_iconst (v := (1 : Int32)) (q := 18) C (show decode cX12_goes 17 = .ok (.iconst 1, 1) from by decide +kernel) (by decide) rfl ?_
    refine sr_cVi (As := [.int v1, .int (1 : Int32)]) (st := [.int x12, xad κ v0]) (b := v0) (q := 21) C yvX12_sumOf ml_X12_360 (cnX12_sumOf (xo κ) v0 v1 (1 : Int32) hv0) hv0 (by decide) rfl rfl rfl (by decide) (by decide) (Nat.le_of_ble_eq_true rfl) rfl (show decode cX12_goes 18 = .ok (.invokevirtual 360, 3) from by decide +kernel) rfl (fun x18 => ?_)
    refine sr_iload_n (i := 2) (q := 22) C (show decode cX12_goes 21 = .ok (.iload_n 2, 1) from by decide +kernel) rfl rfl rfl ?_
    refine sr_iload_n (i := 3) (q := 23) C (show decode cX12_goes 22 = .ok (.iload_n 3, 1) from by decide +kernel) rfl rfl rfl ?_
    refine sr_cVz (As := [.int x12, .int x18, .int v2, .int v3]) (st := []) (b := v0) (q := 26) C yvX12_finds ml_X12_313 (cnX12_finds (xo κ) v0 x12 x18 v2 v3 hv0) hv0 (by decide) rfl rfl rfl (by decide) (by decide) (Nat.le_of_ble_eq_true rfl) rfl (show decode cX12_goes 23 = .ok (.invokevirtual 313, 3) from by decide +kernel) rfl (fun x23 => ?_)
    refine sr_if_ne (q := 29) C 31 (show decode cX12_goes 26 = .ok (.ifCond .ne 5, 3) from by decide +kernel) (by decide) rfl ?_ ?_
    · refine sr_iconst (v := (0 : Int32)) (q := 32) C (show decode cX12_goes 31 = .ok (.iconst 0, 1) from by decide +kernel) (by decide) rfl ?_
      refine sr_istore (i := 4) (L' := [some (xad κ v0), some (.int v1), some (.int v2), some (.int v3), some (.int (0 : Int32))]) (q := 34) C (show decode cX12_goes 32 = .ok (.istore 4, 2) from by decide +kernel) (by decide) rfl rfl ?_
      refine sr_weak (L' := [some (xad κ v0), some (.int v1), none, some (.int v3), some (.int (0 : Int32))]) ⟨rfl, rfl, rfl, rfl, trivial⟩ ?_
      exact slX12_goes_L34 C 4096 v0 v1 v3 (0 : Int32) hv0
    · refine sr_iconst (v := (0 : Int32)) (q := 30) C (show decode cX12_goes 29 = .ok (.iconst 0, 1) from by decide +kernel) (by decide) rfl ?_
      exact sr_ireturn C false rfl (show decode cX12_goes 30 = .ok (.ireturn, 1) from by decide +kernel)
theorem cnX12_goes (ω : sm_O) (v0 : Nat) (v1 : Int32) (v2 : Int32) (v3 : Int32) (hv0 : kd v0 = 12) : sm_Mt 8 yX12_goes cX12_goes 5 (some .boolean) ω [.ref (ω.1 + v0), .int v1, .int v2, .int v3] (fun a => some (.int (bI a))) (fnX12_goes v0 v1 v2 v3) := by
  refine sm_conI (r := bI) (by decide) bI_nar (Nat.le_of_ble_eq_true rfl) ?_
  intro κ hκ C
  subst hκ
  exact slX12_goes C v0 v1 v2 v3 hv0
def fnX12_manyOf (v0 : Nat) (v1 : Int32) : sm_M Int32 := m_bnd (fnX12_second v0 v1) fun x2 => m_br (x2 = (-1 : Int32))
    (m_ret (1 : Int32))
    (m_ret (2 : Int32))
set_option maxHeartbeats 4000000 in
set_option maxRecDepth 100000 in
theorem slX12_manyOf {κ : sm_X} (C : sm_C κ RX12 cX12_manyOf 2 3) (v0 : Nat) (v1 : Int32) (hv0 : kd v0 = 12) : sm_S κ (fun r : Int32 => .inr (some (.int r))) (.inl (0, [some (xad κ v0), some (.int v1)], [])) (fnX12_manyOf v0 v1) := by
  unfold fnX12_manyOf
  refine sr_aload_n (i := 0) (q := 1) C (show decode cX12_manyOf 0 = .ok (.aload_n 0, 1) from by decide +kernel) rfl rfl rfl ?_
  refine sr_iload_n (i := 1) (q := 2) C (show decode cX12_manyOf 1 = .ok (.iload_n 1, 1) from by decide +kernel) rfl rfl rfl ?_
  refine sr_cVi (As := [.int v1]) (st := []) (b := v0) (q := 5) C yvX12_second ml_X12_348 (cnX12_second (xo κ) v0 v1 hv0) hv0 (by decide) rfl rfl rfl (by decide) (by decide) (Nat.le_of_ble_eq_true rfl) rfl (show decode cX12_manyOf 2 = .ok (.invokevirtual 348, 3) from by decide +kernel) rfl (fun x2 => ?_)
  refine sr_iconst (v := (-1 : Int32)) (q := 6) C (show decode cX12_manyOf 5 = .ok (.iconst (-1), 1) from by decide +kernel) (by decide) rfl ?_
  refine sr_icmp_ne (q := 9) C 13 (show decode cX12_manyOf 6 = .ok (.if_icmp .ne 7, 3) from by decide +kernel) (by decide) rfl ?_ ?_
  · refine sr_iconst (v := (2 : Int32)) (q := 14) C (show decode cX12_manyOf 13 = .ok (.iconst 2, 1) from by decide +kernel) (by decide) rfl ?_
    exact sr_ireturn C _ rfl (show decode cX12_manyOf 14 = .ok (.ireturn, 1) from by decide +kernel)
  · refine sr_iconst (v := (1 : Int32)) (q := 10) C (show decode cX12_manyOf 9 = .ok (.iconst 1, 1) from by decide +kernel) (by decide) rfl ?_
    refine sr_goto (q := 14) C (show decode cX12_manyOf 10 = .ok (.goto 4, 3) from by decide +kernel) (by decide) ?_
    exact sr_ireturn C _ rfl (show decode cX12_manyOf 14 = .ok (.ireturn, 1) from by decide +kernel)
theorem cnX12_manyOf (ω : sm_O) (v0 : Nat) (v1 : Int32) (hv0 : kd v0 = 12) : sm_Mt 3 yX12_manyOf cX12_manyOf 2 (some .int) ω [.ref (ω.1 + v0), .int v1] (fun a => some (.int a)) (fnX12_manyOf v0 v1) := by
  refine sm_conI (r := fun a => a) (by decide) (fun _ => rfl) (Nat.le_of_ble_eq_true rfl) ?_
  intro κ hκ C
  subst hκ
  exact slX12_manyOf C v0 v1 hv0
def fnX12_goesOver (v0 : Nat) (v1 : Int32) (v2 : Int32) : sm_M Unit := m_bnd (fnX12_goes v0 v1 v2 (98 : Int32)) fun x5 => m_br ((bI x5) = 0)
    (m_ret ())
    (m_gi v0 22 fun x14 => m_bnd (fnX12_manyOf v0 v1) fun x19 => m_si v0 22 (x14 + x19) <| m_gi v0 23 fun x28 => m_bnd (fnX12_sumOf v0 v1 (2 : Int32)) fun x34 => m_si v0 23 (x28 + x34) <| m_gi v0 24 fun x43 => m_bnd (fnX12_bitsOf v0 v1) fun x48 => m_si v0 24 (x43 ||| x48) <| m_gi v0 25 fun x57 => m_bnd (fnX12_sumOf v0 v1 (3 : Int32)) fun x63 => m_br (x63 ≤ 0)
    (m_si v0 25 (x57 + (0 : Int32)) <| m_ret ())
    (m_si v0 25 (x57 + (1 : Int32)) <| m_ret ()))
set_option maxHeartbeats 4000000 in
set_option maxRecDepth 100000 in
theorem slX12_goesOver {κ : sm_X} (C : sm_C κ RX12 cX12_goesOver 3 9) (v0 : Nat) (v1 : Int32) (v2 : Int32) (hv0 : kd v0 = 12) : sm_S κ (fun _ : Unit => .inr none) (.inl (0, [some (xad κ v0), some (.int v1), some (.int v2)], [])) (fnX12_goesOver v0 v1 v2) := by
  unfold fnX12_goesOver
  refine sr_aload_n (i := 0) (q := 1) C (show decode cX12_goesOver 0 = .ok (.aload_n 0, 1) from by decide +kernel) rfl rfl rfl ?_
  refine sr_iload_n (i := 1) (q := 2) C (show decode cX12_goesOver 1 = .ok (.iload_n 1, 1) from by decide +kernel) rfl rfl rfl ?_
  refine sr_iload_n (i := 2) (q := 3) C (show decode cX12_goesOver 2 = .ok (.iload_n 2, 1) from by decide +kernel) rfl rfl rfl ?_
  refine sr_bipush (v := (98 : Int32)) (q := 5) C (show decode cX12_goesOver 3 = .ok (.bipush 98, 2) from by decide +kernel) (by decide) rfl ?_
  refine sr_cVz (As := [.int v1, .int v2, .int (98 : Int32)]) (st := []) (b := v0) (q := 8) C yvX12_goes ml_X12_369 (cnX12_goes (xo κ) v0 v1 v2 (98 : Int32) hv0) hv0 (by decide) rfl rfl rfl (by decide) (by decide) (Nat.le_of_ble_eq_true rfl) rfl (show decode cX12_goesOver 5 = .ok (.invokevirtual 369, 3) from by decide +kernel) rfl (fun x5 => ?_)
  refine sr_if_ne (q := 11) C 12 (show decode cX12_goesOver 8 = .ok (.ifCond .ne 4, 3) from by decide +kernel) (by decide) rfl ?_ ?_
  · refine sr_aload_n (i := 0) (q := 13) C (show decode cX12_goesOver 12 = .ok (.aload_n 0, 1) from by decide +kernel) rfl rfl rfl ?_
    refine sr_dup (q := 14) C (show decode cX12_goesOver 13 = .ok (.dup, 1) from by decide +kernel) rfl rfl ?_
    refine sr_geti (q := 17) C fl_X12_372 (Or.inl rfl) hv0 (show decode cX12_goesOver 14 = .ok (.getfield 372, 3) from by decide +kernel) rfl (fun x14 => ?_)
    refine sr_aload_n (i := 0) (q := 18) C (show decode cX12_goesOver 17 = .ok (.aload_n 0, 1) from by decide +kernel) rfl rfl rfl ?_
    refine sr_iload_n (i := 1) (q := 19) C (show decode cX12_goesOver 18 = .ok (.iload_n 1, 1) from by decide +kernel) rfl rfl rfl ?_
    refine sr_cVi (As := [.int v1]) (st := [.int x14, xad κ v0]) (b := v0) (q := 22) C yvX12_manyOf ml_X12_384 (cnX12_manyOf (xo κ) v0 v1 hv0) hv0 (by decide) rfl rfl rfl (by decide) (by decide) (Nat.le_of_ble_eq_true rfl) rfl (show decode cX12_goesOver 19 = .ok (.invokevirtual 384, 3) from by decide +kernel) rfl (fun x19 => ?_)
    refine sr_iadd (q := 23) C (show decode cX12_goesOver 22 = .ok (.iadd, 1) from by decide +kernel) rfl ?_
    refine sr_puti (q := 26) C fp_X12_372 hv0 (show decode cX12_goesOver 23 = .ok (.putfield 372, 3) from by decide +kernel) rfl ?_
    refine sr_aload_n (i := 0) (q := 27) C (show decode cX12_goesOver 26 = .ok (.aload_n 0, 1) from by decide +kernel) rfl rfl rfl ?_
    refine sr_dup (q := 28) C (show decode cX12_goesOver 27 = .ok (.dup, 1) from by decide +kernel) rfl rfl ?_
    refine sr_geti (q := 31) C fl_X12_375 (Or.inl rfl) hv0 (show decode cX12_goesOver 28 = .ok (.getfield 375, 3) from by decide +kernel) rfl (fun x28 => ?_)
    refine sr_aload_n (i := 0) (q := 32) C (show decode cX12_goesOver 31 = .ok (.aload_n 0, 1) from by decide +kernel) rfl rfl rfl ?_
    refine sr_iload_n (i := 1) (q := 33) C (show decode cX12_goesOver 32 = .ok (.iload_n 1, 1) from by decide +kernel) rfl rfl rfl ?_
    refine sr_iconst (v := (2 : Int32)) (q := 34) C (show decode cX12_goesOver 33 = .ok (.iconst 2, 1) from by decide +kernel) (by decide) rfl ?_
    refine sr_cVi (As := [.int v1, .int (2 : Int32)]) (st := [.int x28, xad κ v0]) (b := v0) (q := 37) C yvX12_sumOf ml_X12_360 (cnX12_sumOf (xo κ) v0 v1 (2 : Int32) hv0) hv0 (by decide) rfl rfl rfl (by decide) (by decide) (Nat.le_of_ble_eq_true rfl) rfl (show decode cX12_goesOver 34 = .ok (.invokevirtual 360, 3) from by decide +kernel) rfl (fun x34 => ?_)
    refine sr_iadd (q := 38) C (show decode cX12_goesOver 37 = .ok (.iadd, 1) from by decide +kernel) rfl ?_
    refine sr_puti (q := 41) C fp_X12_375 hv0 (show decode cX12_goesOver 38 = .ok (.putfield 375, 3) from by decide +kernel) rfl ?_
    refine sr_aload_n (i := 0) (q := 42) C (show decode cX12_goesOver 41 = .ok (.aload_n 0, 1) from by decide +kernel) rfl rfl rfl ?_
    refine sr_dup (q := 43) C (show decode cX12_goesOver 42 = .ok (.dup, 1) from by decide +kernel) rfl rfl ?_
    refine sr_geti (q := 46) C fl_X12_378 (Or.inl rfl) hv0 (show decode cX12_goesOver 43 = .ok (.getfield 378, 3) from by decide +kernel) rfl (fun x43 => ?_)
    refine sr_aload_n (i := 0) (q := 47) C (show decode cX12_goesOver 46 = .ok (.aload_n 0, 1) from by decide +kernel) rfl rfl rfl ?_
    refine sr_iload_n (i := 1) (q := 48) C (show decode cX12_goesOver 47 = .ok (.iload_n 1, 1) from by decide +kernel) rfl rfl rfl ?_
    refine sr_cVi (As := [.int v1]) (st := [.int x43, xad κ v0]) (b := v0) (q := 51) C yvX12_bitsOf ml_X12_387 (cnX12_bitsOf (xo κ) v0 v1 hv0) hv0 (by decide) rfl rfl rfl (by decide) (by decide) (Nat.le_of_ble_eq_true rfl) rfl (show decode cX12_goesOver 48 = .ok (.invokevirtual 387, 3) from by decide +kernel) rfl (fun x48 => ?_)
    refine sr_ior (q := 52) C (show decode cX12_goesOver 51 = .ok (.ior, 1) from by decide +kernel) rfl ?_
    refine sr_puti (q := 55) C fp_X12_378 hv0 (show decode cX12_goesOver 52 = .ok (.putfield 378, 3) from by decide +kernel) rfl ?_
    refine sr_aload_n (i := 0) (q := 56) C (show decode cX12_goesOver 55 = .ok (.aload_n 0, 1) from by decide +kernel) rfl rfl rfl ?_
    refine sr_dup (q := 57) C (show decode cX12_goesOver 56 = .ok (.dup, 1) from by decide +kernel) rfl rfl ?_
    refine sr_geti (q := 60) C fl_X12_381 (Or.inl rfl) hv0 (show decode cX12_goesOver 57 = .ok (.getfield 381, 3) from by decide +kernel) rfl (fun x57 => ?_)
    refine sr_aload_n (i := 0) (q := 61) C (show decode cX12_goesOver 60 = .ok (.aload_n 0, 1) from by decide +kernel) rfl rfl rfl ?_
    refine sr_iload_n (i := 1) (q := 62) C (show decode cX12_goesOver 61 = .ok (.iload_n 1, 1) from by decide +kernel) rfl rfl rfl ?_
    refine sr_iconst (v := (3 : Int32)) (q := 63) C (show decode cX12_goesOver 62 = .ok (.iconst 3, 1) from by decide +kernel) (by decide) rfl ?_
    refine sr_cVi (As := [.int v1, .int (3 : Int32)]) (st := [.int x57, xad κ v0]) (b := v0) (q := 66) C yvX12_sumOf ml_X12_360 (cnX12_sumOf (xo κ) v0 v1 (3 : Int32) hv0) hv0 (by decide) rfl rfl rfl (by decide) (by decide) (Nat.le_of_ble_eq_true rfl) rfl (show decode cX12_goesOver 63 = .ok (.invokevirtual 360, 3) from by decide +kernel) rfl (fun x63 => ?_)
    refine sr_if_le (q := 69) C 73 (show decode cX12_goesOver 66 = .ok (.ifCond .le 7, 3) from by decide +kernel) (by decide) rfl ?_ ?_
    · refine sr_iconst (v := (0 : Int32)) (q := 74) C (show decode cX12_goesOver 73 = .ok (.iconst 0, 1) from by decide +kernel) (by decide) rfl ?_
      refine sr_iadd (q := 75) C (show decode cX12_goesOver 74 = .ok (.iadd, 1) from by decide +kernel) rfl ?_
      refine sr_puti (q := 78) C fp_X12_381 hv0 (show decode cX12_goesOver 75 = .ok (.putfield 381, 3) from by decide +kernel) rfl ?_
      exact sr_vreturn C _ rfl (show decode cX12_goesOver 78 = .ok (.return_, 1) from by decide +kernel)
    · refine sr_iconst (v := (1 : Int32)) (q := 70) C (show decode cX12_goesOver 69 = .ok (.iconst 1, 1) from by decide +kernel) (by decide) rfl ?_
      refine sr_goto (q := 74) C (show decode cX12_goesOver 70 = .ok (.goto 4, 3) from by decide +kernel) (by decide) ?_
      refine sr_iadd (q := 75) C (show decode cX12_goesOver 74 = .ok (.iadd, 1) from by decide +kernel) rfl ?_
      refine sr_puti (q := 78) C fp_X12_381 hv0 (show decode cX12_goesOver 75 = .ok (.putfield 381, 3) from by decide +kernel) rfl ?_
      exact sr_vreturn C _ rfl (show decode cX12_goesOver 78 = .ok (.return_, 1) from by decide +kernel)
  · exact sr_vreturn C _ rfl (show decode cX12_goesOver 11 = .ok (.return_, 1) from by decide +kernel)
theorem cnX12_goesOver (ω : sm_O) (v0 : Nat) (v1 : Int32) (v2 : Int32) (hv0 : kd v0 = 12) : sm_Mt 9 yX12_goesOver cX12_goesOver 3 none ω [.ref (ω.1 + v0), .int v1, .int v2] (fun _ => none) (fnX12_goesOver v0 v1 v2) := by
  refine sm_conV (by decide) (Nat.le_of_ble_eq_true rfl) ?_
  intro κ hκ C
  subst hκ
  exact slX12_goesOver C v0 v1 v2 hv0
def fnX12_units (v0 : Nat) : sm_M Int32 := m_ai (lk v0 1) (4 : Int32) fun x5 => m_ret x5
set_option maxHeartbeats 4000000 in
set_option maxRecDepth 100000 in
theorem slX12_units {κ : sm_X} (C : sm_C κ RX12 cX12_units 1 1) (v0 : Nat) (hv0 : kd v0 = 12) : sm_S κ (fun r : Int32 => .inr (some (.int r))) (.inl (0, [some (xad κ v0)], [])) (fnX12_units v0) := by
  unfold fnX12_units
  refine sr_aload_n (i := 0) (q := 1) C (show decode cX12_units 0 = .ok (.aload_n 0, 1) from by decide +kernel) rfl rfl rfl ?_
  refine sr_getr (q := 4) C fl_X12_9 hv0 (show decode cX12_units 1 = .ok (.getfield 9, 3) from by decide +kernel) rfl ?_
  refine sr_iconst (v := (4 : Int32)) (q := 5) C (show decode cX12_units 4 = .ok (.iconst 4, 1) from by decide +kernel) (by decide) rfl ?_
  refine sr_iaload (q := 6) C (kt hv0 kp_12_1) (show decode cX12_units 5 = .ok (.iaload, 1) from by decide +kernel) rfl (fun x5 => ?_)
  exact sr_ireturn C _ rfl (show decode cX12_units 6 = .ok (.ireturn, 1) from by decide +kernel)
theorem cnX12_units (ω : sm_O) (v0 : Nat) (hv0 : kd v0 = 12) : sm_Mt 1 yX12_units cX12_units 1 (some .int) ω [.ref (ω.1 + v0)] (fun a => some (.int a)) (fnX12_units v0) := by
  refine sm_conI (r := fun a => a) (by decide) (fun _ => rfl) (Nat.le_of_ble_eq_true rfl) ?_
  intro κ hκ C
  subst hκ
  exact slX12_units C v0 hv0
def fnX12_allGoOver_L6 : Nat → Nat → Int32 → Int32 → sm_M Unit
  | 0, _, _, _ => m_fail
  | n + 1, v0, v1, v2 => m_bnd (fnX12_units v0) fun x8 => m_br (x8 ≤ v2)
    (m_ret ())
    (m_bnd (fnX12_goesOver v0 v2 v1) fun _ => (fnX12_allGoOver_L6 n) v0 v1 (v2 + (1 : Int32)))
set_option maxHeartbeats 4000000 in
set_option maxRecDepth 100000 in
theorem slX12_allGoOver_L6 {κ : sm_X} (C : sm_C κ RX12 cX12_allGoOver 3 10) : ∀ (n : Nat) (v0 : Nat) (v1 : Int32) (v2 : Int32) (hv0 : kd v0 = 12), sm_S κ (fun _ : Unit => .inr none) (.inl (6, [some (xad κ v0), some (.int v1), some (.int v2)], [])) (fnX12_allGoOver_L6 n v0 v1 v2) := by
  intro n
  induction n with
  | zero =>
    intros
    exact sr_fail
  | succ n K6 =>
    intro v0 v1 v2 hv0
    unfold fnX12_allGoOver_L6
    refine sr_iload_n (i := 2) (q := 7) C (show decode cX12_allGoOver 6 = .ok (.iload_n 2, 1) from by decide +kernel) rfl rfl rfl ?_
    refine sr_aload_n (i := 0) (q := 8) C (show decode cX12_allGoOver 7 = .ok (.aload_n 0, 1) from by decide +kernel) rfl rfl rfl ?_
    refine sr_cVi (As := []) (st := [.int v2]) (b := v0) (q := 11) C yvX12_units ml_X12_393 (cnX12_units (xo κ) v0 hv0) hv0 (by decide) rfl rfl rfl (by decide) (by decide) (Nat.le_of_ble_eq_true rfl) rfl (show decode cX12_allGoOver 8 = .ok (.invokevirtual 393, 3) from by decide +kernel) rfl (fun x8 => ?_)
    refine sr_icmp_ge (q := 14) C 26 (show decode cX12_allGoOver 11 = .ok (.if_icmp .ge 15, 3) from by decide +kernel) (by decide) rfl ?_ ?_
    · exact sr_vreturn C _ rfl (show decode cX12_allGoOver 26 = .ok (.return_, 1) from by decide +kernel)
    · refine sr_aload_n (i := 0) (q := 15) C (show decode cX12_allGoOver 14 = .ok (.aload_n 0, 1) from by decide +kernel) rfl rfl rfl ?_
      refine sr_iload_n (i := 2) (q := 16) C (show decode cX12_allGoOver 15 = .ok (.iload_n 2, 1) from by decide +kernel) rfl rfl rfl ?_
      refine sr_iload_n (i := 1) (q := 17) C (show decode cX12_allGoOver 16 = .ok (.iload_n 1, 1) from by decide +kernel) rfl rfl rfl ?_
      refine sr_cVv (As := [.int v2, .int v1]) (st := []) (b := v0) (q := 20) C yvX12_goesOver ml_X12_396 (cnX12_goesOver (xo κ) v0 v2 v1 hv0) hv0 (by decide) rfl rfl rfl (by decide) (by decide) (Nat.le_of_ble_eq_true rfl) rfl (show decode cX12_allGoOver 17 = .ok (.invokevirtual 396, 3) from by decide +kernel) rfl (fun _ => ?_)
      refine sr_iinc (v := v2 + (1 : Int32)) (L' := [some (xad κ v0), some (.int v1), some (.int (v2 + (1 : Int32)))]) (q := 23) C (show decode cX12_allGoOver 20 = .ok (.iinc 2 1, 3) from by decide +kernel) rfl rfl (by decide) rfl rfl ?_
      refine sr_goto (q := 6) C (show decode cX12_allGoOver 23 = .ok (.goto (-17), 3) from by decide +kernel) (by decide) ?_
      exact K6 v0 v1 (v2 + (1 : Int32)) hv0
def fnX12_allGoOver (v0 : Nat) (v1 : Int32) : sm_M Unit := m_bnd (fnX12_clearsOver v0) fun _ => fnX12_allGoOver_L6 4096 v0 v1 (0 : Int32)
set_option maxHeartbeats 4000000 in
set_option maxRecDepth 100000 in
theorem slX12_allGoOver {κ : sm_X} (C : sm_C κ RX12 cX12_allGoOver 3 10) (v0 : Nat) (v1 : Int32) (hv0 : kd v0 = 12) : sm_S κ (fun _ : Unit => .inr none) (.inl (0, [some (xad κ v0), some (.int v1), none], [])) (fnX12_allGoOver v0 v1) := by
  unfold fnX12_allGoOver
  refine sr_aload_n (i := 0) (q := 1) C (show decode cX12_allGoOver 0 = .ok (.aload_n 0, 1) from by decide +kernel) rfl rfl rfl ?_
  refine sr_cVv (As := []) (st := []) (b := v0) (q := 4) C yvX12_clearsOver ml_X12_390 (cnX12_clearsOver (xo κ) v0 hv0) hv0 (by decide) rfl rfl rfl (by decide) (by decide) (Nat.le_of_ble_eq_true rfl) rfl (show decode cX12_allGoOver 1 = .ok (.invokevirtual 390, 3) from by decide +kernel) rfl (fun _ => ?_)
  refine sr_iconst (v := (0 : Int32)) (q := 5) C (show decode cX12_allGoOver 4 = .ok (.iconst 0, 1) from by decide +kernel) (by decide) rfl ?_
  refine sr_istore_n (i := 2) (L' := [some (xad κ v0), some (.int v1), some (.int (0 : Int32))]) (q := 6) C (show decode cX12_allGoOver 5 = .ok (.istore_n 2, 1) from by decide +kernel) rfl (by decide) rfl rfl ?_
  exact slX12_allGoOver_L6 C 4096 v0 v1 (0 : Int32) hv0
theorem cnX12_allGoOver (ω : sm_O) (v0 : Nat) (v1 : Int32) (hv0 : kd v0 = 12) : sm_Mt 10 yX12_allGoOver cX12_allGoOver 3 none ω [.ref (ω.1 + v0), .int v1] (fun _ => none) (fnX12_allGoOver v0 v1) := by
  refine sm_conV (by decide) (Nat.le_of_ble_eq_true rfl) ?_
  intro κ hκ C
  subst hκ
  exact slX12_allGoOver C v0 v1 hv0
def fnX12_isWay (v0 : Nat) (v1 : Int32) : sm_M Bool := m_bnd (fnX12_isRiver v0) fun x1 => m_br ((bI x1) = 0)
    (m_ret false)
    (m_bnd (fnX12_in v1.toInt64 (0 : Int64) (3 : Int64)) fun x13 => m_br ((bI x13) = 0)
    (m_ret false)
    (m_ret true))
set_option maxHeartbeats 4000000 in
set_option maxRecDepth 100000 in
theorem slX12_isWay {κ : sm_X} (C : sm_C κ RX12 cX12_isWay 2 2) (v0 : Nat) (v1 : Int32) (hv0 : kd v0 = 12) : sm_S κ (fun r : Bool => .inr (some (.int (bI r)))) (.inl (0, [some (xad κ v0), some (.int v1)], [])) (fnX12_isWay v0 v1) := by
  unfold fnX12_isWay
  refine sr_aload_n (i := 0) (q := 1) C (show decode cX12_isWay 0 = .ok (.aload_n 0, 1) from by decide +kernel) rfl rfl rfl ?_
  refine sr_cVz (As := []) (st := []) (b := v0) (q := 4) C yvX12_isRiver ml_X12_107 (cnX12_isRiver (xo κ) v0 hv0) hv0 (by decide) rfl rfl rfl (by decide) (by decide) (Nat.le_of_ble_eq_true rfl) rfl (show decode cX12_isWay 1 = .ok (.invokevirtual 107, 3) from by decide +kernel) rfl (fun x1 => ?_)
  refine sr_if_eq (q := 7) C 23 (show decode cX12_isWay 4 = .ok (.ifCond .eq 19, 3) from by decide +kernel) (by decide) rfl ?_ ?_
  · refine sr_iconst (v := (0 : Int32)) (q := 24) C (show decode cX12_isWay 23 = .ok (.iconst 0, 1) from by decide +kernel) (by decide) rfl ?_
    exact sr_ireturn C false rfl (show decode cX12_isWay 24 = .ok (.ireturn, 1) from by decide +kernel)
  · refine sr_iload_n (i := 1) (q := 8) C (show decode cX12_isWay 7 = .ok (.iload_n 1, 1) from by decide +kernel) rfl rfl rfl ?_
    refine sr_i2l (q := 9) C (show decode cX12_isWay 8 = .ok (.i2l, 1) from by decide +kernel) rfl ?_
    refine sr_lconst (v := (0 : Int64)) (q := 10) C (show decode cX12_isWay 9 = .ok (.lconst 0, 1) from by decide +kernel) (by decide) rfl ?_
    refine sr_ldc2 (q := 13) C co_X12_308 (show decode cX12_isWay 10 = .ok (.ldc2_w 308, 3) from by decide +kernel) rfl ?_
    refine sr_cSz (As := [.long v1.toInt64, .long (0 : Int64), .long (3 : Int64)]) (st := []) (q := 16) C ysX12_in ml_X12_103 (cnX12_in (xo κ) v1.toInt64 (0 : Int64) (3 : Int64)) rfl (by decide) (by decide) (Nat.le_of_ble_eq_true rfl) rfl (show decode cX12_isWay 13 = .ok (.invokestatic 103, 3) from by decide +kernel) rfl (fun x13 => ?_)
    refine sr_if_eq (q := 19) C 23 (show decode cX12_isWay 16 = .ok (.ifCond .eq 7, 3) from by decide +kernel) (by decide) rfl ?_ ?_
    · refine sr_iconst (v := (0 : Int32)) (q := 24) C (show decode cX12_isWay 23 = .ok (.iconst 0, 1) from by decide +kernel) (by decide) rfl ?_
      exact sr_ireturn C false rfl (show decode cX12_isWay 24 = .ok (.ireturn, 1) from by decide +kernel)
    · refine sr_iconst (v := (1 : Int32)) (q := 20) C (show decode cX12_isWay 19 = .ok (.iconst 1, 1) from by decide +kernel) (by decide) rfl ?_
      refine sr_goto (q := 24) C (show decode cX12_isWay 20 = .ok (.goto 4, 3) from by decide +kernel) (by decide) ?_
      exact sr_ireturn C true rfl (show decode cX12_isWay 24 = .ok (.ireturn, 1) from by decide +kernel)
theorem cnX12_isWay (ω : sm_O) (v0 : Nat) (v1 : Int32) (hv0 : kd v0 = 12) : sm_Mt 2 yX12_isWay cX12_isWay 2 (some .boolean) ω [.ref (ω.1 + v0), .int v1] (fun a => some (.int (bI a))) (fnX12_isWay v0 v1) := by
  refine sm_conI (r := bI) (by decide) bI_nar (Nat.le_of_ble_eq_true rfl) ?_
  intro κ hκ C
  subst hκ
  exact slX12_isWay C v0 v1 hv0
def fnX12_all (v0 : Nat) (v1 : Int32) : sm_M Int32 := m_bnd (fnX12_isWay v0 v1) fun x2 => m_br ((bI x2) = 0)
    (m_ret (-2 : Int32))
    (m_bnd (fnX12_allGoOver v0 v1) fun _ => m_gi v0 22 fun x17 => m_ret x17)
set_option maxHeartbeats 4000000 in
set_option maxRecDepth 100000 in
theorem slX12_all {κ : sm_X} (C : sm_C κ RX12 cX12_all 2 11) (v0 : Nat) (v1 : Int32) (hv0 : kd v0 = 12) : sm_S κ (fun r : Int32 => .inr (some (.int r))) (.inl (0, [some (xad κ v0), some (.int v1)], [])) (fnX12_all v0 v1) := by
  unfold fnX12_all
  refine sr_aload_n (i := 0) (q := 1) C (show decode cX12_all 0 = .ok (.aload_n 0, 1) from by decide +kernel) rfl rfl rfl ?_
  refine sr_iload_n (i := 1) (q := 2) C (show decode cX12_all 1 = .ok (.iload_n 1, 1) from by decide +kernel) rfl rfl rfl ?_
  refine sr_cVz (As := [.int v1]) (st := []) (b := v0) (q := 5) C yvX12_isWay ml_X12_366 (cnX12_isWay (xo κ) v0 v1 hv0) hv0 (by decide) rfl rfl rfl (by decide) (by decide) (Nat.le_of_ble_eq_true rfl) rfl (show decode cX12_all 2 = .ok (.invokevirtual 366, 3) from by decide +kernel) rfl (fun x2 => ?_)
  refine sr_if_ne (q := 8) C 11 (show decode cX12_all 5 = .ok (.ifCond .ne 6, 3) from by decide +kernel) (by decide) rfl ?_ ?_
  · refine sr_aload_n (i := 0) (q := 12) C (show decode cX12_all 11 = .ok (.aload_n 0, 1) from by decide +kernel) rfl rfl rfl ?_
    refine sr_iload_n (i := 1) (q := 13) C (show decode cX12_all 12 = .ok (.iload_n 1, 1) from by decide +kernel) rfl rfl rfl ?_
    refine sr_cVv (As := [.int v1]) (st := []) (b := v0) (q := 16) C yvX12_allGoOver ml_X12_399 (cnX12_allGoOver (xo κ) v0 v1 hv0) hv0 (by decide) rfl rfl rfl (by decide) (by decide) (Nat.le_of_ble_eq_true rfl) rfl (show decode cX12_all 13 = .ok (.invokevirtual 399, 3) from by decide +kernel) rfl (fun _ => ?_)
    refine sr_aload_n (i := 0) (q := 17) C (show decode cX12_all 16 = .ok (.aload_n 0, 1) from by decide +kernel) rfl rfl rfl ?_
    refine sr_geti (q := 20) C fl_X12_372 (Or.inl rfl) hv0 (show decode cX12_all 17 = .ok (.getfield 372, 3) from by decide +kernel) rfl (fun x17 => ?_)
    exact sr_ireturn C _ rfl (show decode cX12_all 20 = .ok (.ireturn, 1) from by decide +kernel)
  · refine sr_bipush (v := (-2 : Int32)) (q := 10) C (show decode cX12_all 8 = .ok (.bipush (-2), 2) from by decide +kernel) (by decide) rfl ?_
    exact sr_ireturn C _ rfl (show decode cX12_all 10 = .ok (.ireturn, 1) from by decide +kernel)
theorem cnX12_all (ω : sm_O) (v0 : Nat) (v1 : Int32) (hv0 : kd v0 = 12) : sm_Mt 11 yX12_all cX12_all 2 (some .int) ω [.ref (ω.1 + v0), .int v1] (fun a => some (.int a)) (fnX12_all v0 v1) := by
  refine sm_conI (r := fun a => a) (by decide) (fun _ => rfl) (Nat.le_of_ble_eq_true rfl) ?_
  intro κ hκ C
  subst hκ
  exact slX12_all C v0 v1 hv0
def fnX12_areNear_J84 (v3 : Int32) (v4 : Int32) (s0 : Int32) : sm_M Bool := m_br ((v3 * v3) < ((s0 * s0) + (v4 * v4)))
    (m_ret false)
    (m_ret true)
set_option maxHeartbeats 4000000 in
set_option maxRecDepth 100000 in
theorem slX12_areNear_J84 {κ : sm_X} (C : sm_C κ RX12 cX12_areNear 6 1) (v3 : Int32) (v4 : Int32) (s0 : Int32)  : sm_S κ (fun r : Bool => .inr (some (.int (bI r)))) (.inl (84, [none, none, none, some (.int v3), some (.int v4), none], [.int s0])) (fnX12_areNear_J84 v3 v4 s0) := by
  unfold fnX12_areNear_J84
  refine sr_istore (i := 5) (L' := [none, none, none, some (.int v3), some (.int v4), some (.int s0)]) (q := 86) C (show decode cX12_areNear 84 = .ok (.istore 5, 2) from by decide +kernel) (by decide) rfl rfl ?_
  refine sr_iload (i := 5) (q := 88) C (show decode cX12_areNear 86 = .ok (.iload 5, 2) from by decide +kernel) rfl rfl ?_
  refine sr_iload (i := 5) (q := 90) C (show decode cX12_areNear 88 = .ok (.iload 5, 2) from by decide +kernel) rfl rfl ?_
  refine sr_imul (q := 91) C (show decode cX12_areNear 90 = .ok (.imul, 1) from by decide +kernel) rfl ?_
  refine sr_iload (i := 4) (q := 93) C (show decode cX12_areNear 91 = .ok (.iload 4, 2) from by decide +kernel) rfl rfl ?_
  refine sr_iload (i := 4) (q := 95) C (show decode cX12_areNear 93 = .ok (.iload 4, 2) from by decide +kernel) rfl rfl ?_
  refine sr_imul (q := 96) C (show decode cX12_areNear 95 = .ok (.imul, 1) from by decide +kernel) rfl ?_
  refine sr_iadd (q := 97) C (show decode cX12_areNear 96 = .ok (.iadd, 1) from by decide +kernel) rfl ?_
  refine sr_iload_n (i := 3) (q := 98) C (show decode cX12_areNear 97 = .ok (.iload_n 3, 1) from by decide +kernel) rfl rfl rfl ?_
  refine sr_iload_n (i := 3) (q := 99) C (show decode cX12_areNear 98 = .ok (.iload_n 3, 1) from by decide +kernel) rfl rfl rfl ?_
  refine sr_imul (q := 100) C (show decode cX12_areNear 99 = .ok (.imul, 1) from by decide +kernel) rfl ?_
  refine sr_icmp_gt (q := 103) C 107 (show decode cX12_areNear 100 = .ok (.if_icmp .gt 7, 3) from by decide +kernel) (by decide) rfl ?_ ?_
  · refine sr_iconst (v := (0 : Int32)) (q := 108) C (show decode cX12_areNear 107 = .ok (.iconst 0, 1) from by decide +kernel) (by decide) rfl ?_
    exact sr_ireturn C false rfl (show decode cX12_areNear 108 = .ok (.ireturn, 1) from by decide +kernel)
  · refine sr_iconst (v := (1 : Int32)) (q := 104) C (show decode cX12_areNear 103 = .ok (.iconst 1, 1) from by decide +kernel) (by decide) rfl ?_
    refine sr_goto (q := 108) C (show decode cX12_areNear 104 = .ok (.goto 4, 3) from by decide +kernel) (by decide) ?_
    exact sr_ireturn C true rfl (show decode cX12_areNear 108 = .ok (.ireturn, 1) from by decide +kernel)
def fnX12_areNear_J67 (v3 : Int32) (v4 : Int32) : sm_M Bool := fnX12_areNear_J84 v3 v4 (0 : Int32)
set_option maxHeartbeats 4000000 in
set_option maxRecDepth 100000 in
theorem slX12_areNear_J67 {κ : sm_X} (C : sm_C κ RX12 cX12_areNear 6 1) (v3 : Int32) (v4 : Int32)  : sm_S κ (fun r : Bool => .inr (some (.int (bI r)))) (.inl (67, [none, none, none, some (.int v3), some (.int v4), none], [])) (fnX12_areNear_J67 v3 v4) := by
  unfold fnX12_areNear_J67
  refine sr_iconst (v := (0 : Int32)) (q := 68) C (show decode cX12_areNear 67 = .ok (.iconst 0, 1) from by decide +kernel) (by decide) rfl ?_
  refine sr_goto (q := 84) C (show decode cX12_areNear 68 = .ok (.goto 16, 3) from by decide +kernel) (by decide) ?_
  exact slX12_areNear_J84 C v3 v4 (0 : Int32)
def fnX12_areNear_J42 (v0 : Nat) (v1 : Int32) (v2 : Int32) (v3 : Int32) : sm_M Bool := m_ai (lk v0 33) v1 fun x47 => m_ai (lk v0 33) v2 fun x53 => m_nm (x47 - x53) fun y55 => m_br (v1 < (2 : Int32))
    (fnX12_areNear_J67 v3 y55)
    (m_br ((2 : Int32) ≤ v2)
    (m_ai (lk v0 32) v1 fun x76 => m_ai (lk v0 32) v2 fun x82 => fnX12_areNear_J84 v3 y55 (x76 - x82))
    (fnX12_areNear_J67 v3 y55))
set_option maxHeartbeats 4000000 in
set_option maxRecDepth 100000 in
theorem slX12_areNear_J42 {κ : sm_X} (C : sm_C κ RX12 cX12_areNear 6 1) (v0 : Nat) (v1 : Int32) (v2 : Int32) (v3 : Int32) (hv0 : kd v0 = 12) : sm_S κ (fun r : Bool => .inr (some (.int (bI r)))) (.inl (42, [some (xad κ v0), some (.int v1), some (.int v2), some (.int v3), none, none], [])) (fnX12_areNear_J42 v0 v1 v2 v3) := by
  unfold fnX12_areNear_J42
  refine sr_aload_n (i := 0) (q := 43) C (show decode cX12_areNear 42 = .ok (.aload_n 0, 1) from by decide +kernel) rfl rfl rfl ?_
  refine sr_getr (q := 46) C fl_X12_61 hv0 (show decode cX12_areNear 43 = .ok (.getfield 61, 3) from by decide +kernel) rfl ?_
  refine sr_iload_n (i := 1) (q := 47) C (show decode cX12_areNear 46 = .ok (.iload_n 1, 1) from by decide +kernel) rfl rfl rfl ?_
  refine sr_iaload (q := 48) C (kt hv0 kp_12_33) (show decode cX12_areNear 47 = .ok (.iaload, 1) from by decide +kernel) rfl (fun x47 => ?_)
  refine sr_aload_n (i := 0) (q := 49) C (show decode cX12_areNear 48 = .ok (.aload_n 0, 1) from by decide +kernel) rfl rfl rfl ?_
  refine sr_getr (q := 52) C fl_X12_61 hv0 (show decode cX12_areNear 49 = .ok (.getfield 61, 3) from by decide +kernel) rfl ?_
  refine sr_iload_n (i := 2) (q := 53) C (show decode cX12_areNear 52 = .ok (.iload_n 2, 1) from by decide +kernel) rfl rfl rfl ?_
  refine sr_iaload (q := 54) C (kt hv0 kp_12_33) (show decode cX12_areNear 53 = .ok (.iaload, 1) from by decide +kernel) rfl (fun x53 => ?_)
  refine sr_isub (q := 55) C (show decode cX12_areNear 54 = .ok (.isub, 1) from by decide +kernel) rfl ?_
  refine sr_nmi (fun y55 => ?_)
  refine sr_istore (i := 4) (L' := [some (xad κ v0), some (.int v1), some (.int v2), some (.int v3), some (.int y55), none]) (q := 57) C (show decode cX12_areNear 55 = .ok (.istore 4, 2) from by decide +kernel) (by decide) rfl rfl ?_
  refine sr_iload_n (i := 1) (q := 58) C (show decode cX12_areNear 57 = .ok (.iload_n 1, 1) from by decide +kernel) rfl rfl rfl ?_
  refine sr_iconst (v := (2 : Int32)) (q := 59) C (show decode cX12_areNear 58 = .ok (.iconst 2, 1) from by decide +kernel) (by decide) rfl ?_
  refine sr_icmp_lt (q := 62) C 67 (show decode cX12_areNear 59 = .ok (.if_icmp .lt 8, 3) from by decide +kernel) (by decide) rfl ?_ ?_
  · refine sr_weak (L' := [none, none, none, some (.int v3), some (.int y55), none]) ⟨rfl, rfl, trivial⟩ ?_
    exact slX12_areNear_J67 C v3 y55
  · refine sr_iload_n (i := 2) (q := 63) C (show decode cX12_areNear 62 = .ok (.iload_n 2, 1) from by decide +kernel) rfl rfl rfl ?_
    refine sr_iconst (v := (2 : Int32)) (q := 64) C (show decode cX12_areNear 63 = .ok (.iconst 2, 1) from by decide +kernel) (by decide) rfl ?_
    refine sr_icmp_ge (q := 67) C 71 (show decode cX12_areNear 64 = .ok (.if_icmp .ge 7, 3) from by decide +kernel) (by decide) rfl ?_ ?_
    · refine sr_aload_n (i := 0) (q := 72) C (show decode cX12_areNear 71 = .ok (.aload_n 0, 1) from by decide +kernel) rfl rfl rfl ?_
      refine sr_getr (q := 75) C fl_X12_58 hv0 (show decode cX12_areNear 72 = .ok (.getfield 58, 3) from by decide +kernel) rfl ?_
      refine sr_iload_n (i := 1) (q := 76) C (show decode cX12_areNear 75 = .ok (.iload_n 1, 1) from by decide +kernel) rfl rfl rfl ?_
      refine sr_iaload (q := 77) C (kt hv0 kp_12_32) (show decode cX12_areNear 76 = .ok (.iaload, 1) from by decide +kernel) rfl (fun x76 => ?_)
      refine sr_aload_n (i := 0) (q := 78) C (show decode cX12_areNear 77 = .ok (.aload_n 0, 1) from by decide +kernel) rfl rfl rfl ?_
      refine sr_getr (q := 81) C fl_X12_58 hv0 (show decode cX12_areNear 78 = .ok (.getfield 58, 3) from by decide +kernel) rfl ?_
      refine sr_iload_n (i := 2) (q := 82) C (show decode cX12_areNear 81 = .ok (.iload_n 2, 1) from by decide +kernel) rfl rfl rfl ?_
      refine sr_iaload (q := 83) C (kt hv0 kp_12_32) (show decode cX12_areNear 82 = .ok (.iaload, 1) from by decide +kernel) rfl (fun x82 => ?_)
      refine sr_isub (q := 84) C (show decode cX12_areNear 83 = .ok (.isub, 1) from by decide +kernel) rfl ?_
      refine sr_weak (L' := [none, none, none, some (.int v3), some (.int y55), none]) ⟨rfl, rfl, trivial⟩ ?_
      exact slX12_areNear_J84 C v3 y55 (x76 - x82)
    · refine sr_weak (L' := [none, none, none, some (.int v3), some (.int y55), none]) ⟨rfl, rfl, trivial⟩ ?_
      exact slX12_areNear_J67 C v3 y55
def fnX12_areNear_J24 (v0 : Nat) (v1 : Int32) (v2 : Int32) (v3 : Int32) : sm_M Bool := m_gi v0 39 fun x25 => m_br (x25 = v2)
    (m_gi v0 40 fun x33 => m_br (x33 = v1)
    (m_ret true)
    (fnX12_areNear_J42 v0 v1 v2 v3))
    (fnX12_areNear_J42 v0 v1 v2 v3)
set_option maxHeartbeats 4000000 in
set_option maxRecDepth 100000 in
theorem slX12_areNear_J24 {κ : sm_X} (C : sm_C κ RX12 cX12_areNear 6 1) (v0 : Nat) (v1 : Int32) (v2 : Int32) (v3 : Int32) (hv0 : kd v0 = 12) : sm_S κ (fun r : Bool => .inr (some (.int (bI r)))) (.inl (24, [some (xad κ v0), some (.int v1), some (.int v2), some (.int v3), none, none], [])) (fnX12_areNear_J24 v0 v1 v2 v3) := by
  unfold fnX12_areNear_J24
  refine sr_aload_n (i := 0) (q := 25) C (show decode cX12_areNear 24 = .ok (.aload_n 0, 1) from by decide +kernel) rfl rfl rfl ?_
  refine sr_geti (q := 28) C fl_X12_76 (Or.inl rfl) hv0 (show decode cX12_areNear 25 = .ok (.getfield 76, 3) from by decide +kernel) rfl (fun x25 => ?_)
  refine sr_iload_n (i := 2) (q := 29) C (show decode cX12_areNear 28 = .ok (.iload_n 2, 1) from by decide +kernel) rfl rfl rfl ?_
  refine sr_icmp_ne (q := 32) C 42 (show decode cX12_areNear 29 = .ok (.if_icmp .ne 13, 3) from by decide +kernel) (by decide) rfl ?_ ?_
  · exact slX12_areNear_J42 C v0 v1 v2 v3 hv0
  · refine sr_aload_n (i := 0) (q := 33) C (show decode cX12_areNear 32 = .ok (.aload_n 0, 1) from by decide +kernel) rfl rfl rfl ?_
    refine sr_geti (q := 36) C fl_X12_79 (Or.inl rfl) hv0 (show decode cX12_areNear 33 = .ok (.getfield 79, 3) from by decide +kernel) rfl (fun x33 => ?_)
    refine sr_iload_n (i := 1) (q := 37) C (show decode cX12_areNear 36 = .ok (.iload_n 1, 1) from by decide +kernel) rfl rfl rfl ?_
    refine sr_icmp_ne (q := 40) C 42 (show decode cX12_areNear 37 = .ok (.if_icmp .ne 5, 3) from by decide +kernel) (by decide) rfl ?_ ?_
    · exact slX12_areNear_J42 C v0 v1 v2 v3 hv0
    · refine sr_iconst (v := (1 : Int32)) (q := 41) C (show decode cX12_areNear 40 = .ok (.iconst 1, 1) from by decide +kernel) (by decide) rfl ?_
      exact sr_ireturn C true rfl (show decode cX12_areNear 41 = .ok (.ireturn, 1) from by decide +kernel)
def fnX12_areNear (v0 : Nat) (v1 : Int32) (v2 : Int32) (v3 : Int32) : sm_M Bool := m_gi v0 39 fun x1 => m_br (x1 = (-1 : Int32))
    (fnX12_areNear_J42 v0 v1 v2 v3)
    (m_gi v0 39 fun x9 => m_br (x9 = v1)
    (m_gi v0 40 fun x17 => m_br (x17 = v2)
    (m_ret true)
    (fnX12_areNear_J24 v0 v1 v2 v3))
    (fnX12_areNear_J24 v0 v1 v2 v3))
set_option maxHeartbeats 4000000 in
set_option maxRecDepth 100000 in
theorem slX12_areNear {κ : sm_X} (C : sm_C κ RX12 cX12_areNear 6 1) (v0 : Nat) (v1 : Int32) (v2 : Int32) (v3 : Int32) (hv0 : kd v0 = 12) : sm_S κ (fun r : Bool => .inr (some (.int (bI r)))) (.inl (0, [some (xad κ v0), some (.int v1), some (.int v2), some (.int v3), none, none], [])) (fnX12_areNear v0 v1 v2 v3) := by
  unfold fnX12_areNear
  refine sr_aload_n (i := 0) (q := 1) C (show decode cX12_areNear 0 = .ok (.aload_n 0, 1) from by decide +kernel) rfl rfl rfl ?_
  refine sr_geti (q := 4) C fl_X12_76 (Or.inl rfl) hv0 (show decode cX12_areNear 1 = .ok (.getfield 76, 3) from by decide +kernel) rfl (fun x1 => ?_)
  refine sr_iconst (v := (-1 : Int32)) (q := 5) C (show decode cX12_areNear 4 = .ok (.iconst (-1), 1) from by decide +kernel) (by decide) rfl ?_
  refine sr_icmp_eq (q := 8) C 42 (show decode cX12_areNear 5 = .ok (.if_icmp .eq 37, 3) from by decide +kernel) (by decide) rfl ?_ ?_
  · exact slX12_areNear_J42 C v0 v1 v2 v3 hv0
  · refine sr_aload_n (i := 0) (q := 9) C (show decode cX12_areNear 8 = .ok (.aload_n 0, 1) from by decide +kernel) rfl rfl rfl ?_
    refine sr_geti (q := 12) C fl_X12_76 (Or.inl rfl) hv0 (show decode cX12_areNear 9 = .ok (.getfield 76, 3) from by decide +kernel) rfl (fun x9 => ?_)
    refine sr_iload_n (i := 1) (q := 13) C (show decode cX12_areNear 12 = .ok (.iload_n 1, 1) from by decide +kernel) rfl rfl rfl ?_
    refine sr_icmp_ne (q := 16) C 24 (show decode cX12_areNear 13 = .ok (.if_icmp .ne 11, 3) from by decide +kernel) (by decide) rfl ?_ ?_
    · exact slX12_areNear_J24 C v0 v1 v2 v3 hv0
    · refine sr_aload_n (i := 0) (q := 17) C (show decode cX12_areNear 16 = .ok (.aload_n 0, 1) from by decide +kernel) rfl rfl rfl ?_
      refine sr_geti (q := 20) C fl_X12_79 (Or.inl rfl) hv0 (show decode cX12_areNear 17 = .ok (.getfield 79, 3) from by decide +kernel) rfl (fun x17 => ?_)
      refine sr_iload_n (i := 2) (q := 21) C (show decode cX12_areNear 20 = .ok (.iload_n 2, 1) from by decide +kernel) rfl rfl rfl ?_
      refine sr_icmp_eq (q := 24) C 40 (show decode cX12_areNear 21 = .ok (.if_icmp .eq 19, 3) from by decide +kernel) (by decide) rfl ?_ ?_
      · refine sr_iconst (v := (1 : Int32)) (q := 41) C (show decode cX12_areNear 40 = .ok (.iconst 1, 1) from by decide +kernel) (by decide) rfl ?_
        exact sr_ireturn C true rfl (show decode cX12_areNear 41 = .ok (.ireturn, 1) from by decide +kernel)
      · exact slX12_areNear_J24 C v0 v1 v2 v3 hv0
theorem cnX12_areNear (ω : sm_O) (v0 : Nat) (v1 : Int32) (v2 : Int32) (v3 : Int32) (hv0 : kd v0 = 12) : sm_Mt 1 yX12_areNear cX12_areNear 6 (some .boolean) ω [.ref (ω.1 + v0), .int v1, .int v2, .int v3] (fun a => some (.int (bI a))) (fnX12_areNear v0 v1 v2 v3) := by
  refine sm_conI (r := bI) (by decide) bI_nar (Nat.le_of_ble_eq_true rfl) ?_
  intro κ hκ C
  subst hκ
  exact slX12_areNear C v0 v1 v2 v3 hv0
def fnX12_areStones_L2 : Nat → Nat → Int32 → Int32 → sm_M Bool
  | 0, _, _, _ => m_fail
  | n + 1, v0, v1, v2 => m_ai (lk v0 43) v1 fun x8 => m_br (x8 ≤ v2)
    (m_ret true)
    (m_al (lk v0 45) (((60 : Int32) * v1) + v2) fun x22 => m_ai (lk v0 1) (3 : Int32) fun x29 => m_bnd (fnX12_in x22 (0 : Int64) ((x29 - (1 : Int32)).toInt64)) fun x33 => m_br ((bI x33) = 0)
    (m_ret false)
    ((fnX12_areStones_L2 n) v0 v1 (v2 + (1 : Int32))))
set_option maxHeartbeats 4000000 in
set_option maxRecDepth 100000 in
theorem slX12_areStones_L2 {κ : sm_X} (C : sm_C κ RX12 cX12_areStones 3 2) : ∀ (n : Nat) (v0 : Nat) (v1 : Int32) (v2 : Int32) (hv0 : kd v0 = 12), sm_S κ (fun r : Bool => .inr (some (.int (bI r)))) (.inl (2, [some (xad κ v0), some (.int v1), some (.int v2)], [])) (fnX12_areStones_L2 n v0 v1 v2) := by
  intro n
  induction n with
  | zero =>
    intros
    exact sr_fail
  | succ n K2 =>
    intro v0 v1 v2 hv0
    unfold fnX12_areStones_L2
    refine sr_iload_n (i := 2) (q := 3) C (show decode cX12_areStones 2 = .ok (.iload_n 2, 1) from by decide +kernel) rfl rfl rfl ?_
    refine sr_aload_n (i := 0) (q := 4) C (show decode cX12_areStones 3 = .ok (.aload_n 0, 1) from by decide +kernel) rfl rfl rfl ?_
    refine sr_getr (q := 7) C fl_X12_86 hv0 (show decode cX12_areStones 4 = .ok (.getfield 86, 3) from by decide +kernel) rfl ?_
    refine sr_iload_n (i := 1) (q := 8) C (show decode cX12_areStones 7 = .ok (.iload_n 1, 1) from by decide +kernel) rfl rfl rfl ?_
    refine sr_iaload (q := 9) C (kt hv0 kp_12_43) (show decode cX12_areStones 8 = .ok (.iaload, 1) from by decide +kernel) rfl (fun x8 => ?_)
    refine sr_icmp_ge (q := 12) C 47 (show decode cX12_areStones 9 = .ok (.if_icmp .ge 38, 3) from by decide +kernel) (by decide) rfl ?_ ?_
    · refine sr_iconst (v := (1 : Int32)) (q := 48) C (show decode cX12_areStones 47 = .ok (.iconst 1, 1) from by decide +kernel) (by decide) rfl ?_
      exact sr_ireturn C true rfl (show decode cX12_areStones 48 = .ok (.ireturn, 1) from by decide +kernel)
    · refine sr_aload_n (i := 0) (q := 13) C (show decode cX12_areStones 12 = .ok (.aload_n 0, 1) from by decide +kernel) rfl rfl rfl ?_
      refine sr_getr (q := 16) C fl_X12_92 hv0 (show decode cX12_areStones 13 = .ok (.getfield 92, 3) from by decide +kernel) rfl ?_
      refine sr_bipush (v := (60 : Int32)) (q := 18) C (show decode cX12_areStones 16 = .ok (.bipush 60, 2) from by decide +kernel) (by decide) rfl ?_
      refine sr_iload_n (i := 1) (q := 19) C (show decode cX12_areStones 18 = .ok (.iload_n 1, 1) from by decide +kernel) rfl rfl rfl ?_
      refine sr_imul (q := 20) C (show decode cX12_areStones 19 = .ok (.imul, 1) from by decide +kernel) rfl ?_
      refine sr_iload_n (i := 2) (q := 21) C (show decode cX12_areStones 20 = .ok (.iload_n 2, 1) from by decide +kernel) rfl rfl rfl ?_
      refine sr_iadd (q := 22) C (show decode cX12_areStones 21 = .ok (.iadd, 1) from by decide +kernel) rfl ?_
      refine sr_laload (q := 23) C (kt hv0 kp_12_45) (show decode cX12_areStones 22 = .ok (.laload, 1) from by decide +kernel) rfl (fun x22 => ?_)
      refine sr_lconst (v := (0 : Int64)) (q := 24) C (show decode cX12_areStones 23 = .ok (.lconst 0, 1) from by decide +kernel) (by decide) rfl ?_
      refine sr_aload_n (i := 0) (q := 25) C (show decode cX12_areStones 24 = .ok (.aload_n 0, 1) from by decide +kernel) rfl rfl rfl ?_
      refine sr_getr (q := 28) C fl_X12_9 hv0 (show decode cX12_areStones 25 = .ok (.getfield 9, 3) from by decide +kernel) rfl ?_
      refine sr_iconst (v := (3 : Int32)) (q := 29) C (show decode cX12_areStones 28 = .ok (.iconst 3, 1) from by decide +kernel) (by decide) rfl ?_
      refine sr_iaload (q := 30) C (kt hv0 kp_12_1) (show decode cX12_areStones 29 = .ok (.iaload, 1) from by decide +kernel) rfl (fun x29 => ?_)
      refine sr_iconst (v := (1 : Int32)) (q := 31) C (show decode cX12_areStones 30 = .ok (.iconst 1, 1) from by decide +kernel) (by decide) rfl ?_
      refine sr_isub (q := 32) C (show decode cX12_areStones 31 = .ok (.isub, 1) from by decide +kernel) rfl ?_
      refine sr_i2l (q := 33) C (show decode cX12_areStones 32 = .ok (.i2l, 1) from by decide +kernel) rfl ?_
      refine sr_cSz (As := [.long x22, .long (0 : Int64), .long ((x29 - (1 : Int32)).toInt64)]) (st := []) (q := 36) C ysX12_in ml_X12_103 (cnX12_in (xo κ) x22 (0 : Int64) ((x29 - (1 : Int32)).toInt64)) rfl (by decide) (by decide) (Nat.le_of_ble_eq_true rfl) rfl (show decode cX12_areStones 33 = .ok (.invokestatic 103, 3) from by decide +kernel) rfl (fun x33 => ?_)
      refine sr_if_ne (q := 39) C 41 (show decode cX12_areStones 36 = .ok (.ifCond .ne 5, 3) from by decide +kernel) (by decide) rfl ?_ ?_
      · refine sr_iinc (v := v2 + (1 : Int32)) (L' := [some (xad κ v0), some (.int v1), some (.int (v2 + (1 : Int32)))]) (q := 44) C (show decode cX12_areStones 41 = .ok (.iinc 2 1, 3) from by decide +kernel) rfl rfl (by decide) rfl rfl ?_
        refine sr_goto (q := 2) C (show decode cX12_areStones 44 = .ok (.goto (-42), 3) from by decide +kernel) (by decide) ?_
        exact K2 v0 v1 (v2 + (1 : Int32)) hv0
      · refine sr_iconst (v := (0 : Int32)) (q := 40) C (show decode cX12_areStones 39 = .ok (.iconst 0, 1) from by decide +kernel) (by decide) rfl ?_
        exact sr_ireturn C false rfl (show decode cX12_areStones 40 = .ok (.ireturn, 1) from by decide +kernel)
def fnX12_areStones (v0 : Nat) (v1 : Int32) : sm_M Bool := fnX12_areStones_L2 4096 v0 v1 (0 : Int32)
set_option maxHeartbeats 4000000 in
set_option maxRecDepth 100000 in
theorem slX12_areStones {κ : sm_X} (C : sm_C κ RX12 cX12_areStones 3 2) (v0 : Nat) (v1 : Int32) (hv0 : kd v0 = 12) : sm_S κ (fun r : Bool => .inr (some (.int (bI r)))) (.inl (0, [some (xad κ v0), some (.int v1), none], [])) (fnX12_areStones v0 v1) := by
  unfold fnX12_areStones
  refine sr_iconst (v := (0 : Int32)) (q := 1) C (show decode cX12_areStones 0 = .ok (.iconst 0, 1) from by decide +kernel) (by decide) rfl ?_
  refine sr_istore_n (i := 2) (L' := [some (xad κ v0), some (.int v1), some (.int (0 : Int32))]) (q := 2) C (show decode cX12_areStones 1 = .ok (.istore_n 2, 1) from by decide +kernel) rfl (by decide) rfl rfl ?_
  exact slX12_areStones_L2 C 4096 v0 v1 (0 : Int32) hv0
theorem cnX12_areStones (ω : sm_O) (v0 : Nat) (v1 : Int32) (hv0 : kd v0 = 12) : sm_Mt 2 yX12_areStones cX12_areStones 3 (some .boolean) ω [.ref (ω.1 + v0), .int v1] (fun a => some (.int (bI a))) (fnX12_areStones v0 v1) := by
  refine sm_conI (r := bI) (by decide) bI_nar (Nat.le_of_ble_eq_true rfl) ?_
  intro κ hκ C
  subst hκ
  exact slX12_areStones C v0 v1 hv0
