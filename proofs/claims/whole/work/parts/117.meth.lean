def fnX12_best_J52 (k16 : Nat → Int32 → Int32 → Int32 → sm_M Int32) (v0 : Nat) (v1 : Int32) (v2 : Int32) (v3 : Int32) : sm_M Int32 := k16 v0 v1 v2 (v3 + (1 : Int32))
set_option maxHeartbeats 4000000 in
set_option maxRecDepth 100000 in
theorem slX12_best_J52 {κ : sm_X} (C : sm_C κ RX12 cX12_best 4 11) {k16 : Nat → Int32 → Int32 → Int32 → sm_M Int32} (K16 : ∀ (v0 : Nat) (v1 : Int32) (v2 : Int32) (v3 : Int32) (hv0 : kd v0 = 12), sm_S κ (fun r : Int32 => .inr (some (.int r))) (.inl (16, [some (xad κ v0), some (.int v1), some (.int v2), some (.int v3)], [])) (k16 v0 v1 v2 v3)) (v0 : Nat) (v1 : Int32) (v2 : Int32) (v3 : Int32) (hv0 : kd v0 = 12) : sm_S κ (fun r : Int32 => .inr (some (.int r))) (.inl (52, [some (xad κ v0), some (.int v1), some (.int v2), some (.int v3)], [])) (fnX12_best_J52 k16 v0 v1 v2 v3) := by
  unfold fnX12_best_J52
  refine sr_iinc (v := v3 + (1 : Int32)) (L' := [some (xad κ v0), some (.int v1), some (.int v2), some (.int (v3 + (1 : Int32)))]) (q := 55) C (show decode cX12_best 52 = .ok (.iinc 3 1, 3) from by decide +kernel) rfl rfl (by decide) rfl rfl ?_
  refine sr_goto (q := 16) C (show decode cX12_best 55 = .ok (.goto (-39), 3) from by decide +kernel) (by decide) ?_
  exact K16 v0 v1 v2 (v3 + (1 : Int32)) hv0
def fnX12_best_L16 : Nat → Nat → Int32 → Int32 → Int32 → sm_M Int32
  | 0, _, _, _, _ => m_fail
  | n + 1, v0, v1, v2, v3 => m_br ((4 : Int32) ≤ v3)
    (m_ret v1)
    (m_bnd (fnX12_thinks v0) fun _ => m_bnd (fnX12_allGoOver v0 v3) fun _ => m_bnd (fnX12_wakes v0) fun _ => m_gi v0 23 fun x35 => m_br (v2 < x35)
    (m_gi v0 23 fun x48 => fnX12_best_J52 (fnX12_best_L16 n) v0 v3 x48 v3)
    (fnX12_best_J52 (fnX12_best_L16 n) v0 v1 v2 v3))
set_option maxHeartbeats 4000000 in
set_option maxRecDepth 100000 in
theorem slX12_best_L16 {κ : sm_X} (C : sm_C κ RX12 cX12_best 4 11) : ∀ (n : Nat) (v0 : Nat) (v1 : Int32) (v2 : Int32) (v3 : Int32) (hv0 : kd v0 = 12), sm_S κ (fun r : Int32 => .inr (some (.int r))) (.inl (16, [some (xad κ v0), some (.int v1), some (.int v2), some (.int v3)], [])) (fnX12_best_L16 n v0 v1 v2 v3) := by
  intro n
  induction n with
  | zero =>
    intros
    exact sr_fail
  | succ n K16 =>
    intro v0 v1 v2 v3 hv0
    unfold fnX12_best_L16
    refine sr_iload_n (i := 3) (q := 17) C (show decode cX12_best 16 = .ok (.iload_n 3, 1) from by decide +kernel) rfl rfl rfl ?_
    refine sr_iconst (v := (4 : Int32)) (q := 18) C (show decode cX12_best 17 = .ok (.iconst 4, 1) from by decide +kernel) (by decide) rfl ?_
    refine sr_icmp_ge (q := 21) C 58 (show decode cX12_best 18 = .ok (.if_icmp .ge 40, 3) from by decide +kernel) (by decide) rfl ?_ ?_
    · refine sr_iload_n (i := 1) (q := 59) C (show decode cX12_best 58 = .ok (.iload_n 1, 1) from by decide +kernel) rfl rfl rfl ?_
      exact sr_ireturn C _ rfl (show decode cX12_best 59 = .ok (.ireturn, 1) from by decide +kernel)
    · refine sr_aload_n (i := 0) (q := 22) C (show decode cX12_best 21 = .ok (.aload_n 0, 1) from by decide +kernel) rfl rfl rfl ?_
      refine sr_cVv (As := []) (st := []) (b := v0) (q := 25) C yvX12_thinks ml_X12_339 (cnX12_thinks (xo κ) v0 hv0) hv0 (by decide) rfl rfl rfl (by decide) (by decide) (Nat.le_of_ble_eq_true rfl) rfl (show decode cX12_best 22 = .ok (.invokevirtual 339, 3) from by decide +kernel) rfl (fun _ => ?_)
      refine sr_aload_n (i := 0) (q := 26) C (show decode cX12_best 25 = .ok (.aload_n 0, 1) from by decide +kernel) rfl rfl rfl ?_
      refine sr_iload_n (i := 3) (q := 27) C (show decode cX12_best 26 = .ok (.iload_n 3, 1) from by decide +kernel) rfl rfl rfl ?_
      refine sr_cVv (As := [.int v3]) (st := []) (b := v0) (q := 30) C yvX12_allGoOver ml_X12_399 (cnX12_allGoOver (xo κ) v0 v3 hv0) hv0 (by decide) rfl rfl rfl (by decide) (by decide) (Nat.le_of_ble_eq_true rfl) rfl (show decode cX12_best 27 = .ok (.invokevirtual 399, 3) from by decide +kernel) rfl (fun _ => ?_)
      refine sr_aload_n (i := 0) (q := 31) C (show decode cX12_best 30 = .ok (.aload_n 0, 1) from by decide +kernel) rfl rfl rfl ?_
      refine sr_cVv (As := []) (st := []) (b := v0) (q := 34) C yvX12_wakes ml_X12_345 (cnX12_wakes (xo κ) v0 hv0) hv0 (by decide) rfl rfl rfl (by decide) (by decide) (Nat.le_of_ble_eq_true rfl) rfl (show decode cX12_best 31 = .ok (.invokevirtual 345, 3) from by decide +kernel) rfl (fun _ => ?_)
      refine sr_aload_n (i := 0) (q := 35) C (show decode cX12_best 34 = .ok (.aload_n 0, 1) from by decide +kernel) rfl rfl rfl ?_
      refine sr_geti (q := 38) C fl_X12_375 (Or.inl rfl) hv0 (show decode cX12_best 35 = .ok (.getfield 375, 3) from by decide +kernel) rfl (fun x35 => ?_)
      refine sr_iload_n (i := 2) (q := 39) C (show decode cX12_best 38 = .ok (.iload_n 2, 1) from by decide +kernel) rfl rfl rfl ?_
      refine sr_icmp_gt (q := 42) C 45 (show decode cX12_best 39 = .ok (.if_icmp .gt 6, 3) from by decide +kernel) (by decide) rfl ?_ ?_
      · refine sr_iload_n (i := 3) (q := 46) C (show decode cX12_best 45 = .ok (.iload_n 3, 1) from by decide +kernel) rfl rfl rfl ?_
        refine sr_istore_n (i := 1) (L' := [some (xad κ v0), some (.int v3), some (.int v2), some (.int v3)]) (q := 47) C (show decode cX12_best 46 = .ok (.istore_n 1, 1) from by decide +kernel) rfl (by decide) rfl rfl ?_
        refine sr_aload_n (i := 0) (q := 48) C (show decode cX12_best 47 = .ok (.aload_n 0, 1) from by decide +kernel) rfl rfl rfl ?_
        refine sr_geti (q := 51) C fl_X12_375 (Or.inl rfl) hv0 (show decode cX12_best 48 = .ok (.getfield 375, 3) from by decide +kernel) rfl (fun x48 => ?_)
        refine sr_istore_n (i := 2) (L' := [some (xad κ v0), some (.int v3), some (.int x48), some (.int v3)]) (q := 52) C (show decode cX12_best 51 = .ok (.istore_n 2, 1) from by decide +kernel) rfl (by decide) rfl rfl ?_
        exact slX12_best_J52 C K16 v0 v3 x48 v3 hv0
      · refine sr_goto (q := 52) C (show decode cX12_best 42 = .ok (.goto 10, 3) from by decide +kernel) (by decide) ?_
        exact slX12_best_J52 C K16 v0 v1 v2 v3 hv0
def fnX12_best (v0 : Nat) : sm_M Int32 := m_bnd (fnX12_isRiver v0) fun x1 => m_br ((bI x1) = 0)
    (m_ret (-2 : Int32))
    (fnX12_best_L16 4096 v0 (0 : Int32) (-1 : Int32) (0 : Int32))
set_option maxHeartbeats 4000000 in
set_option maxRecDepth 100000 in
theorem slX12_best {κ : sm_X} (C : sm_C κ RX12 cX12_best 4 11) (v0 : Nat) (hv0 : kd v0 = 12) : sm_S κ (fun r : Int32 => .inr (some (.int r))) (.inl (0, [some (xad κ v0), none, none, none], [])) (fnX12_best v0) := by
  unfold fnX12_best
  refine sr_aload_n (i := 0) (q := 1) C (show decode cX12_best 0 = .ok (.aload_n 0, 1) from by decide +kernel) rfl rfl rfl ?_
  refine sr_cVz (As := []) (st := []) (b := v0) (q := 4) C yvX12_isRiver ml_X12_107 (cnX12_isRiver (xo κ) v0 hv0) hv0 (by decide) rfl rfl rfl (by decide) (by decide) (Nat.le_of_ble_eq_true rfl) rfl (show decode cX12_best 1 = .ok (.invokevirtual 107, 3) from by decide +kernel) rfl (fun x1 => ?_)
  refine sr_if_ne (q := 7) C 10 (show decode cX12_best 4 = .ok (.ifCond .ne 6, 3) from by decide +kernel) (by decide) rfl ?_ ?_
  · refine sr_iconst (v := (0 : Int32)) (q := 11) C (show decode cX12_best 10 = .ok (.iconst 0, 1) from by decide +kernel) (by decide) rfl ?_
    refine sr_istore_n (i := 1) (L' := [some (xad κ v0), some (.int (0 : Int32)), none, none]) (q := 12) C (show decode cX12_best 11 = .ok (.istore_n 1, 1) from by decide +kernel) rfl (by decide) rfl rfl ?_
    refine sr_iconst (v := (-1 : Int32)) (q := 13) C (show decode cX12_best 12 = .ok (.iconst (-1), 1) from by decide +kernel) (by decide) rfl ?_
    refine sr_istore_n (i := 2) (L' := [some (xad κ v0), some (.int (0 : Int32)), some (.int (-1 : Int32)), none]) (q := 14) C (show decode cX12_best 13 = .ok (.istore_n 2, 1) from by decide +kernel) rfl (by decide) rfl rfl ?_
    refine sr_iconst (v := (0 : Int32)) (q := 15) C (show decode cX12_best 14 = .ok (.iconst 0, 1) from by decide +kernel) (by decide) rfl ?_
    refine sr_istore_n (i := 3) (L' := [some (xad κ v0), some (.int (0 : Int32)), some (.int (-1 : Int32)), some (.int (0 : Int32))]) (q := 16) C (show decode cX12_best 15 = .ok (.istore_n 3, 1) from by decide +kernel) rfl (by decide) rfl rfl ?_
    exact slX12_best_L16 C 4096 v0 (0 : Int32) (-1 : Int32) (0 : Int32) hv0
  · refine sr_bipush (v := (-2 : Int32)) (q := 9) C (show decode cX12_best 7 = .ok (.bipush (-2), 2) from by decide +kernel) (by decide) rfl ?_
    exact sr_ireturn C _ rfl (show decode cX12_best 9 = .ok (.ireturn, 1) from by decide +kernel)
theorem cnX12_best (ω : sm_O) (v0 : Nat) (hv0 : kd v0 = 12) : sm_Mt 11 yX12_best cX12_best 4 (some .int) ω [.ref (ω.1 + v0)] (fun a => some (.int a)) (fnX12_best v0) := by
  refine sm_conI (r := fun a => a) (by decide) (fun _ => rfl) (Nat.le_of_ble_eq_true rfl) ?_
  intro κ hκ C
  subst hκ
  exact slX12_best C v0 hv0
def fnX12_borneAll_L4 : Nat → Nat → Int32 → Int32 → sm_M Int32
  | 0, _, _, _ => m_fail
  | n + 1, v0, v1, v2 => m_ai (lk v0 1) (3 : Int32) fun x10 => m_br (x10 ≤ v2)
    (m_ret v1)
    (m_bnd (fnX12_ofStone v0 v2 (6 : Int32)) fun x19 => m_nm (v1 + x19) fun y23 => (fnX12_borneAll_L4 n) v0 y23 (v2 + (1 : Int32)))
set_option maxHeartbeats 4000000 in
set_option maxRecDepth 100000 in
theorem slX12_borneAll_L4 {κ : sm_X} (C : sm_C κ RX12 cX12_borneAll 3 2) : ∀ (n : Nat) (v0 : Nat) (v1 : Int32) (v2 : Int32) (hv0 : kd v0 = 12), sm_S κ (fun r : Int32 => .inr (some (.int r))) (.inl (4, [some (xad κ v0), some (.int v1), some (.int v2)], [])) (fnX12_borneAll_L4 n v0 v1 v2) := by
  intro n
  induction n with
  | zero =>
    intros
    exact sr_fail
  | succ n K4 =>
    intro v0 v1 v2 hv0
    unfold fnX12_borneAll_L4
    refine sr_iload_n (i := 2) (q := 5) C (show decode cX12_borneAll 4 = .ok (.iload_n 2, 1) from by decide +kernel) rfl rfl rfl ?_
    refine sr_aload_n (i := 0) (q := 6) C (show decode cX12_borneAll 5 = .ok (.aload_n 0, 1) from by decide +kernel) rfl rfl rfl ?_
    refine sr_getr (q := 9) C fl_X12_9 hv0 (show decode cX12_borneAll 6 = .ok (.getfield 9, 3) from by decide +kernel) rfl ?_
    refine sr_iconst (v := (3 : Int32)) (q := 10) C (show decode cX12_borneAll 9 = .ok (.iconst 3, 1) from by decide +kernel) (by decide) rfl ?_
    refine sr_iaload (q := 11) C (kt hv0 kp_12_1) (show decode cX12_borneAll 10 = .ok (.iaload, 1) from by decide +kernel) rfl (fun x10 => ?_)
    refine sr_icmp_ge (q := 14) C 30 (show decode cX12_borneAll 11 = .ok (.if_icmp .ge 19, 3) from by decide +kernel) (by decide) rfl ?_ ?_
    · refine sr_iload_n (i := 1) (q := 31) C (show decode cX12_borneAll 30 = .ok (.iload_n 1, 1) from by decide +kernel) rfl rfl rfl ?_
      exact sr_ireturn C _ rfl (show decode cX12_borneAll 31 = .ok (.ireturn, 1) from by decide +kernel)
    · refine sr_iload_n (i := 1) (q := 15) C (show decode cX12_borneAll 14 = .ok (.iload_n 1, 1) from by decide +kernel) rfl rfl rfl ?_
      refine sr_aload_n (i := 0) (q := 16) C (show decode cX12_borneAll 15 = .ok (.aload_n 0, 1) from by decide +kernel) rfl rfl rfl ?_
      refine sr_iload_n (i := 2) (q := 17) C (show decode cX12_borneAll 16 = .ok (.iload_n 2, 1) from by decide +kernel) rfl rfl rfl ?_
      refine sr_bipush (v := (6 : Int32)) (q := 19) C (show decode cX12_borneAll 17 = .ok (.bipush 6, 2) from by decide +kernel) (by decide) rfl ?_
      refine sr_cVi (As := [.int v2, .int (6 : Int32)]) (st := [.int v1]) (b := v0) (q := 22) C yvX12_ofStone ml_X12_239 (cnX12_ofStone (xo κ) v0 v2 (6 : Int32) hv0) hv0 (by decide) rfl rfl rfl (by decide) (by decide) (Nat.le_of_ble_eq_true rfl) rfl (show decode cX12_borneAll 19 = .ok (.invokevirtual 239, 3) from by decide +kernel) rfl (fun x19 => ?_)
      refine sr_iadd (q := 23) C (show decode cX12_borneAll 22 = .ok (.iadd, 1) from by decide +kernel) rfl ?_
      refine sr_nmi (fun y23 => ?_)
      refine sr_istore_n (i := 1) (L' := [some (xad κ v0), some (.int y23), some (.int v2)]) (q := 24) C (show decode cX12_borneAll 23 = .ok (.istore_n 1, 1) from by decide +kernel) rfl (by decide) rfl rfl ?_
      refine sr_iinc (v := v2 + (1 : Int32)) (L' := [some (xad κ v0), some (.int y23), some (.int (v2 + (1 : Int32)))]) (q := 27) C (show decode cX12_borneAll 24 = .ok (.iinc 2 1, 3) from by decide +kernel) rfl rfl (by decide) rfl rfl ?_
      refine sr_goto (q := 4) C (show decode cX12_borneAll 27 = .ok (.goto (-23), 3) from by decide +kernel) (by decide) ?_
      exact K4 v0 y23 (v2 + (1 : Int32)) hv0
def fnX12_borneAll (v0 : Nat) : sm_M Int32 := fnX12_borneAll_L4 4096 v0 (0 : Int32) (0 : Int32)
set_option maxHeartbeats 4000000 in
set_option maxRecDepth 100000 in
theorem slX12_borneAll {κ : sm_X} (C : sm_C κ RX12 cX12_borneAll 3 2) (v0 : Nat) (hv0 : kd v0 = 12) : sm_S κ (fun r : Int32 => .inr (some (.int r))) (.inl (0, [some (xad κ v0), none, none], [])) (fnX12_borneAll v0) := by
  unfold fnX12_borneAll
  refine sr_iconst (v := (0 : Int32)) (q := 1) C (show decode cX12_borneAll 0 = .ok (.iconst 0, 1) from by decide +kernel) (by decide) rfl ?_
  refine sr_istore_n (i := 1) (L' := [some (xad κ v0), some (.int (0 : Int32)), none]) (q := 2) C (show decode cX12_borneAll 1 = .ok (.istore_n 1, 1) from by decide +kernel) rfl (by decide) rfl rfl ?_
  refine sr_iconst (v := (0 : Int32)) (q := 3) C (show decode cX12_borneAll 2 = .ok (.iconst 0, 1) from by decide +kernel) (by decide) rfl ?_
  refine sr_istore_n (i := 2) (L' := [some (xad κ v0), some (.int (0 : Int32)), some (.int (0 : Int32))]) (q := 4) C (show decode cX12_borneAll 3 = .ok (.istore_n 2, 1) from by decide +kernel) rfl (by decide) rfl rfl ?_
  exact slX12_borneAll_L4 C 4096 v0 (0 : Int32) (0 : Int32) hv0
theorem cnX12_borneAll (ω : sm_O) (v0 : Nat) (hv0 : kd v0 = 12) : sm_Mt 2 yX12_borneAll cX12_borneAll 3 (some .int) ω [.ref (ω.1 + v0)] (fun a => some (.int a)) (fnX12_borneAll v0) := by
  refine sm_conI (r := fun a => a) (by decide) (fun _ => rfl) (Nat.le_of_ble_eq_true rfl) ?_
  intro κ hκ C
  subst hκ
  exact slX12_borneAll C v0 hv0
def fnX12_isInDoubt (v0 : Nat) (v1 : Int32) : sm_M Bool := m_bnd (fnX12_ofStone v0 v1 (4 : Int32)) fun x3 => m_br (x3 ≤ 0)
    (m_ret false)
    (m_bnd (fnX12_ofStone v0 v1 (5 : Int32)) fun x12 => m_br (x12 = 0)
    (m_ret true)
    (m_ret false))
set_option maxHeartbeats 4000000 in
set_option maxRecDepth 100000 in
theorem slX12_isInDoubt {κ : sm_X} (C : sm_C κ RX12 cX12_isInDoubt 2 2) (v0 : Nat) (v1 : Int32) (hv0 : kd v0 = 12) : sm_S κ (fun r : Bool => .inr (some (.int (bI r)))) (.inl (0, [some (xad κ v0), some (.int v1)], [])) (fnX12_isInDoubt v0 v1) := by
  unfold fnX12_isInDoubt
  refine sr_aload_n (i := 0) (q := 1) C (show decode cX12_isInDoubt 0 = .ok (.aload_n 0, 1) from by decide +kernel) rfl rfl rfl ?_
  refine sr_iload_n (i := 1) (q := 2) C (show decode cX12_isInDoubt 1 = .ok (.iload_n 1, 1) from by decide +kernel) rfl rfl rfl ?_
  refine sr_iconst (v := (4 : Int32)) (q := 3) C (show decode cX12_isInDoubt 2 = .ok (.iconst 4, 1) from by decide +kernel) (by decide) rfl ?_
  refine sr_cVi (As := [.int v1, .int (4 : Int32)]) (st := []) (b := v0) (q := 6) C yvX12_ofStone ml_X12_239 (cnX12_ofStone (xo κ) v0 v1 (4 : Int32) hv0) hv0 (by decide) rfl rfl rfl (by decide) (by decide) (Nat.le_of_ble_eq_true rfl) rfl (show decode cX12_isInDoubt 3 = .ok (.invokevirtual 239, 3) from by decide +kernel) rfl (fun x3 => ?_)
  refine sr_if_le (q := 9) C 22 (show decode cX12_isInDoubt 6 = .ok (.ifCond .le 16, 3) from by decide +kernel) (by decide) rfl ?_ ?_
  · refine sr_iconst (v := (0 : Int32)) (q := 23) C (show decode cX12_isInDoubt 22 = .ok (.iconst 0, 1) from by decide +kernel) (by decide) rfl ?_
    exact sr_ireturn C false rfl (show decode cX12_isInDoubt 23 = .ok (.ireturn, 1) from by decide +kernel)
  · refine sr_aload_n (i := 0) (q := 10) C (show decode cX12_isInDoubt 9 = .ok (.aload_n 0, 1) from by decide +kernel) rfl rfl rfl ?_
    refine sr_iload_n (i := 1) (q := 11) C (show decode cX12_isInDoubt 10 = .ok (.iload_n 1, 1) from by decide +kernel) rfl rfl rfl ?_
    refine sr_iconst (v := (5 : Int32)) (q := 12) C (show decode cX12_isInDoubt 11 = .ok (.iconst 5, 1) from by decide +kernel) (by decide) rfl ?_
    refine sr_cVi (As := [.int v1, .int (5 : Int32)]) (st := []) (b := v0) (q := 15) C yvX12_ofStone ml_X12_239 (cnX12_ofStone (xo κ) v0 v1 (5 : Int32) hv0) hv0 (by decide) rfl rfl rfl (by decide) (by decide) (Nat.le_of_ble_eq_true rfl) rfl (show decode cX12_isInDoubt 12 = .ok (.invokevirtual 239, 3) from by decide +kernel) rfl (fun x12 => ?_)
    refine sr_if_ne (q := 18) C 22 (show decode cX12_isInDoubt 15 = .ok (.ifCond .ne 7, 3) from by decide +kernel) (by decide) rfl ?_ ?_
    · refine sr_iconst (v := (0 : Int32)) (q := 23) C (show decode cX12_isInDoubt 22 = .ok (.iconst 0, 1) from by decide +kernel) (by decide) rfl ?_
      exact sr_ireturn C false rfl (show decode cX12_isInDoubt 23 = .ok (.ireturn, 1) from by decide +kernel)
    · refine sr_iconst (v := (1 : Int32)) (q := 19) C (show decode cX12_isInDoubt 18 = .ok (.iconst 1, 1) from by decide +kernel) (by decide) rfl ?_
      refine sr_goto (q := 23) C (show decode cX12_isInDoubt 19 = .ok (.goto 4, 3) from by decide +kernel) (by decide) ?_
      exact sr_ireturn C true rfl (show decode cX12_isInDoubt 23 = .ok (.ireturn, 1) from by decide +kernel)
theorem cnX12_isInDoubt (ω : sm_O) (v0 : Nat) (v1 : Int32) (hv0 : kd v0 = 12) : sm_Mt 2 yX12_isInDoubt cX12_isInDoubt 2 (some .boolean) ω [.ref (ω.1 + v0), .int v1] (fun a => some (.int (bI a))) (fnX12_isInDoubt v0 v1) := by
  refine sm_conI (r := bI) (by decide) bI_nar (Nat.le_of_ble_eq_true rfl) ?_
  intro κ hκ C
  subst hκ
  exact slX12_isInDoubt C v0 v1 hv0
def fnX12_count_J154 (k128 : Nat → Int32 → Int32 → sm_M Int32) (v0 : Nat) (v3 : Int32) (s0 : Int32) (s1 : Int32) : sm_M Int32 := m_nm (s1 ||| s0) fun y155 => k128 v0 y155 (v3 + (1 : Int32))
set_option maxHeartbeats 4000000 in
set_option maxRecDepth 100000 in
theorem slX12_count_J154 {κ : sm_X} (C : sm_C κ RX12 cX12_count 4 3) {k128 : Nat → Int32 → Int32 → sm_M Int32} (K128 : ∀ (v0 : Nat) (v2 : Int32) (v3 : Int32) (hv0 : kd v0 = 12), sm_S κ (fun r : Int32 => .inr (some (.int r))) (.inl (128, [some (xad κ v0), none, some (.int v2), some (.int v3)], [])) (k128 v0 v2 v3)) (v0 : Nat) (v3 : Int32) (s0 : Int32) (s1 : Int32) (hv0 : kd v0 = 12) : sm_S κ (fun r : Int32 => .inr (some (.int r))) (.inl (154, [some (xad κ v0), none, none, some (.int v3)], [.int s0, .int s1])) (fnX12_count_J154 k128 v0 v3 s0 s1) := by
  unfold fnX12_count_J154
  refine sr_ior (q := 155) C (show decode cX12_count 154 = .ok (.ior, 1) from by decide +kernel) rfl ?_
  refine sr_nmi (fun y155 => ?_)
  refine sr_istore_n (i := 2) (L' := [some (xad κ v0), none, some (.int y155), some (.int v3)]) (q := 156) C (show decode cX12_count 155 = .ok (.istore_n 2, 1) from by decide +kernel) rfl (by decide) rfl rfl ?_
  refine sr_iinc (v := v3 + (1 : Int32)) (L' := [some (xad κ v0), none, some (.int y155), some (.int (v3 + (1 : Int32)))]) (q := 159) C (show decode cX12_count 156 = .ok (.iinc 3 1, 3) from by decide +kernel) rfl rfl (by decide) rfl rfl ?_
  refine sr_goto (q := 128) C (show decode cX12_count 159 = .ok (.goto (-31), 3) from by decide +kernel) (by decide) ?_
  exact K128 v0 y155 (v3 + (1 : Int32)) hv0
def fnX12_count_L128 : Nat → Nat → Int32 → Int32 → sm_M Int32
  | 0, _, _, _ => m_fail
  | n + 1, v0, v2, v3 => m_ai (lk v0 1) (3 : Int32) fun x134 => m_br (x134 ≤ v3)
    (m_ret v2)
    (m_bnd (fnX12_isInDoubt v0 v3) fun x141 => m_br ((bI x141) = 0)
    (fnX12_count_J154 (fnX12_count_L128 n) v0 v3 (0 : Int32) v2)
    (fnX12_count_J154 (fnX12_count_L128 n) v0 v3 ((1 : Int32) <<< (v3 &&& 31)) v2))
set_option maxHeartbeats 4000000 in
set_option maxRecDepth 100000 in
theorem slX12_count_L128 {κ : sm_X} (C : sm_C κ RX12 cX12_count 4 3) : ∀ (n : Nat) (v0 : Nat) (v2 : Int32) (v3 : Int32) (hv0 : kd v0 = 12), sm_S κ (fun r : Int32 => .inr (some (.int r))) (.inl (128, [some (xad κ v0), none, some (.int v2), some (.int v3)], [])) (fnX12_count_L128 n v0 v2 v3) := by
  intro n
  induction n with
  | zero =>
    intros
    exact sr_fail
  | succ n K128 =>
    intro v0 v2 v3 hv0
    unfold fnX12_count_L128
    refine sr_iload_n (i := 3) (q := 129) C (show decode cX12_count 128 = .ok (.iload_n 3, 1) from by decide +kernel) rfl rfl rfl ?_
    refine sr_aload_n (i := 0) (q := 130) C (show decode cX12_count 129 = .ok (.aload_n 0, 1) from by decide +kernel) rfl rfl rfl ?_
    refine sr_getr (q := 133) C fl_X12_9 hv0 (show decode cX12_count 130 = .ok (.getfield 9, 3) from by decide +kernel) rfl ?_
    refine sr_iconst (v := (3 : Int32)) (q := 134) C (show decode cX12_count 133 = .ok (.iconst 3, 1) from by decide +kernel) (by decide) rfl ?_
    refine sr_iaload (q := 135) C (kt hv0 kp_12_1) (show decode cX12_count 134 = .ok (.iaload, 1) from by decide +kernel) rfl (fun x134 => ?_)
    refine sr_icmp_ge (q := 138) C 162 (show decode cX12_count 135 = .ok (.if_icmp .ge 27, 3) from by decide +kernel) (by decide) rfl ?_ ?_
    · refine sr_iload_n (i := 2) (q := 163) C (show decode cX12_count 162 = .ok (.iload_n 2, 1) from by decide +kernel) rfl rfl rfl ?_
      exact sr_ireturn C _ rfl (show decode cX12_count 163 = .ok (.ireturn, 1) from by decide +kernel)
    · refine sr_iload_n (i := 2) (q := 139) C (show decode cX12_count 138 = .ok (.iload_n 2, 1) from by decide +kernel) rfl rfl rfl ?_
      refine sr_aload_n (i := 0) (q := 140) C (show decode cX12_count 139 = .ok (.aload_n 0, 1) from by decide +kernel) rfl rfl rfl ?_
      refine sr_iload_n (i := 3) (q := 141) C (show decode cX12_count 140 = .ok (.iload_n 3, 1) from by decide +kernel) rfl rfl rfl ?_
      refine sr_cVz (As := [.int v3]) (st := [.int v2]) (b := v0) (q := 144) C yvX12_isInDoubt ml_X12_253 (cnX12_isInDoubt (xo κ) v0 v3 hv0) hv0 (by decide) rfl rfl rfl (by decide) (by decide) (Nat.le_of_ble_eq_true rfl) rfl (show decode cX12_count 141 = .ok (.invokevirtual 253, 3) from by decide +kernel) rfl (fun x141 => ?_)
      refine sr_if_eq (q := 147) C 153 (show decode cX12_count 144 = .ok (.ifCond .eq 9, 3) from by decide +kernel) (by decide) rfl ?_ ?_
      · refine sr_iconst (v := (0 : Int32)) (q := 154) C (show decode cX12_count 153 = .ok (.iconst 0, 1) from by decide +kernel) (by decide) rfl ?_
        refine sr_weak (L' := [some (xad κ v0), none, none, some (.int v3)]) ⟨rfl, rfl, trivial⟩ ?_
        exact slX12_count_J154 C K128 v0 v3 (0 : Int32) v2 hv0
      · refine sr_iconst (v := (1 : Int32)) (q := 148) C (show decode cX12_count 147 = .ok (.iconst 1, 1) from by decide +kernel) (by decide) rfl ?_
        refine sr_iload_n (i := 3) (q := 149) C (show decode cX12_count 148 = .ok (.iload_n 3, 1) from by decide +kernel) rfl rfl rfl ?_
        refine sr_ishl (q := 150) C (show decode cX12_count 149 = .ok (.ishl, 1) from by decide +kernel) rfl ?_
        refine sr_goto (q := 154) C (show decode cX12_count 150 = .ok (.goto 4, 3) from by decide +kernel) (by decide) ?_
        refine sr_weak (L' := [some (xad κ v0), none, none, some (.int v3)]) ⟨rfl, rfl, trivial⟩ ?_
        exact slX12_count_J154 C K128 v0 v3 ((1 : Int32) <<< (v3 &&& 31)) v2 hv0
def fnX12_count_J195 (k174 : Nat → Int32 → Int32 → sm_M Int32) (v0 : Nat) (v3 : Int32) (s0 : Int32) (s1 : Int32) : sm_M Int32 := m_nm (s1 + s0) fun y196 => k174 v0 y196 (v3 + (1 : Int32))
set_option maxHeartbeats 4000000 in
set_option maxRecDepth 100000 in
theorem slX12_count_J195 {κ : sm_X} (C : sm_C κ RX12 cX12_count 4 3) {k174 : Nat → Int32 → Int32 → sm_M Int32} (K174 : ∀ (v0 : Nat) (v2 : Int32) (v3 : Int32) (hv0 : kd v0 = 12), sm_S κ (fun r : Int32 => .inr (some (.int r))) (.inl (174, [some (xad κ v0), none, some (.int v2), some (.int v3)], [])) (k174 v0 v2 v3)) (v0 : Nat) (v3 : Int32) (s0 : Int32) (s1 : Int32) (hv0 : kd v0 = 12) : sm_S κ (fun r : Int32 => .inr (some (.int r))) (.inl (195, [some (xad κ v0), none, none, some (.int v3)], [.int s0, .int s1])) (fnX12_count_J195 k174 v0 v3 s0 s1) := by
  unfold fnX12_count_J195
  refine sr_iadd (q := 196) C (show decode cX12_count 195 = .ok (.iadd, 1) from by decide +kernel) rfl ?_
  refine sr_nmi (fun y196 => ?_)
  refine sr_istore_n (i := 2) (L' := [some (xad κ v0), none, some (.int y196), some (.int v3)]) (q := 197) C (show decode cX12_count 196 = .ok (.istore_n 2, 1) from by decide +kernel) rfl (by decide) rfl rfl ?_
  refine sr_iinc (v := v3 + (1 : Int32)) (L' := [some (xad κ v0), none, some (.int y196), some (.int (v3 + (1 : Int32)))]) (q := 200) C (show decode cX12_count 197 = .ok (.iinc 3 1, 3) from by decide +kernel) rfl rfl (by decide) rfl rfl ?_
  refine sr_goto (q := 174) C (show decode cX12_count 200 = .ok (.goto (-26), 3) from by decide +kernel) (by decide) ?_
  exact K174 v0 y196 (v3 + (1 : Int32)) hv0
def fnX12_count_L174 : Nat → Nat → Int32 → Int32 → sm_M Int32
  | 0, _, _, _ => m_fail
  | n + 1, v0, v2, v3 => m_br ((4 : Int32) ≤ v3)
    (m_ret v2)
    (m_ai (lk v0 43) v3 fun x185 => m_br (x185 = (-1 : Int32))
    (fnX12_count_J195 (fnX12_count_L174 n) v0 v3 (0 : Int32) v2)
    (fnX12_count_J195 (fnX12_count_L174 n) v0 v3 (1 : Int32) v2))
set_option maxHeartbeats 4000000 in
set_option maxRecDepth 100000 in
theorem slX12_count_L174 {κ : sm_X} (C : sm_C κ RX12 cX12_count 4 3) : ∀ (n : Nat) (v0 : Nat) (v2 : Int32) (v3 : Int32) (hv0 : kd v0 = 12), sm_S κ (fun r : Int32 => .inr (some (.int r))) (.inl (174, [some (xad κ v0), none, some (.int v2), some (.int v3)], [])) (fnX12_count_L174 n v0 v2 v3) := by
  intro n
  induction n with
  | zero =>
    intros
    exact sr_fail
  | succ n K174 =>
    intro v0 v2 v3 hv0
    unfold fnX12_count_L174
    refine sr_iload_n (i := 3) (q := 175) C (show decode cX12_count 174 = .ok (.iload_n 3, 1) from by decide +kernel) rfl rfl rfl ?_
    refine sr_iconst (v := (4 : Int32)) (q := 176) C (show decode cX12_count 175 = .ok (.iconst 4, 1) from by decide +kernel) (by decide) rfl ?_
    refine sr_icmp_ge (q := 179) C 203 (show decode cX12_count 176 = .ok (.if_icmp .ge 27, 3) from by decide +kernel) (by decide) rfl ?_ ?_
    · refine sr_iload_n (i := 2) (q := 204) C (show decode cX12_count 203 = .ok (.iload_n 2, 1) from by decide +kernel) rfl rfl rfl ?_
      exact sr_ireturn C _ rfl (show decode cX12_count 204 = .ok (.ireturn, 1) from by decide +kernel)
    · refine sr_iload_n (i := 2) (q := 180) C (show decode cX12_count 179 = .ok (.iload_n 2, 1) from by decide +kernel) rfl rfl rfl ?_
      refine sr_aload_n (i := 0) (q := 181) C (show decode cX12_count 180 = .ok (.aload_n 0, 1) from by decide +kernel) rfl rfl rfl ?_
      refine sr_getr (q := 184) C fl_X12_86 hv0 (show decode cX12_count 181 = .ok (.getfield 86, 3) from by decide +kernel) rfl ?_
      refine sr_iload_n (i := 3) (q := 185) C (show decode cX12_count 184 = .ok (.iload_n 3, 1) from by decide +kernel) rfl rfl rfl ?_
      refine sr_iaload (q := 186) C (kt hv0 kp_12_43) (show decode cX12_count 185 = .ok (.iaload, 1) from by decide +kernel) rfl (fun x185 => ?_)
      refine sr_iconst (v := (-1 : Int32)) (q := 187) C (show decode cX12_count 186 = .ok (.iconst (-1), 1) from by decide +kernel) (by decide) rfl ?_
      refine sr_icmp_ne (q := 190) C 194 (show decode cX12_count 187 = .ok (.if_icmp .ne 7, 3) from by decide +kernel) (by decide) rfl ?_ ?_
      · refine sr_iconst (v := (1 : Int32)) (q := 195) C (show decode cX12_count 194 = .ok (.iconst 1, 1) from by decide +kernel) (by decide) rfl ?_
        refine sr_weak (L' := [some (xad κ v0), none, none, some (.int v3)]) ⟨rfl, rfl, trivial⟩ ?_
        exact slX12_count_J195 C K174 v0 v3 (1 : Int32) v2 hv0
      · refine sr_iconst (v := (0 : Int32)) (q := 191) C (show decode cX12_count 190 = .ok (.iconst 0, 1) from by decide +kernel) (by decide) rfl ?_
        refine sr_goto (q := 195) C (show decode cX12_count 191 = .ok (.goto 4, 3) from by decide +kernel) (by decide) ?_
        refine sr_weak (L' := [some (xad κ v0), none, none, some (.int v3)]) ⟨rfl, rfl, trivial⟩ ?_
        exact slX12_count_J195 C K174 v0 v3 (0 : Int32) v2 hv0
def fnX12_count (v0 : Nat) (v1 : Int32) : sm_M Int32 := m_br (v1 = (0 : Int32))
    (m_ai (lk v0 1) (1 : Int32) fun x69 => m_ret x69)
    (m_br (v1 = (1 : Int32))
    (m_ai (lk v0 1) (2 : Int32) fun x76 => m_ret x76)
    (m_br (v1 = (2 : Int32))
    (m_ai (lk v0 1) (3 : Int32) fun x83 => m_ret x83)
    (m_br (v1 = (3 : Int32))
    (m_ai (lk v0 1) (4 : Int32) fun x90 => m_ret x90)
    (m_br (v1 = (4 : Int32))
    (m_ai (lk v0 1) (7 : Int32) fun x98 => m_ret x98)
    (m_br (v1 = (5 : Int32))
    (m_ai (lk v0 1) (0 : Int32) fun x105 => m_ret x105)
    (m_br (v1 = (6 : Int32))
    (m_gi v0 5 fun x108 => m_ret x108)
    (m_br (v1 = (7 : Int32))
    (m_bnd (fnX12_at v0 (98 : Int32)) fun x115 => m_ret x115)
    (m_br (v1 = (8 : Int32))
    (m_bnd (fnX12_at v0 (99 : Int32)) fun x122 => m_ret x122)
    (m_br (v1 = (9 : Int32))
    (fnX12_count_L128 4096 v0 (0 : Int32) (0 : Int32))
    (m_br (v1 = (10 : Int32))
    (m_ai (lk v0 1) (6 : Int32) fun x170 => m_ret x170)
    (m_br (v1 = (11 : Int32))
    (fnX12_count_L174 4096 v0 (0 : Int32) (0 : Int32))
    (m_ret (-1 : Int32)))))))))))))
set_option maxHeartbeats 4000000 in
set_option maxRecDepth 100000 in
theorem slX12_count {κ : sm_X} (C : sm_C κ RX12 cX12_count 4 3) (v0 : Nat) (v1 : Int32) (hv0 : kd v0 = 12) : sm_S κ (fun r : Int32 => .inr (some (.int r))) (.inl (0, [some (xad κ v0), some (.int v1), none, none], [])) (fnX12_count v0 v1) := by
  unfold fnX12_count
  refine sr_iconst (v := (0 : Int32)) (q := 1) C (show decode cX12_count 0 = .ok (.iconst 0, 1) from by decide +kernel) (by decide) rfl ?_
  refine sr_istore_n (i := 2) (L' := [some (xad κ v0), some (.int v1), some (.int (0 : Int32)), none]) (q := 2) C (show decode cX12_count 1 = .ok (.istore_n 2, 1) from by decide +kernel) rfl (by decide) rfl rfl ?_
  refine sr_iload_n (i := 1) (q := 3) C (show decode cX12_count 2 = .ok (.iload_n 1, 1) from by decide +kernel) rfl rfl rfl ?_
  refine sr_case (fun hw0 => ?_) (fun hw0 => ?_)
  · refine sr_tabIn (q := 64) C hw0 (show decode cX12_count 3 = .ok (.tableswitch 202 0 11 #[61, 68, 75, 82, 89, 97, 104, 109, 116, 123, 161, 169], 61) from by decide +kernel) (by decide) (by decide) rfl (by decide) ?_
    refine sr_aload_n (i := 0) (q := 65) C (show decode cX12_count 64 = .ok (.aload_n 0, 1) from by decide +kernel) rfl rfl rfl ?_
    refine sr_getr (q := 68) C fl_X12_9 hv0 (show decode cX12_count 65 = .ok (.getfield 9, 3) from by decide +kernel) rfl ?_
    refine sr_iconst (v := (1 : Int32)) (q := 69) C (show decode cX12_count 68 = .ok (.iconst 1, 1) from by decide +kernel) (by decide) rfl ?_
    refine sr_iaload (q := 70) C (kt hv0 kp_12_1) (show decode cX12_count 69 = .ok (.iaload, 1) from by decide +kernel) rfl (fun x69 => ?_)
    exact sr_ireturn C _ rfl (show decode cX12_count 70 = .ok (.ireturn, 1) from by decide +kernel)
  · refine sr_case (fun hw1 => ?_) (fun hw1 => ?_)
    · refine sr_tabIn (q := 71) C hw1 (show decode cX12_count 3 = .ok (.tableswitch 202 0 11 #[61, 68, 75, 82, 89, 97, 104, 109, 116, 123, 161, 169], 61) from by decide +kernel) (by decide) (by decide) rfl (by decide) ?_
      refine sr_aload_n (i := 0) (q := 72) C (show decode cX12_count 71 = .ok (.aload_n 0, 1) from by decide +kernel) rfl rfl rfl ?_
      refine sr_getr (q := 75) C fl_X12_9 hv0 (show decode cX12_count 72 = .ok (.getfield 9, 3) from by decide +kernel) rfl ?_
      refine sr_iconst (v := (2 : Int32)) (q := 76) C (show decode cX12_count 75 = .ok (.iconst 2, 1) from by decide +kernel) (by decide) rfl ?_
      refine sr_iaload (q := 77) C (kt hv0 kp_12_1) (show decode cX12_count 76 = .ok (.iaload, 1) from by decide +kernel) rfl (fun x76 => ?_)
      exact sr_ireturn C _ rfl (show decode cX12_count 77 = .ok (.ireturn, 1) from by decide +kernel)
    · refine sr_case (fun hw2 => ?_) (fun hw2 => ?_)
      · refine sr_tabIn (q := 78) C hw2 (show decode cX12_count 3 = .ok (.tableswitch 202 0 11 #[61, 68, 75, 82, 89, 97, 104, 109, 116, 123, 161, 169], 61) from by decide +kernel) (by decide) (by decide) rfl (by decide) ?_
        refine sr_aload_n (i := 0) (q := 79) C (show decode cX12_count 78 = .ok (.aload_n 0, 1) from by decide +kernel) rfl rfl rfl ?_
        refine sr_getr (q := 82) C fl_X12_9 hv0 (show decode cX12_count 79 = .ok (.getfield 9, 3) from by decide +kernel) rfl ?_
        refine sr_iconst (v := (3 : Int32)) (q := 83) C (show decode cX12_count 82 = .ok (.iconst 3, 1) from by decide +kernel) (by decide) rfl ?_
        refine sr_iaload (q := 84) C (kt hv0 kp_12_1) (show decode cX12_count 83 = .ok (.iaload, 1) from by decide +kernel) rfl (fun x83 => ?_)
        exact sr_ireturn C _ rfl (show decode cX12_count 84 = .ok (.ireturn, 1) from by decide +kernel)
      · refine sr_case (fun hw3 => ?_) (fun hw3 => ?_)
        · refine sr_tabIn (q := 85) C hw3 (show decode cX12_count 3 = .ok (.tableswitch 202 0 11 #[61, 68, 75, 82, 89, 97, 104, 109, 116, 123, 161, 169], 61) from by decide +kernel) (by decide) (by decide) rfl (by decide) ?_
          refine sr_aload_n (i := 0) (q := 86) C (show decode cX12_count 85 = .ok (.aload_n 0, 1) from by decide +kernel) rfl rfl rfl ?_
          refine sr_getr (q := 89) C fl_X12_9 hv0 (show decode cX12_count 86 = .ok (.getfield 9, 3) from by decide +kernel) rfl ?_
          refine sr_iconst (v := (4 : Int32)) (q := 90) C (show decode cX12_count 89 = .ok (.iconst 4, 1) from by decide +kernel) (by decide) rfl ?_
          refine sr_iaload (q := 91) C (kt hv0 kp_12_1) (show decode cX12_count 90 = .ok (.iaload, 1) from by decide +kernel) rfl (fun x90 => ?_)
          exact sr_ireturn C _ rfl (show decode cX12_count 91 = .ok (.ireturn, 1) from by decide +kernel)
        · refine sr_case (fun hw4 => ?_) (fun hw4 => ?_)
          · refine sr_tabIn (q := 92) C hw4 (show decode cX12_count 3 = .ok (.tableswitch 202 0 11 #[61, 68, 75, 82, 89, 97, 104, 109, 116, 123, 161, 169], 61) from by decide +kernel) (by decide) (by decide) rfl (by decide) ?_
            refine sr_aload_n (i := 0) (q := 93) C (show decode cX12_count 92 = .ok (.aload_n 0, 1) from by decide +kernel) rfl rfl rfl ?_
            refine sr_getr (q := 96) C fl_X12_9 hv0 (show decode cX12_count 93 = .ok (.getfield 9, 3) from by decide +kernel) rfl ?_
            refine sr_bipush (v := (7 : Int32)) (q := 98) C (show decode cX12_count 96 = .ok (.bipush 7, 2) from by decide +kernel) (by decide) rfl ?_
            refine sr_iaload (q := 99) C (kt hv0 kp_12_1) (show decode cX12_count 98 = .ok (.iaload, 1) from by decide +kernel) rfl (fun x98 => ?_)
            exact sr_ireturn C _ rfl (show decode cX12_count 99 = .ok (.ireturn, 1) from by decide +kernel)
          · refine sr_case (fun hw5 => ?_) (fun hw5 => ?_)
            · refine sr_tabIn (q := 100) C hw5 (show decode cX12_count 3 = .ok (.tableswitch 202 0 11 #[61, 68, 75, 82, 89, 97, 104, 109, 116, 123, 161, 169], 61) from by decide +kernel) (by decide) (by decide) rfl (by decide) ?_
              refine sr_aload_n (i := 0) (q := 101) C (show decode cX12_count 100 = .ok (.aload_n 0, 1) from by decide +kernel) rfl rfl rfl ?_
              refine sr_getr (q := 104) C fl_X12_9 hv0 (show decode cX12_count 101 = .ok (.getfield 9, 3) from by decide +kernel) rfl ?_
              refine sr_iconst (v := (0 : Int32)) (q := 105) C (show decode cX12_count 104 = .ok (.iconst 0, 1) from by decide +kernel) (by decide) rfl ?_
              refine sr_iaload (q := 106) C (kt hv0 kp_12_1) (show decode cX12_count 105 = .ok (.iaload, 1) from by decide +kernel) rfl (fun x105 => ?_)
              exact sr_ireturn C _ rfl (show decode cX12_count 106 = .ok (.ireturn, 1) from by decide +kernel)
            · refine sr_case (fun hw6 => ?_) (fun hw6 => ?_)
              · refine sr_tabIn (q := 107) C hw6 (show decode cX12_count 3 = .ok (.tableswitch 202 0 11 #[61, 68, 75, 82, 89, 97, 104, 109, 116, 123, 161, 169], 61) from by decide +kernel) (by decide) (by decide) rfl (by decide) ?_
                refine sr_aload_n (i := 0) (q := 108) C (show decode cX12_count 107 = .ok (.aload_n 0, 1) from by decide +kernel) rfl rfl rfl ?_
                refine sr_geti (q := 111) C fl_X12_115 (Or.inl rfl) hv0 (show decode cX12_count 108 = .ok (.getfield 115, 3) from by decide +kernel) rfl (fun x108 => ?_)
                exact sr_ireturn C _ rfl (show decode cX12_count 111 = .ok (.ireturn, 1) from by decide +kernel)
              · refine sr_case (fun hw7 => ?_) (fun hw7 => ?_)
                · refine sr_tabIn (q := 112) C hw7 (show decode cX12_count 3 = .ok (.tableswitch 202 0 11 #[61, 68, 75, 82, 89, 97, 104, 109, 116, 123, 161, 169], 61) from by decide +kernel) (by decide) (by decide) rfl (by decide) ?_
                  refine sr_aload_n (i := 0) (q := 113) C (show decode cX12_count 112 = .ok (.aload_n 0, 1) from by decide +kernel) rfl rfl rfl ?_
                  refine sr_bipush (v := (98 : Int32)) (q := 115) C (show decode cX12_count 113 = .ok (.bipush 98, 2) from by decide +kernel) (by decide) rfl ?_
                  refine sr_cVi (As := [.int (98 : Int32)]) (st := []) (b := v0) (q := 118) C yvX12_at ml_X12_549 (cnX12_at (xo κ) v0 (98 : Int32) hv0) hv0 (by decide) rfl rfl rfl (by decide) (by decide) (Nat.le_of_ble_eq_true rfl) rfl (show decode cX12_count 115 = .ok (.invokevirtual 549, 3) from by decide +kernel) rfl (fun x115 => ?_)
                  exact sr_ireturn C _ rfl (show decode cX12_count 118 = .ok (.ireturn, 1) from by decide +kernel)
                · refine sr_case (fun hw8 => ?_) (fun hw8 => ?_)
                  · refine sr_tabIn (q := 119) C hw8 (show decode cX12_count 3 = .ok (.tableswitch 202 0 11 #[61, 68, 75, 82, 89, 97, 104, 109, 116, 123, 161, 169], 61) from by decide +kernel) (by decide) (by decide) rfl (by decide) ?_
                    refine sr_aload_n (i := 0) (q := 120) C (show decode cX12_count 119 = .ok (.aload_n 0, 1) from by decide +kernel) rfl rfl rfl ?_
                    refine sr_bipush (v := (99 : Int32)) (q := 122) C (show decode cX12_count 120 = .ok (.bipush 99, 2) from by decide +kernel) (by decide) rfl ?_
                    refine sr_cVi (As := [.int (99 : Int32)]) (st := []) (b := v0) (q := 125) C yvX12_at ml_X12_549 (cnX12_at (xo κ) v0 (99 : Int32) hv0) hv0 (by decide) rfl rfl rfl (by decide) (by decide) (Nat.le_of_ble_eq_true rfl) rfl (show decode cX12_count 122 = .ok (.invokevirtual 549, 3) from by decide +kernel) rfl (fun x122 => ?_)
                    exact sr_ireturn C _ rfl (show decode cX12_count 125 = .ok (.ireturn, 1) from by decide +kernel)
                  · refine sr_case (fun hw9 => ?_) (fun hw9 => ?_)
                    · refine sr_tabIn (q := 126) C hw9 (show decode cX12_count 3 = .ok (.tableswitch 202 0 11 #[61, 68, 75, 82, 89, 97, 104, 109, 116, 123, 161, 169], 61) from by decide +kernel) (by decide) (by decide) rfl (by decide) ?_
                      refine sr_iconst (v := (0 : Int32)) (q := 127) C (show decode cX12_count 126 = .ok (.iconst 0, 1) from by decide +kernel) (by decide) rfl ?_
                      refine sr_istore_n (i := 3) (L' := [some (xad κ v0), some (.int v1), some (.int (0 : Int32)), some (.int (0 : Int32))]) (q := 128) C (show decode cX12_count 127 = .ok (.istore_n 3, 1) from by decide +kernel) rfl (by decide) rfl rfl ?_
                      refine sr_weak (L' := [some (xad κ v0), none, some (.int (0 : Int32)), some (.int (0 : Int32))]) ⟨rfl, rfl, rfl, trivial⟩ ?_
                      exact slX12_count_L128 C 4096 v0 (0 : Int32) (0 : Int32) hv0
                    · refine sr_case (fun hw10 => ?_) (fun hw10 => ?_)
                      · refine sr_tabIn (q := 164) C hw10 (show decode cX12_count 3 = .ok (.tableswitch 202 0 11 #[61, 68, 75, 82, 89, 97, 104, 109, 116, 123, 161, 169], 61) from by decide +kernel) (by decide) (by decide) rfl (by decide) ?_
                        refine sr_aload_n (i := 0) (q := 165) C (show decode cX12_count 164 = .ok (.aload_n 0, 1) from by decide +kernel) rfl rfl rfl ?_
                        refine sr_getr (q := 168) C fl_X12_9 hv0 (show decode cX12_count 165 = .ok (.getfield 9, 3) from by decide +kernel) rfl ?_
                        refine sr_bipush (v := (6 : Int32)) (q := 170) C (show decode cX12_count 168 = .ok (.bipush 6, 2) from by decide +kernel) (by decide) rfl ?_
                        refine sr_iaload (q := 171) C (kt hv0 kp_12_1) (show decode cX12_count 170 = .ok (.iaload, 1) from by decide +kernel) rfl (fun x170 => ?_)
                        exact sr_ireturn C _ rfl (show decode cX12_count 171 = .ok (.ireturn, 1) from by decide +kernel)
                      · refine sr_case (fun hw11 => ?_) (fun hw11 => ?_)
                        · refine sr_tabIn (q := 172) C hw11 (show decode cX12_count 3 = .ok (.tableswitch 202 0 11 #[61, 68, 75, 82, 89, 97, 104, 109, 116, 123, 161, 169], 61) from by decide +kernel) (by decide) (by decide) rfl (by decide) ?_
                          refine sr_iconst (v := (0 : Int32)) (q := 173) C (show decode cX12_count 172 = .ok (.iconst 0, 1) from by decide +kernel) (by decide) rfl ?_
                          refine sr_istore_n (i := 3) (L' := [some (xad κ v0), some (.int v1), some (.int (0 : Int32)), some (.int (0 : Int32))]) (q := 174) C (show decode cX12_count 173 = .ok (.istore_n 3, 1) from by decide +kernel) rfl (by decide) rfl rfl ?_
                          refine sr_weak (L' := [some (xad κ v0), none, some (.int (0 : Int32)), some (.int (0 : Int32))]) ⟨rfl, rfl, rfl, trivial⟩ ?_
                          exact slX12_count_L174 C 4096 v0 (0 : Int32) (0 : Int32) hv0
                        · refine sr_tabOut (q := 205) C (sw12_out hw0 hw1 hw2 hw3 hw4 hw5 hw6 hw7 hw8 hw9 hw10 hw11) (show decode cX12_count 3 = .ok (.tableswitch 202 0 11 #[61, 68, 75, 82, 89, 97, 104, 109, 116, 123, 161, 169], 61) from by decide +kernel) (by decide) ?_
                          refine sr_iconst (v := (-1 : Int32)) (q := 206) C (show decode cX12_count 205 = .ok (.iconst (-1), 1) from by decide +kernel) (by decide) rfl ?_
                          exact sr_ireturn C _ rfl (show decode cX12_count 206 = .ok (.ireturn, 1) from by decide +kernel)
theorem cnX12_count (ω : sm_O) (v0 : Nat) (v1 : Int32) (hv0 : kd v0 = 12) : sm_Mt 3 yX12_count cX12_count 4 (some .int) ω [.ref (ω.1 + v0), .int v1] (fun a => some (.int a)) (fnX12_count v0 v1) := by
  refine sm_conI (r := fun a => a) (by decide) (fun _ => rfl) (Nat.le_of_ble_eq_true rfl) ?_
  intro κ hκ C
  subst hκ
  exact slX12_count C v0 v1 hv0
def fnX12_setOf_L4 : Nat → Nat → Int32 → Int32 → Int32 → sm_M Int32
  | 0, _, _, _, _ => m_fail
  | n + 1, v0, v1, v2, v3 => m_ai (lk v0 43) v1 fun x10 => m_br (x10 ≤ v3)
    (m_ret v2)
    (m_al (lk v0 45) (((60 : Int32) * v1) + v3) fun x26 => m_nm (v2 ||| ((1 : Int32) <<< (x26.toInt32 &&& 31))) fun y30 => (fnX12_setOf_L4 n) v0 v1 y30 (v3 + (1 : Int32)))
set_option maxHeartbeats 4000000 in
set_option maxRecDepth 100000 in
theorem slX12_setOf_L4 {κ : sm_X} (C : sm_C κ RX12 cX12_setOf 4 1) : ∀ (n : Nat) (v0 : Nat) (v1 : Int32) (v2 : Int32) (v3 : Int32) (hv0 : kd v0 = 12), sm_S κ (fun r : Int32 => .inr (some (.int r))) (.inl (4, [some (xad κ v0), some (.int v1), some (.int v2), some (.int v3)], [])) (fnX12_setOf_L4 n v0 v1 v2 v3) := by
  intro n
  induction n with
  | zero =>
    intros
    exact sr_fail
  | succ n K4 =>
    intro v0 v1 v2 v3 hv0
    unfold fnX12_setOf_L4
    refine sr_iload_n (i := 3) (q := 5) C (show decode cX12_setOf 4 = .ok (.iload_n 3, 1) from by decide +kernel) rfl rfl rfl ?_
    refine sr_aload_n (i := 0) (q := 6) C (show decode cX12_setOf 5 = .ok (.aload_n 0, 1) from by decide +kernel) rfl rfl rfl ?_
    refine sr_getr (q := 9) C fl_X12_86 hv0 (show decode cX12_setOf 6 = .ok (.getfield 86, 3) from by decide +kernel) rfl ?_
    refine sr_iload_n (i := 1) (q := 10) C (show decode cX12_setOf 9 = .ok (.iload_n 1, 1) from by decide +kernel) rfl rfl rfl ?_
    refine sr_iaload (q := 11) C (kt hv0 kp_12_43) (show decode cX12_setOf 10 = .ok (.iaload, 1) from by decide +kernel) rfl (fun x10 => ?_)
    refine sr_icmp_ge (q := 14) C 37 (show decode cX12_setOf 11 = .ok (.if_icmp .ge 26, 3) from by decide +kernel) (by decide) rfl ?_ ?_
    · refine sr_iload_n (i := 2) (q := 38) C (show decode cX12_setOf 37 = .ok (.iload_n 2, 1) from by decide +kernel) rfl rfl rfl ?_
      exact sr_ireturn C _ rfl (show decode cX12_setOf 38 = .ok (.ireturn, 1) from by decide +kernel)
    · refine sr_iload_n (i := 2) (q := 15) C (show decode cX12_setOf 14 = .ok (.iload_n 2, 1) from by decide +kernel) rfl rfl rfl ?_
      refine sr_iconst (v := (1 : Int32)) (q := 16) C (show decode cX12_setOf 15 = .ok (.iconst 1, 1) from by decide +kernel) (by decide) rfl ?_
      refine sr_aload_n (i := 0) (q := 17) C (show decode cX12_setOf 16 = .ok (.aload_n 0, 1) from by decide +kernel) rfl rfl rfl ?_
      refine sr_getr (q := 20) C fl_X12_92 hv0 (show decode cX12_setOf 17 = .ok (.getfield 92, 3) from by decide +kernel) rfl ?_
      refine sr_bipush (v := (60 : Int32)) (q := 22) C (show decode cX12_setOf 20 = .ok (.bipush 60, 2) from by decide +kernel) (by decide) rfl ?_
      refine sr_iload_n (i := 1) (q := 23) C (show decode cX12_setOf 22 = .ok (.iload_n 1, 1) from by decide +kernel) rfl rfl rfl ?_
      refine sr_imul (q := 24) C (show decode cX12_setOf 23 = .ok (.imul, 1) from by decide +kernel) rfl ?_
      refine sr_iload_n (i := 3) (q := 25) C (show decode cX12_setOf 24 = .ok (.iload_n 3, 1) from by decide +kernel) rfl rfl rfl ?_
      refine sr_iadd (q := 26) C (show decode cX12_setOf 25 = .ok (.iadd, 1) from by decide +kernel) rfl ?_
      refine sr_laload (q := 27) C (kt hv0 kp_12_45) (show decode cX12_setOf 26 = .ok (.laload, 1) from by decide +kernel) rfl (fun x26 => ?_)
      refine sr_l2i (q := 28) C (show decode cX12_setOf 27 = .ok (.l2i, 1) from by decide +kernel) rfl ?_
      refine sr_ishl (q := 29) C (show decode cX12_setOf 28 = .ok (.ishl, 1) from by decide +kernel) rfl ?_
      refine sr_ior (q := 30) C (show decode cX12_setOf 29 = .ok (.ior, 1) from by decide +kernel) rfl ?_
      refine sr_nmi (fun y30 => ?_)
      refine sr_istore_n (i := 2) (L' := [some (xad κ v0), some (.int v1), some (.int y30), some (.int v3)]) (q := 31) C (show decode cX12_setOf 30 = .ok (.istore_n 2, 1) from by decide +kernel) rfl (by decide) rfl rfl ?_
      refine sr_iinc (v := v3 + (1 : Int32)) (L' := [some (xad κ v0), some (.int v1), some (.int y30), some (.int (v3 + (1 : Int32)))]) (q := 34) C (show decode cX12_setOf 31 = .ok (.iinc 3 1, 3) from by decide +kernel) rfl rfl (by decide) rfl rfl ?_
      refine sr_goto (q := 4) C (show decode cX12_setOf 34 = .ok (.goto (-30), 3) from by decide +kernel) (by decide) ?_
      exact K4 v0 v1 y30 (v3 + (1 : Int32)) hv0
def fnX12_setOf (v0 : Nat) (v1 : Int32) : sm_M Int32 := fnX12_setOf_L4 4096 v0 v1 (0 : Int32) (0 : Int32)
set_option maxHeartbeats 4000000 in
set_option maxRecDepth 100000 in
theorem slX12_setOf {κ : sm_X} (C : sm_C κ RX12 cX12_setOf 4 1) (v0 : Nat) (v1 : Int32) (hv0 : kd v0 = 12) : sm_S κ (fun r : Int32 => .inr (some (.int r))) (.inl (0, [some (xad κ v0), some (.int v1), none, none], [])) (fnX12_setOf v0 v1) := by
  unfold fnX12_setOf
  refine sr_iconst (v := (0 : Int32)) (q := 1) C (show decode cX12_setOf 0 = .ok (.iconst 0, 1) from by decide +kernel) (by decide) rfl ?_
  refine sr_istore_n (i := 2) (L' := [some (xad κ v0), some (.int v1), some (.int (0 : Int32)), none]) (q := 2) C (show decode cX12_setOf 1 = .ok (.istore_n 2, 1) from by decide +kernel) rfl (by decide) rfl rfl ?_
  refine sr_iconst (v := (0 : Int32)) (q := 3) C (show decode cX12_setOf 2 = .ok (.iconst 0, 1) from by decide +kernel) (by decide) rfl ?_
  refine sr_istore_n (i := 3) (L' := [some (xad κ v0), some (.int v1), some (.int (0 : Int32)), some (.int (0 : Int32))]) (q := 4) C (show decode cX12_setOf 3 = .ok (.istore_n 3, 1) from by decide +kernel) rfl (by decide) rfl rfl ?_
  exact slX12_setOf_L4 C 4096 v0 v1 (0 : Int32) (0 : Int32) hv0
theorem cnX12_setOf (ω : sm_O) (v0 : Nat) (v1 : Int32) (hv0 : kd v0 = 12) : sm_Mt 1 yX12_setOf cX12_setOf 4 (some .int) ω [.ref (ω.1 + v0), .int v1] (fun a => some (.int a)) (fnX12_setOf v0 v1) := by
  refine sm_conI (r := fun a => a) (by decide) (fun _ => rfl) (Nat.le_of_ble_eq_true rfl) ?_
  intro κ hκ C
  subst hκ
  exact slX12_setOf C v0 v1 hv0
def fnX12_cross_L32 : Nat → Int32 → Int32 → Int32 → sm_M Int32
  | 0, _, _, _ => m_fail
  | n + 1, v4, v5, v6 => m_br ((24 : Int32) ≤ v6)
    (m_ret v5)
    (m_nm (v5 + ((v4 >>> (v6 &&& 31)) &&& (1 : Int32))) fun y49 => (fnX12_cross_L32 n) v4 y49 (v6 + (1 : Int32)))
set_option maxHeartbeats 4000000 in
set_option maxRecDepth 100000 in
theorem slX12_cross_L32 {κ : sm_X} (C : sm_C κ RX12 cX12_cross 7 4) : ∀ (n : Nat) (v4 : Int32) (v5 : Int32) (v6 : Int32) , sm_S κ (fun r : Int32 => .inr (some (.int r))) (.inl (32, [none, none, none, none, some (.int v4), some (.int v5), some (.int v6)], [])) (fnX12_cross_L32 n v4 v5 v6) := by
  intro n
  induction n with
  | zero =>
    intros
    exact sr_fail
  | succ n K32 =>
    intro v4 v5 v6
    unfold fnX12_cross_L32
    refine sr_iload (i := 6) (q := 34) C (show decode cX12_cross 32 = .ok (.iload 6, 2) from by decide +kernel) rfl rfl ?_
    refine sr_bipush (v := (24 : Int32)) (q := 36) C (show decode cX12_cross 34 = .ok (.bipush 24, 2) from by decide +kernel) (by decide) rfl ?_
    refine sr_icmp_ge (q := 39) C 57 (show decode cX12_cross 36 = .ok (.if_icmp .ge 21, 3) from by decide +kernel) (by decide) rfl ?_ ?_
    · refine sr_iload (i := 5) (q := 59) C (show decode cX12_cross 57 = .ok (.iload 5, 2) from by decide +kernel) rfl rfl ?_
      exact sr_ireturn C _ rfl (show decode cX12_cross 59 = .ok (.ireturn, 1) from by decide +kernel)
    · refine sr_iload (i := 5) (q := 41) C (show decode cX12_cross 39 = .ok (.iload 5, 2) from by decide +kernel) rfl rfl ?_
      refine sr_iload (i := 4) (q := 43) C (show decode cX12_cross 41 = .ok (.iload 4, 2) from by decide +kernel) rfl rfl ?_
      refine sr_iload (i := 6) (q := 45) C (show decode cX12_cross 43 = .ok (.iload 6, 2) from by decide +kernel) rfl rfl ?_
      refine sr_ishr (q := 46) C (show decode cX12_cross 45 = .ok (.ishr, 1) from by decide +kernel) rfl ?_
      refine sr_iconst (v := (1 : Int32)) (q := 47) C (show decode cX12_cross 46 = .ok (.iconst 1, 1) from by decide +kernel) (by decide) rfl ?_
      refine sr_iand (q := 48) C (show decode cX12_cross 47 = .ok (.iand, 1) from by decide +kernel) rfl ?_
      refine sr_iadd (q := 49) C (show decode cX12_cross 48 = .ok (.iadd, 1) from by decide +kernel) rfl ?_
      refine sr_nmi (fun y49 => ?_)
      refine sr_istore (i := 5) (L' := [none, none, none, none, some (.int v4), some (.int y49), some (.int v6)]) (q := 51) C (show decode cX12_cross 49 = .ok (.istore 5, 2) from by decide +kernel) (by decide) rfl rfl ?_
      refine sr_iinc (v := v6 + (1 : Int32)) (L' := [none, none, none, none, some (.int v4), some (.int y49), some (.int (v6 + (1 : Int32)))]) (q := 54) C (show decode cX12_cross 51 = .ok (.iinc 6 1, 3) from by decide +kernel) rfl rfl (by decide) rfl rfl ?_
      refine sr_goto (q := 32) C (show decode cX12_cross 54 = .ok (.goto (-22), 3) from by decide +kernel) (by decide) ?_
      exact K32 v4 y49 (v6 + (1 : Int32))
def fnX12_cross (v0 : Nat) (v1 : Int32) (v2 : Int32) : sm_M Int32 := m_bnd (fnX12_asksTwo v0 v1 v2) fun x3 => m_br (0 ≤ x3)
    (m_bnd (fnX12_setOf v0 v1) fun x15 => m_bnd (fnX12_setOf v0 v2) fun x20 => m_nm (x15 &&& x20) fun y24 => fnX12_cross_L32 4096 y24 (0 : Int32) (0 : Int32))
    (m_ret x3)
set_option maxHeartbeats 4000000 in
set_option maxRecDepth 100000 in
theorem slX12_cross {κ : sm_X} (C : sm_C κ RX12 cX12_cross 7 4) (v0 : Nat) (v1 : Int32) (v2 : Int32) (hv0 : kd v0 = 12) : sm_S κ (fun r : Int32 => .inr (some (.int r))) (.inl (0, [some (xad κ v0), some (.int v1), some (.int v2), none, none, none, none], [])) (fnX12_cross v0 v1 v2) := by
  unfold fnX12_cross
  refine sr_aload_n (i := 0) (q := 1) C (show decode cX12_cross 0 = .ok (.aload_n 0, 1) from by decide +kernel) rfl rfl rfl ?_
  refine sr_iload_n (i := 1) (q := 2) C (show decode cX12_cross 1 = .ok (.iload_n 1, 1) from by decide +kernel) rfl rfl rfl ?_
  refine sr_iload_n (i := 2) (q := 3) C (show decode cX12_cross 2 = .ok (.iload_n 2, 1) from by decide +kernel) rfl rfl rfl ?_
  refine sr_cVi (As := [.int v1, .int v2]) (st := []) (b := v0) (q := 6) C yvX12_asksTwo ml_X12_511 (cnX12_asksTwo (xo κ) v0 v1 v2 hv0) hv0 (by decide) rfl rfl rfl (by decide) (by decide) (Nat.le_of_ble_eq_true rfl) rfl (show decode cX12_cross 3 = .ok (.invokevirtual 511, 3) from by decide +kernel) rfl (fun x3 => ?_)
  refine sr_istore_n (i := 3) (L' := [some (xad κ v0), some (.int v1), some (.int v2), some (.int x3), none, none, none]) (q := 7) C (show decode cX12_cross 6 = .ok (.istore_n 3, 1) from by decide +kernel) rfl (by decide) rfl rfl ?_
  refine sr_iload_n (i := 3) (q := 8) C (show decode cX12_cross 7 = .ok (.iload_n 3, 1) from by decide +kernel) rfl rfl rfl ?_
  refine sr_if_ge (q := 11) C 13 (show decode cX12_cross 8 = .ok (.ifCond .ge 5, 3) from by decide +kernel) (by decide) rfl ?_ ?_
  · refine sr_aload_n (i := 0) (q := 14) C (show decode cX12_cross 13 = .ok (.aload_n 0, 1) from by decide +kernel) rfl rfl rfl ?_
    refine sr_iload_n (i := 1) (q := 15) C (show decode cX12_cross 14 = .ok (.iload_n 1, 1) from by decide +kernel) rfl rfl rfl ?_
    refine sr_cVi (As := [.int v1]) (st := []) (b := v0) (q := 18) C yvX12_setOf ml_X12_517 (cnX12_setOf (xo κ) v0 v1 hv0) hv0 (by decide) rfl rfl rfl (by decide) (by decide) (Nat.le_of_ble_eq_true rfl) rfl (show decode cX12_cross 15 = .ok (.invokevirtual 517, 3) from by decide +kernel) rfl (fun x15 => ?_)
    refine sr_aload_n (i := 0) (q := 19) C (show decode cX12_cross 18 = .ok (.aload_n 0, 1) from by decide +kernel) rfl rfl rfl ?_
    refine sr_iload_n (i := 2) (q := 20) C (show decode cX12_cross 19 = .ok (.iload_n 2, 1) from by decide +kernel) rfl rfl rfl ?_
    refine sr_cVi (As := [.int v2]) (st := [.int x15]) (b := v0) (q := 23) C yvX12_setOf ml_X12_517 (cnX12_setOf (xo κ) v0 v2 hv0) hv0 (by decide) rfl rfl rfl (by decide) (by decide) (Nat.le_of_ble_eq_true rfl) rfl (show decode cX12_cross 20 = .ok (.invokevirtual 517, 3) from by decide +kernel) rfl (fun x20 => ?_)
    refine sr_iand (q := 24) C (show decode cX12_cross 23 = .ok (.iand, 1) from by decide +kernel) rfl ?_
    refine sr_nmi (fun y24 => ?_)
    refine sr_istore (i := 4) (L' := [some (xad κ v0), some (.int v1), some (.int v2), some (.int x3), some (.int y24), none, none]) (q := 26) C (show decode cX12_cross 24 = .ok (.istore 4, 2) from by decide +kernel) (by decide) rfl rfl ?_
    refine sr_iconst (v := (0 : Int32)) (q := 27) C (show decode cX12_cross 26 = .ok (.iconst 0, 1) from by decide +kernel) (by decide) rfl ?_
    refine sr_istore (i := 5) (L' := [some (xad κ v0), some (.int v1), some (.int v2), some (.int x3), some (.int y24), some (.int (0 : Int32)), none]) (q := 29) C (show decode cX12_cross 27 = .ok (.istore 5, 2) from by decide +kernel) (by decide) rfl rfl ?_
    refine sr_iconst (v := (0 : Int32)) (q := 30) C (show decode cX12_cross 29 = .ok (.iconst 0, 1) from by decide +kernel) (by decide) rfl ?_
    refine sr_istore (i := 6) (L' := [some (xad κ v0), some (.int v1), some (.int v2), some (.int x3), some (.int y24), some (.int (0 : Int32)), some (.int (0 : Int32))]) (q := 32) C (show decode cX12_cross 30 = .ok (.istore 6, 2) from by decide +kernel) (by decide) rfl rfl ?_
    refine sr_weak (L' := [none, none, none, none, some (.int y24), some (.int (0 : Int32)), some (.int (0 : Int32))]) ⟨rfl, rfl, rfl, trivial⟩ ?_
    exact slX12_cross_L32 C 4096 y24 (0 : Int32) (0 : Int32)
  · refine sr_iload_n (i := 3) (q := 12) C (show decode cX12_cross 11 = .ok (.iload_n 3, 1) from by decide +kernel) rfl rfl rfl ?_
    exact sr_ireturn C _ rfl (show decode cX12_cross 12 = .ok (.ireturn, 1) from by decide +kernel)
theorem cnX12_cross (ω : sm_O) (v0 : Nat) (v1 : Int32) (v2 : Int32) (hv0 : kd v0 = 12) : sm_Mt 4 yX12_cross cX12_cross 7 (some .int) ω [.ref (ω.1 + v0), .int v1, .int v2] (fun a => some (.int a)) (fnX12_cross v0 v1 v2) := by
  refine sm_conI (r := fun a => a) (by decide) (fun _ => rfl) (Nat.le_of_ble_eq_true rfl) ?_
  intro κ hκ C
  subst hκ
  exact slX12_cross C v0 v1 v2 hv0
def fnX12_cut_J83 (k31 : Nat → Int32 → Int32 → sm_M Int32) (v0 : Nat) (v4 : Int32) (s0 : Int32) (s1 : Int32) : sm_M Int32 := m_nm (s1 ||| s0) fun y84 => k31 v0 y84 (v4 + (1 : Int32))
set_option maxHeartbeats 4000000 in
set_option maxRecDepth 100000 in
theorem slX12_cut_J83 {κ : sm_X} (C : sm_C κ RX12 cX12_cut 6 6) {k31 : Nat → Int32 → Int32 → sm_M Int32} (K31 : ∀ (v0 : Nat) (v3 : Int32) (v4 : Int32) (hv0 : kd v0 = 12), sm_S κ (fun r : Int32 => .inr (some (.int r))) (.inl (31, [some (xad κ v0), none, none, some (.int v3), some (.int v4), none], [])) (k31 v0 v3 v4)) (v0 : Nat) (v4 : Int32) (s0 : Int32) (s1 : Int32) (hv0 : kd v0 = 12) : sm_S κ (fun r : Int32 => .inr (some (.int r))) (.inl (83, [some (xad κ v0), none, none, none, some (.int v4), none], [.int s0, .int s1])) (fnX12_cut_J83 k31 v0 v4 s0 s1) := by
  unfold fnX12_cut_J83
  refine sr_ior (q := 84) C (show decode cX12_cut 83 = .ok (.ior, 1) from by decide +kernel) rfl ?_
  refine sr_nmi (fun y84 => ?_)
  refine sr_istore_n (i := 3) (L' := [some (xad κ v0), none, none, some (.int y84), some (.int v4), none]) (q := 85) C (show decode cX12_cut 84 = .ok (.istore_n 3, 1) from by decide +kernel) rfl (by decide) rfl rfl ?_
  refine sr_iinc (v := v4 + (1 : Int32)) (L' := [some (xad κ v0), none, none, some (.int y84), some (.int (v4 + (1 : Int32))), none]) (q := 88) C (show decode cX12_cut 85 = .ok (.iinc 4 1, 3) from by decide +kernel) rfl rfl (by decide) rfl rfl ?_
  refine sr_goto (q := 31) C (show decode cX12_cut 88 = .ok (.goto (-57), 3) from by decide +kernel) (by decide) ?_
  exact K31 v0 y84 (v4 + (1 : Int32)) hv0
def fnX12_cut_J82 (k31 : Nat → Int32 → Int32 → sm_M Int32) (v0 : Nat) (v4 : Int32) (s0 : Int32) : sm_M Int32 := fnX12_cut_J83 k31 v0 v4 (0 : Int32) s0
set_option maxHeartbeats 4000000 in
set_option maxRecDepth 100000 in
theorem slX12_cut_J82 {κ : sm_X} (C : sm_C κ RX12 cX12_cut 6 6) {k31 : Nat → Int32 → Int32 → sm_M Int32} (K31 : ∀ (v0 : Nat) (v3 : Int32) (v4 : Int32) (hv0 : kd v0 = 12), sm_S κ (fun r : Int32 => .inr (some (.int r))) (.inl (31, [some (xad κ v0), none, none, some (.int v3), some (.int v4), none], [])) (k31 v0 v3 v4)) (v0 : Nat) (v4 : Int32) (s0 : Int32) (hv0 : kd v0 = 12) : sm_S κ (fun r : Int32 => .inr (some (.int r))) (.inl (82, [some (xad κ v0), none, none, none, some (.int v4), none], [.int s0])) (fnX12_cut_J82 k31 v0 v4 s0) := by
  unfold fnX12_cut_J82
  refine sr_iconst (v := (0 : Int32)) (q := 83) C (show decode cX12_cut 82 = .ok (.iconst 0, 1) from by decide +kernel) (by decide) rfl ?_
  exact slX12_cut_J83 C K31 v0 v4 (0 : Int32) s0 hv0
def fnX12_cut_L31 : Nat → Nat → Int32 → Int32 → sm_M Int32
  | 0, _, _, _ => m_fail
  | n + 1, v0, v3, v4 => m_ai (lk v0 1) (3 : Int32) fun x38 => m_br (x38 ≤ v4)
    (m_ret v3)
    (m_nm ((2 : Int32) * ((2 : Int32) + v4)) fun y48 => m_ai (lk v0 37) y48 fun x57 => m_br (x57 = (-1 : Int32))
    (fnX12_cut_J82 (fnX12_cut_L31 n) v0 v4 v3)
    (m_ai (lk v0 37) (y48 + (1 : Int32)) fun x70 => m_br (x70 = (-1 : Int32))
    (fnX12_cut_J83 (fnX12_cut_L31 n) v0 v4 ((1 : Int32) <<< (v4 &&& 31)) v3)
    (fnX12_cut_J82 (fnX12_cut_L31 n) v0 v4 v3)))
set_option maxHeartbeats 4000000 in
set_option maxRecDepth 100000 in
theorem slX12_cut_L31 {κ : sm_X} (C : sm_C κ RX12 cX12_cut 6 6) : ∀ (n : Nat) (v0 : Nat) (v3 : Int32) (v4 : Int32) (hv0 : kd v0 = 12), sm_S κ (fun r : Int32 => .inr (some (.int r))) (.inl (31, [some (xad κ v0), none, none, some (.int v3), some (.int v4), none], [])) (fnX12_cut_L31 n v0 v3 v4) := by
  intro n
  induction n with
  | zero =>
    intros
    exact sr_fail
  | succ n K31 =>
    intro v0 v3 v4 hv0
    unfold fnX12_cut_L31
    refine sr_iload (i := 4) (q := 33) C (show decode cX12_cut 31 = .ok (.iload 4, 2) from by decide +kernel) rfl rfl ?_
    refine sr_aload_n (i := 0) (q := 34) C (show decode cX12_cut 33 = .ok (.aload_n 0, 1) from by decide +kernel) rfl rfl rfl ?_
    refine sr_getr (q := 37) C fl_X12_9 hv0 (show decode cX12_cut 34 = .ok (.getfield 9, 3) from by decide +kernel) rfl ?_
    refine sr_iconst (v := (3 : Int32)) (q := 38) C (show decode cX12_cut 37 = .ok (.iconst 3, 1) from by decide +kernel) (by decide) rfl ?_
    refine sr_iaload (q := 39) C (kt hv0 kp_12_1) (show decode cX12_cut 38 = .ok (.iaload, 1) from by decide +kernel) rfl (fun x38 => ?_)
    refine sr_icmp_ge (q := 42) C 91 (show decode cX12_cut 39 = .ok (.if_icmp .ge 52, 3) from by decide +kernel) (by decide) rfl ?_ ?_
    · refine sr_iload_n (i := 3) (q := 92) C (show decode cX12_cut 91 = .ok (.iload_n 3, 1) from by decide +kernel) rfl rfl rfl ?_
      exact sr_ireturn C _ rfl (show decode cX12_cut 92 = .ok (.ireturn, 1) from by decide +kernel)
    · refine sr_iconst (v := (2 : Int32)) (q := 43) C (show decode cX12_cut 42 = .ok (.iconst 2, 1) from by decide +kernel) (by decide) rfl ?_
      refine sr_iconst (v := (2 : Int32)) (q := 44) C (show decode cX12_cut 43 = .ok (.iconst 2, 1) from by decide +kernel) (by decide) rfl ?_
      refine sr_iload (i := 4) (q := 46) C (show decode cX12_cut 44 = .ok (.iload 4, 2) from by decide +kernel) rfl rfl ?_
      refine sr_iadd (q := 47) C (show decode cX12_cut 46 = .ok (.iadd, 1) from by decide +kernel) rfl ?_
      refine sr_imul (q := 48) C (show decode cX12_cut 47 = .ok (.imul, 1) from by decide +kernel) rfl ?_
      refine sr_nmi (fun y48 => ?_)
      refine sr_istore (i := 5) (L' := [some (xad κ v0), none, none, some (.int v3), some (.int v4), some (.int y48)]) (q := 50) C (show decode cX12_cut 48 = .ok (.istore 5, 2) from by decide +kernel) (by decide) rfl rfl ?_
      refine sr_iload_n (i := 3) (q := 51) C (show decode cX12_cut 50 = .ok (.iload_n 3, 1) from by decide +kernel) rfl rfl rfl ?_
      refine sr_aload_n (i := 0) (q := 52) C (show decode cX12_cut 51 = .ok (.aload_n 0, 1) from by decide +kernel) rfl rfl rfl ?_
      refine sr_getr (q := 55) C fl_X12_70 hv0 (show decode cX12_cut 52 = .ok (.getfield 70, 3) from by decide +kernel) rfl ?_
      refine sr_iload (i := 5) (q := 57) C (show decode cX12_cut 55 = .ok (.iload 5, 2) from by decide +kernel) rfl rfl ?_
      refine sr_iaload (q := 58) C (kt hv0 kp_12_37) (show decode cX12_cut 57 = .ok (.iaload, 1) from by decide +kernel) rfl (fun x57 => ?_)
      refine sr_iconst (v := (-1 : Int32)) (q := 59) C (show decode cX12_cut 58 = .ok (.iconst (-1), 1) from by decide +kernel) (by decide) rfl ?_
      refine sr_icmp_eq (q := 62) C 82 (show decode cX12_cut 59 = .ok (.if_icmp .eq 23, 3) from by decide +kernel) (by decide) rfl ?_ ?_
      · refine sr_weak (L' := [some (xad κ v0), none, none, none, some (.int v4), none]) ⟨rfl, rfl, trivial⟩ ?_
        exact slX12_cut_J82 C K31 v0 v4 v3 hv0
      · refine sr_aload_n (i := 0) (q := 63) C (show decode cX12_cut 62 = .ok (.aload_n 0, 1) from by decide +kernel) rfl rfl rfl ?_
        refine sr_getr (q := 66) C fl_X12_70 hv0 (show decode cX12_cut 63 = .ok (.getfield 70, 3) from by decide +kernel) rfl ?_
        refine sr_iload (i := 5) (q := 68) C (show decode cX12_cut 66 = .ok (.iload 5, 2) from by decide +kernel) rfl rfl ?_
        refine sr_iconst (v := (1 : Int32)) (q := 69) C (show decode cX12_cut 68 = .ok (.iconst 1, 1) from by decide +kernel) (by decide) rfl ?_
        refine sr_iadd (q := 70) C (show decode cX12_cut 69 = .ok (.iadd, 1) from by decide +kernel) rfl ?_
        refine sr_iaload (q := 71) C (kt hv0 kp_12_37) (show decode cX12_cut 70 = .ok (.iaload, 1) from by decide +kernel) rfl (fun x70 => ?_)
        refine sr_iconst (v := (-1 : Int32)) (q := 72) C (show decode cX12_cut 71 = .ok (.iconst (-1), 1) from by decide +kernel) (by decide) rfl ?_
        refine sr_icmp_ne (q := 75) C 82 (show decode cX12_cut 72 = .ok (.if_icmp .ne 10, 3) from by decide +kernel) (by decide) rfl ?_ ?_
        · refine sr_weak (L' := [some (xad κ v0), none, none, none, some (.int v4), none]) ⟨rfl, rfl, trivial⟩ ?_
          exact slX12_cut_J82 C K31 v0 v4 v3 hv0
        · refine sr_iconst (v := (1 : Int32)) (q := 76) C (show decode cX12_cut 75 = .ok (.iconst 1, 1) from by decide +kernel) (by decide) rfl ?_
          refine sr_iload (i := 4) (q := 78) C (show decode cX12_cut 76 = .ok (.iload 4, 2) from by decide +kernel) rfl rfl ?_
          refine sr_ishl (q := 79) C (show decode cX12_cut 78 = .ok (.ishl, 1) from by decide +kernel) rfl ?_
          refine sr_goto (q := 83) C (show decode cX12_cut 79 = .ok (.goto 4, 3) from by decide +kernel) (by decide) ?_
          refine sr_weak (L' := [some (xad κ v0), none, none, none, some (.int v4), none]) ⟨rfl, rfl, trivial⟩ ?_
          exact slX12_cut_J83 C K31 v0 v4 ((1 : Int32) <<< (v4 &&& 31)) v3 hv0
def fnX12_cut (v0 : Nat) (v1 : Int32) (v2 : Int32) : sm_M Int32 := m_bnd (fnX12_isLoad v0 v1 v2) fun x3 => m_br ((bI x3) = 0)
    (m_ret (-2 : Int32))
    (m_bnd (fnX12_mostOf v0 v1 v2) fun x15 => m_br (x15 = (999 : Int32))
    (m_ret (0 : Int32))
    (fnX12_cut_L31 4096 v0 (0 : Int32) (0 : Int32)))
set_option maxHeartbeats 4000000 in
set_option maxRecDepth 100000 in
theorem slX12_cut {κ : sm_X} (C : sm_C κ RX12 cX12_cut 6 6) (v0 : Nat) (v1 : Int32) (v2 : Int32) (hv0 : kd v0 = 12) : sm_S κ (fun r : Int32 => .inr (some (.int r))) (.inl (0, [some (xad κ v0), some (.int v1), some (.int v2), none, none, none], [])) (fnX12_cut v0 v1 v2) := by
  unfold fnX12_cut
  refine sr_aload_n (i := 0) (q := 1) C (show decode cX12_cut 0 = .ok (.aload_n 0, 1) from by decide +kernel) rfl rfl rfl ?_
  refine sr_iload_n (i := 1) (q := 2) C (show decode cX12_cut 1 = .ok (.iload_n 1, 1) from by decide +kernel) rfl rfl rfl ?_
  refine sr_iload_n (i := 2) (q := 3) C (show decode cX12_cut 2 = .ok (.iload_n 2, 1) from by decide +kernel) rfl rfl rfl ?_
  refine sr_cVz (As := [.int v1, .int v2]) (st := []) (b := v0) (q := 6) C yvX12_isLoad ml_X12_453 (cnX12_isLoad (xo κ) v0 v1 v2 hv0) hv0 (by decide) rfl rfl rfl (by decide) (by decide) (Nat.le_of_ble_eq_true rfl) rfl (show decode cX12_cut 3 = .ok (.invokevirtual 453, 3) from by decide +kernel) rfl (fun x3 => ?_)
  refine sr_if_ne (q := 9) C 12 (show decode cX12_cut 6 = .ok (.ifCond .ne 6, 3) from by decide +kernel) (by decide) rfl ?_ ?_
  · refine sr_aload_n (i := 0) (q := 13) C (show decode cX12_cut 12 = .ok (.aload_n 0, 1) from by decide +kernel) rfl rfl rfl ?_
    refine sr_iload_n (i := 1) (q := 14) C (show decode cX12_cut 13 = .ok (.iload_n 1, 1) from by decide +kernel) rfl rfl rfl ?_
    refine sr_iload_n (i := 2) (q := 15) C (show decode cX12_cut 14 = .ok (.iload_n 2, 1) from by decide +kernel) rfl rfl rfl ?_
    refine sr_cVi (As := [.int v1, .int v2]) (st := []) (b := v0) (q := 18) C yvX12_mostOf ml_X12_456 (cnX12_mostOf (xo κ) v0 v1 v2 hv0) hv0 (by decide) rfl rfl rfl (by decide) (by decide) (Nat.le_of_ble_eq_true rfl) rfl (show decode cX12_cut 15 = .ok (.invokevirtual 456, 3) from by decide +kernel) rfl (fun x15 => ?_)
    refine sr_sipush (v := (999 : Int32)) (q := 21) C (show decode cX12_cut 18 = .ok (.sipush 999, 3) from by decide +kernel) (by decide) rfl ?_
    refine sr_icmp_ne (q := 24) C 26 (show decode cX12_cut 21 = .ok (.if_icmp .ne 5, 3) from by decide +kernel) (by decide) rfl ?_ ?_
    · refine sr_iconst (v := (0 : Int32)) (q := 27) C (show decode cX12_cut 26 = .ok (.iconst 0, 1) from by decide +kernel) (by decide) rfl ?_
      refine sr_istore_n (i := 3) (L' := [some (xad κ v0), some (.int v1), some (.int v2), some (.int (0 : Int32)), none, none]) (q := 28) C (show decode cX12_cut 27 = .ok (.istore_n 3, 1) from by decide +kernel) rfl (by decide) rfl rfl ?_
      refine sr_iconst (v := (0 : Int32)) (q := 29) C (show decode cX12_cut 28 = .ok (.iconst 0, 1) from by decide +kernel) (by decide) rfl ?_
      refine sr_istore (i := 4) (L' := [some (xad κ v0), some (.int v1), some (.int v2), some (.int (0 : Int32)), some (.int (0 : Int32)), none]) (q := 31) C (show decode cX12_cut 29 = .ok (.istore 4, 2) from by decide +kernel) (by decide) rfl rfl ?_
      refine sr_weak (L' := [some (xad κ v0), none, none, some (.int (0 : Int32)), some (.int (0 : Int32)), none]) ⟨rfl, rfl, rfl, trivial⟩ ?_
      exact slX12_cut_L31 C 4096 v0 (0 : Int32) (0 : Int32) hv0
    · refine sr_iconst (v := (0 : Int32)) (q := 25) C (show decode cX12_cut 24 = .ok (.iconst 0, 1) from by decide +kernel) (by decide) rfl ?_
      exact sr_ireturn C _ rfl (show decode cX12_cut 25 = .ok (.ireturn, 1) from by decide +kernel)
  · refine sr_bipush (v := (-2 : Int32)) (q := 11) C (show decode cX12_cut 9 = .ok (.bipush (-2), 2) from by decide +kernel) (by decide) rfl ?_
    exact sr_ireturn C _ rfl (show decode cX12_cut 11 = .ok (.ireturn, 1) from by decide +kernel)
theorem cnX12_cut (ω : sm_O) (v0 : Nat) (v1 : Int32) (v2 : Int32) (hv0 : kd v0 = 12) : sm_Mt 6 yX12_cut cX12_cut 6 (some .int) ω [.ref (ω.1 + v0), .int v1, .int v2] (fun a => some (.int a)) (fnX12_cut v0 v1 v2) := by
  refine sm_conI (r := fun a => a) (by decide) (fun _ => rfl) (Nat.le_of_ble_eq_true rfl) ?_
  intro κ hκ C
  subst hκ
  exact slX12_cut C v0 v1 v2 hv0
def fnX12_cut_ (v0 : Int64) (v2 : Int32) : sm_M Int64 := m_nm ((64 : Int32) - ((8 : Int32) <<< (v2 &&& 31))) fun y7 => m_ret ((v0 <<< (y7.toInt64 &&& 63)) >>> (y7.toInt64 &&& 63))
set_option maxHeartbeats 4000000 in
set_option maxRecDepth 100000 in
theorem slX12_cut_ {κ : sm_X} (C : sm_C κ RX12 cX12_cut_ 4 1) (v0 : Int64) (v2 : Int32)  : sm_S κ (fun r : Int64 => .inr (some (.long r))) (.inl (0, [some (.long v0), none, some (.int v2), none], [])) (fnX12_cut_ v0 v2) := by
  unfold fnX12_cut_
  refine sr_bipush (v := (64 : Int32)) (q := 2) C (show decode cX12_cut_ 0 = .ok (.bipush 64, 2) from by decide +kernel) (by decide) rfl ?_
  refine sr_bipush (v := (8 : Int32)) (q := 4) C (show decode cX12_cut_ 2 = .ok (.bipush 8, 2) from by decide +kernel) (by decide) rfl ?_
  refine sr_iload_n (i := 2) (q := 5) C (show decode cX12_cut_ 4 = .ok (.iload_n 2, 1) from by decide +kernel) rfl rfl rfl ?_
  refine sr_ishl (q := 6) C (show decode cX12_cut_ 5 = .ok (.ishl, 1) from by decide +kernel) rfl ?_
  refine sr_isub (q := 7) C (show decode cX12_cut_ 6 = .ok (.isub, 1) from by decide +kernel) rfl ?_
  refine sr_nmi (fun y7 => ?_)
  refine sr_istore_n (i := 3) (L' := [some (.long v0), none, some (.int v2), some (.int y7)]) (q := 8) C (show decode cX12_cut_ 7 = .ok (.istore_n 3, 1) from by decide +kernel) rfl (by decide) rfl rfl ?_
  refine sr_lload_n (i := 0) (q := 9) C (show decode cX12_cut_ 8 = .ok (.lload_n 0, 1) from by decide +kernel) rfl rfl rfl ?_
  refine sr_iload_n (i := 3) (q := 10) C (show decode cX12_cut_ 9 = .ok (.iload_n 3, 1) from by decide +kernel) rfl rfl rfl ?_
  refine sr_lshl (q := 11) C (show decode cX12_cut_ 10 = .ok (.lshl, 1) from by decide +kernel) rfl ?_
  refine sr_iload_n (i := 3) (q := 12) C (show decode cX12_cut_ 11 = .ok (.iload_n 3, 1) from by decide +kernel) rfl rfl rfl ?_
  refine sr_lshr (q := 13) C (show decode cX12_cut_ 12 = .ok (.lshr, 1) from by decide +kernel) rfl ?_
  exact sr_lreturn C _ rfl (show decode cX12_cut_ 13 = .ok (.lreturn, 1) from by decide +kernel)
theorem cnX12_cut_ (ω : sm_O) (v0 : Int64) (v2 : Int32)  : sm_Mt 1 yX12_cut_ cX12_cut_ 4 (some .long) ω [.long v0, .int v2] (fun a => some (.long a)) (fnX12_cut_ v0 v2) := by
  refine sm_conL (r := fun a => a) (by decide) (Nat.le_of_ble_eq_true rfl) ?_
  intro κ hκ C
  subst hκ
  exact slX12_cut_ C v0 v2
def fnX12_freshens_L2 : Nat → Nat → Int32 → sm_M Unit
  | 0, _, _ => m_fail
  | n + 1, v0, v1 => m_ai (lk v0 1) (3 : Int32) fun x8 => m_br (x8 ≤ v1)
    (m_ret ())
    (m_bnd (fnX12_setStone v0 v1 (6 : Int32) (0 : Int32)) fun _ => (fnX12_freshens_L2 n) v0 (v1 + (1 : Int32)))
set_option maxHeartbeats 4000000 in
set_option maxRecDepth 100000 in
theorem slX12_freshens_L2 {κ : sm_X} (C : sm_C κ RX12 cX12_freshens 2 2) : ∀ (n : Nat) (v0 : Nat) (v1 : Int32) (hv0 : kd v0 = 12), sm_S κ (fun _ : Unit => .inr none) (.inl (2, [some (xad κ v0), some (.int v1)], [])) (fnX12_freshens_L2 n v0 v1) := by
  intro n
  induction n with
  | zero =>
    intros
    exact sr_fail
  | succ n K2 =>
    intro v0 v1 hv0
    unfold fnX12_freshens_L2
    refine sr_iload_n (i := 1) (q := 3) C (show decode cX12_freshens 2 = .ok (.iload_n 1, 1) from by decide +kernel) rfl rfl rfl ?_
    refine sr_aload_n (i := 0) (q := 4) C (show decode cX12_freshens 3 = .ok (.aload_n 0, 1) from by decide +kernel) rfl rfl rfl ?_
    refine sr_getr (q := 7) C fl_X12_9 hv0 (show decode cX12_freshens 4 = .ok (.getfield 9, 3) from by decide +kernel) rfl ?_
    refine sr_iconst (v := (3 : Int32)) (q := 8) C (show decode cX12_freshens 7 = .ok (.iconst 3, 1) from by decide +kernel) (by decide) rfl ?_
    refine sr_iaload (q := 9) C (kt hv0 kp_12_1) (show decode cX12_freshens 8 = .ok (.iaload, 1) from by decide +kernel) rfl (fun x8 => ?_)
    refine sr_icmp_ge (q := 12) C 26 (show decode cX12_freshens 9 = .ok (.if_icmp .ge 17, 3) from by decide +kernel) (by decide) rfl ?_ ?_
    · exact sr_vreturn C _ rfl (show decode cX12_freshens 26 = .ok (.return_, 1) from by decide +kernel)
    · refine sr_aload_n (i := 0) (q := 13) C (show decode cX12_freshens 12 = .ok (.aload_n 0, 1) from by decide +kernel) rfl rfl rfl ?_
      refine sr_iload_n (i := 1) (q := 14) C (show decode cX12_freshens 13 = .ok (.iload_n 1, 1) from by decide +kernel) rfl rfl rfl ?_
      refine sr_bipush (v := (6 : Int32)) (q := 16) C (show decode cX12_freshens 14 = .ok (.bipush 6, 2) from by decide +kernel) (by decide) rfl ?_
      refine sr_iconst (v := (0 : Int32)) (q := 17) C (show decode cX12_freshens 16 = .ok (.iconst 0, 1) from by decide +kernel) (by decide) rfl ?_
      refine sr_cVv (As := [.int v1, .int (6 : Int32), .int (0 : Int32)]) (st := []) (b := v0) (q := 20) C yvX12_setStone ml_X12_279 (cnX12_setStone (xo κ) v0 v1 (6 : Int32) (0 : Int32) hv0) hv0 (by decide) rfl rfl rfl (by decide) (by decide) (Nat.le_of_ble_eq_true rfl) rfl (show decode cX12_freshens 17 = .ok (.invokevirtual 279, 3) from by decide +kernel) rfl (fun _ => ?_)
      refine sr_iinc (v := v1 + (1 : Int32)) (L' := [some (xad κ v0), some (.int (v1 + (1 : Int32)))]) (q := 23) C (show decode cX12_freshens 20 = .ok (.iinc 1 1, 3) from by decide +kernel) rfl rfl (by decide) rfl rfl ?_
      refine sr_goto (q := 2) C (show decode cX12_freshens 23 = .ok (.goto (-21), 3) from by decide +kernel) (by decide) ?_
      exact K2 v0 (v1 + (1 : Int32)) hv0
def fnX12_freshens (v0 : Nat) : sm_M Unit := fnX12_freshens_L2 4096 v0 (0 : Int32)
set_option maxHeartbeats 4000000 in
set_option maxRecDepth 100000 in
theorem slX12_freshens {κ : sm_X} (C : sm_C κ RX12 cX12_freshens 2 2) (v0 : Nat) (hv0 : kd v0 = 12) : sm_S κ (fun _ : Unit => .inr none) (.inl (0, [some (xad κ v0), none], [])) (fnX12_freshens v0) := by
  unfold fnX12_freshens
  refine sr_iconst (v := (0 : Int32)) (q := 1) C (show decode cX12_freshens 0 = .ok (.iconst 0, 1) from by decide +kernel) (by decide) rfl ?_
  refine sr_istore_n (i := 1) (L' := [some (xad κ v0), some (.int (0 : Int32))]) (q := 2) C (show decode cX12_freshens 1 = .ok (.istore_n 1, 1) from by decide +kernel) rfl (by decide) rfl rfl ?_
  exact slX12_freshens_L2 C 4096 v0 (0 : Int32) hv0
theorem cnX12_freshens (ω : sm_O) (v0 : Nat) (hv0 : kd v0 = 12) : sm_Mt 2 yX12_freshens cX12_freshens 2 none ω [.ref (ω.1 + v0)] (fun _ => none) (fnX12_freshens v0) := by
  refine sm_conV (by decide) (Nat.le_of_ble_eq_true rfl) ?_
  intro κ hκ C
  subst hκ
  exact slX12_freshens C v0 hv0
def fnX12_isSomebodyHere_L2 : Nat → Nat → Int32 → sm_M Bool
  | 0, _, _ => m_fail
  | n + 1, v0, v1 => m_ai (lk v0 1) (4 : Int32) fun x8 => m_br (x8 ≤ v1)
    (m_ret false)
    (m_bnd (fnX12_of v0 v1 (6 : Int32)) fun x16 => m_br (x16 = (98 : Int32))
    (m_ret true)
    ((fnX12_isSomebodyHere_L2 n) v0 (v1 + (1 : Int32))))
set_option maxHeartbeats 4000000 in
set_option maxRecDepth 100000 in
theorem slX12_isSomebodyHere_L2 {κ : sm_X} (C : sm_C κ RX12 cX12_isSomebodyHere 2 2) : ∀ (n : Nat) (v0 : Nat) (v1 : Int32) (hv0 : kd v0 = 12), sm_S κ (fun r : Bool => .inr (some (.int (bI r)))) (.inl (2, [some (xad κ v0), some (.int v1)], [])) (fnX12_isSomebodyHere_L2 n v0 v1) := by
  intro n
  induction n with
  | zero =>
    intros
    exact sr_fail
  | succ n K2 =>
    intro v0 v1 hv0
    unfold fnX12_isSomebodyHere_L2
    refine sr_iload_n (i := 1) (q := 3) C (show decode cX12_isSomebodyHere 2 = .ok (.iload_n 1, 1) from by decide +kernel) rfl rfl rfl ?_
    refine sr_aload_n (i := 0) (q := 4) C (show decode cX12_isSomebodyHere 3 = .ok (.aload_n 0, 1) from by decide +kernel) rfl rfl rfl ?_
    refine sr_getr (q := 7) C fl_X12_9 hv0 (show decode cX12_isSomebodyHere 4 = .ok (.getfield 9, 3) from by decide +kernel) rfl ?_
    refine sr_iconst (v := (4 : Int32)) (q := 8) C (show decode cX12_isSomebodyHere 7 = .ok (.iconst 4, 1) from by decide +kernel) (by decide) rfl ?_
    refine sr_iaload (q := 9) C (kt hv0 kp_12_1) (show decode cX12_isSomebodyHere 8 = .ok (.iaload, 1) from by decide +kernel) rfl (fun x8 => ?_)
    refine sr_icmp_ge (q := 12) C 32 (show decode cX12_isSomebodyHere 9 = .ok (.if_icmp .ge 23, 3) from by decide +kernel) (by decide) rfl ?_ ?_
    · refine sr_iconst (v := (0 : Int32)) (q := 33) C (show decode cX12_isSomebodyHere 32 = .ok (.iconst 0, 1) from by decide +kernel) (by decide) rfl ?_
      exact sr_ireturn C false rfl (show decode cX12_isSomebodyHere 33 = .ok (.ireturn, 1) from by decide +kernel)
    · refine sr_aload_n (i := 0) (q := 13) C (show decode cX12_isSomebodyHere 12 = .ok (.aload_n 0, 1) from by decide +kernel) rfl rfl rfl ?_
      refine sr_iload_n (i := 1) (q := 14) C (show decode cX12_isSomebodyHere 13 = .ok (.iload_n 1, 1) from by decide +kernel) rfl rfl rfl ?_
      refine sr_bipush (v := (6 : Int32)) (q := 16) C (show decode cX12_isSomebodyHere 14 = .ok (.bipush 6, 2) from by decide +kernel) (by decide) rfl ?_
      refine sr_cVi (As := [.int v1, .int (6 : Int32)]) (st := []) (b := v0) (q := 19) C yvX12_of ml_X12_289 (cnX12_of (xo κ) v0 v1 (6 : Int32) hv0) hv0 (by decide) rfl rfl rfl (by decide) (by decide) (Nat.le_of_ble_eq_true rfl) rfl (show decode cX12_isSomebodyHere 16 = .ok (.invokevirtual 289, 3) from by decide +kernel) rfl (fun x16 => ?_)
      refine sr_bipush (v := (98 : Int32)) (q := 21) C (show decode cX12_isSomebodyHere 19 = .ok (.bipush 98, 2) from by decide +kernel) (by decide) rfl ?_
      refine sr_icmp_ne (q := 24) C 26 (show decode cX12_isSomebodyHere 21 = .ok (.if_icmp .ne 5, 3) from by decide +kernel) (by decide) rfl ?_ ?_
      · refine sr_iinc (v := v1 + (1 : Int32)) (L' := [some (xad κ v0), some (.int (v1 + (1 : Int32)))]) (q := 29) C (show decode cX12_isSomebodyHere 26 = .ok (.iinc 1 1, 3) from by decide +kernel) rfl rfl (by decide) rfl rfl ?_
        refine sr_goto (q := 2) C (show decode cX12_isSomebodyHere 29 = .ok (.goto (-27), 3) from by decide +kernel) (by decide) ?_
        exact K2 v0 (v1 + (1 : Int32)) hv0
      · refine sr_iconst (v := (1 : Int32)) (q := 25) C (show decode cX12_isSomebodyHere 24 = .ok (.iconst 1, 1) from by decide +kernel) (by decide) rfl ?_
        exact sr_ireturn C true rfl (show decode cX12_isSomebodyHere 25 = .ok (.ireturn, 1) from by decide +kernel)
def fnX12_isSomebodyHere (v0 : Nat) : sm_M Bool := fnX12_isSomebodyHere_L2 4096 v0 (0 : Int32)
set_option maxHeartbeats 4000000 in
set_option maxRecDepth 100000 in
theorem slX12_isSomebodyHere {κ : sm_X} (C : sm_C κ RX12 cX12_isSomebodyHere 2 2) (v0 : Nat) (hv0 : kd v0 = 12) : sm_S κ (fun r : Bool => .inr (some (.int (bI r)))) (.inl (0, [some (xad κ v0), none], [])) (fnX12_isSomebodyHere v0) := by
  unfold fnX12_isSomebodyHere
  refine sr_iconst (v := (0 : Int32)) (q := 1) C (show decode cX12_isSomebodyHere 0 = .ok (.iconst 0, 1) from by decide +kernel) (by decide) rfl ?_
  refine sr_istore_n (i := 1) (L' := [some (xad κ v0), some (.int (0 : Int32))]) (q := 2) C (show decode cX12_isSomebodyHere 1 = .ok (.istore_n 1, 1) from by decide +kernel) rfl (by decide) rfl rfl ?_
  exact slX12_isSomebodyHere_L2 C 4096 v0 (0 : Int32) hv0
theorem cnX12_isSomebodyHere (ω : sm_O) (v0 : Nat) (hv0 : kd v0 = 12) : sm_Mt 2 yX12_isSomebodyHere cX12_isSomebodyHere 2 (some .boolean) ω [.ref (ω.1 + v0)] (fun a => some (.int (bI a))) (fnX12_isSomebodyHere v0) := by
  refine sm_conI (r := bI) (by decide) bI_nar (Nat.le_of_ble_eq_true rfl) ?_
  intro κ hκ C
  subst hκ
  exact slX12_isSomebodyHere C v0 hv0
def fnX12_days_J58 (v0 : Nat) (v2 : Int32) (v3 : Int32) : sm_M Int32 := m_bnd (fnX12_wakes v0) fun _ => m_br (v3 = 0)
    (m_ret (-1 : Int32))
    (m_ret v2)
set_option maxHeartbeats 4000000 in
set_option maxRecDepth 100000 in
theorem slX12_days_J58 {κ : sm_X} (C : sm_C κ RX12 cX12_days 4 11) (v0 : Nat) (v2 : Int32) (v3 : Int32) (hv0 : kd v0 = 12) : sm_S κ (fun r : Int32 => .inr (some (.int r))) (.inl (58, [some (xad κ v0), none, some (.int v2), some (.int v3)], [])) (fnX12_days_J58 v0 v2 v3) := by
  unfold fnX12_days_J58
  refine sr_aload_n (i := 0) (q := 59) C (show decode cX12_days 58 = .ok (.aload_n 0, 1) from by decide +kernel) rfl rfl rfl ?_
  refine sr_cVv (As := []) (st := []) (b := v0) (q := 62) C yvX12_wakes ml_X12_345 (cnX12_wakes (xo κ) v0 hv0) hv0 (by decide) rfl rfl rfl (by decide) (by decide) (Nat.le_of_ble_eq_true rfl) rfl (show decode cX12_days 59 = .ok (.invokevirtual 345, 3) from by decide +kernel) rfl (fun _ => ?_)
  refine sr_iload_n (i := 3) (q := 63) C (show decode cX12_days 62 = .ok (.iload_n 3, 1) from by decide +kernel) rfl rfl rfl ?_
  refine sr_if_eq (q := 66) C 70 (show decode cX12_days 63 = .ok (.ifCond .eq 7, 3) from by decide +kernel) (by decide) rfl ?_ ?_
  · refine sr_iconst (v := (-1 : Int32)) (q := 71) C (show decode cX12_days 70 = .ok (.iconst (-1), 1) from by decide +kernel) (by decide) rfl ?_
    exact sr_ireturn C _ rfl (show decode cX12_days 71 = .ok (.ireturn, 1) from by decide +kernel)
  · refine sr_iload_n (i := 2) (q := 67) C (show decode cX12_days 66 = .ok (.iload_n 2, 1) from by decide +kernel) rfl rfl rfl ?_
    refine sr_goto (q := 71) C (show decode cX12_days 67 = .ok (.goto 4, 3) from by decide +kernel) (by decide) ?_
    exact sr_ireturn C _ rfl (show decode cX12_days 71 = .ok (.ireturn, 1) from by decide +kernel)
def fnX12_days_J51 (k19 : Nat → Int32 → Int32 → Int32 → sm_M Int32) (v0 : Nat) (v1 : Int32) (v2 : Int32) (s0 : Int32) : sm_M Int32 := k19 v0 v1 (v2 + (1 : Int32)) s0
set_option maxHeartbeats 4000000 in
set_option maxRecDepth 100000 in
theorem slX12_days_J51 {κ : sm_X} (C : sm_C κ RX12 cX12_days 4 11) {k19 : Nat → Int32 → Int32 → Int32 → sm_M Int32} (K19 : ∀ (v0 : Nat) (v1 : Int32) (v2 : Int32) (v3 : Int32) (hv0 : kd v0 = 12), sm_S κ (fun r : Int32 => .inr (some (.int r))) (.inl (19, [some (xad κ v0), some (.int v1), some (.int v2), some (.int v3)], [])) (k19 v0 v1 v2 v3)) (v0 : Nat) (v1 : Int32) (v2 : Int32) (s0 : Int32) (hv0 : kd v0 = 12) : sm_S κ (fun r : Int32 => .inr (some (.int r))) (.inl (51, [some (xad κ v0), some (.int v1), some (.int v2), none], [.int s0])) (fnX12_days_J51 k19 v0 v1 v2 s0) := by
  unfold fnX12_days_J51
  refine sr_istore_n (i := 3) (L' := [some (xad κ v0), some (.int v1), some (.int v2), some (.int s0)]) (q := 52) C (show decode cX12_days 51 = .ok (.istore_n 3, 1) from by decide +kernel) rfl (by decide) rfl rfl ?_
  refine sr_iinc (v := v2 + (1 : Int32)) (L' := [some (xad κ v0), some (.int v1), some (.int (v2 + (1 : Int32))), some (.int s0)]) (q := 55) C (show decode cX12_days 52 = .ok (.iinc 2 1, 3) from by decide +kernel) rfl rfl (by decide) rfl rfl ?_
  refine sr_goto (q := 19) C (show decode cX12_days 55 = .ok (.goto (-36), 3) from by decide +kernel) (by decide) ?_
  exact K19 v0 v1 (v2 + (1 : Int32)) s0 hv0
def fnX12_days_L19 : Nat → Nat → Int32 → Int32 → Int32 → sm_M Int32
  | 0, _, _, _, _ => m_fail
  | n + 1, v0, v1, v2, v3 => m_br (v3 = 0)
    (fnX12_days_J58 v0 v2 v3)
    (m_bnd (fnX12_isSomebodyHere v0) fun x24 => m_br ((bI x24) = 0)
    (fnX12_days_J58 v0 v2 v3)
    (m_bnd (fnX12_freshens v0) fun _ => m_bnd (fnX12_allGoOver v0 v1) fun _ => m_gi v0 22 fun x40 => m_br (x40 ≤ 0)
    (fnX12_days_J51 (fnX12_days_L19 n) v0 v1 v2 (0 : Int32))
    (fnX12_days_J51 (fnX12_days_L19 n) v0 v1 v2 (1 : Int32))))
set_option maxHeartbeats 4000000 in
set_option maxRecDepth 100000 in
theorem slX12_days_L19 {κ : sm_X} (C : sm_C κ RX12 cX12_days 4 11) : ∀ (n : Nat) (v0 : Nat) (v1 : Int32) (v2 : Int32) (v3 : Int32) (hv0 : kd v0 = 12), sm_S κ (fun r : Int32 => .inr (some (.int r))) (.inl (19, [some (xad κ v0), some (.int v1), some (.int v2), some (.int v3)], [])) (fnX12_days_L19 n v0 v1 v2 v3) := by
  intro n
  induction n with
  | zero =>
    intros
    exact sr_fail
  | succ n K19 =>
    intro v0 v1 v2 v3 hv0
    unfold fnX12_days_L19
    refine sr_iload_n (i := 3) (q := 20) C (show decode cX12_days 19 = .ok (.iload_n 3, 1) from by decide +kernel) rfl rfl rfl ?_
    refine sr_if_eq (q := 23) C 58 (show decode cX12_days 20 = .ok (.ifCond .eq 38, 3) from by decide +kernel) (by decide) rfl ?_ ?_
    · refine sr_weak (L' := [some (xad κ v0), none, some (.int v2), some (.int v3)]) ⟨rfl, rfl, rfl, trivial⟩ ?_
      exact slX12_days_J58 C v0 v2 v3 hv0
    · refine sr_aload_n (i := 0) (q := 24) C (show decode cX12_days 23 = .ok (.aload_n 0, 1) from by decide +kernel) rfl rfl rfl ?_
      refine sr_cVz (As := []) (st := []) (b := v0) (q := 27) C yvX12_isSomebodyHere ml_X12_429 (cnX12_isSomebodyHere (xo κ) v0 hv0) hv0 (by decide) rfl rfl rfl (by decide) (by decide) (Nat.le_of_ble_eq_true rfl) rfl (show decode cX12_days 24 = .ok (.invokevirtual 429, 3) from by decide +kernel) rfl (fun x24 => ?_)
      refine sr_if_eq (q := 30) C 58 (show decode cX12_days 27 = .ok (.ifCond .eq 31, 3) from by decide +kernel) (by decide) rfl ?_ ?_
      · refine sr_weak (L' := [some (xad κ v0), none, some (.int v2), some (.int v3)]) ⟨rfl, rfl, rfl, trivial⟩ ?_
        exact slX12_days_J58 C v0 v2 v3 hv0
      · refine sr_aload_n (i := 0) (q := 31) C (show decode cX12_days 30 = .ok (.aload_n 0, 1) from by decide +kernel) rfl rfl rfl ?_
        refine sr_cVv (As := []) (st := []) (b := v0) (q := 34) C yvX12_freshens ml_X12_286 (cnX12_freshens (xo κ) v0 hv0) hv0 (by decide) rfl rfl rfl (by decide) (by decide) (Nat.le_of_ble_eq_true rfl) rfl (show decode cX12_days 31 = .ok (.invokevirtual 286, 3) from by decide +kernel) rfl (fun _ => ?_)
        refine sr_aload_n (i := 0) (q := 35) C (show decode cX12_days 34 = .ok (.aload_n 0, 1) from by decide +kernel) rfl rfl rfl ?_
        refine sr_iload_n (i := 1) (q := 36) C (show decode cX12_days 35 = .ok (.iload_n 1, 1) from by decide +kernel) rfl rfl rfl ?_
        refine sr_cVv (As := [.int v1]) (st := []) (b := v0) (q := 39) C yvX12_allGoOver ml_X12_399 (cnX12_allGoOver (xo κ) v0 v1 hv0) hv0 (by decide) rfl rfl rfl (by decide) (by decide) (Nat.le_of_ble_eq_true rfl) rfl (show decode cX12_days 36 = .ok (.invokevirtual 399, 3) from by decide +kernel) rfl (fun _ => ?_)
        refine sr_aload_n (i := 0) (q := 40) C (show decode cX12_days 39 = .ok (.aload_n 0, 1) from by decide +kernel) rfl rfl rfl ?_
        refine sr_geti (q := 43) C fl_X12_372 (Or.inl rfl) hv0 (show decode cX12_days 40 = .ok (.getfield 372, 3) from by decide +kernel) rfl (fun x40 => ?_)
        refine sr_if_le (q := 46) C 50 (show decode cX12_days 43 = .ok (.ifCond .le 7, 3) from by decide +kernel) (by decide) rfl ?_ ?_
        · refine sr_iconst (v := (0 : Int32)) (q := 51) C (show decode cX12_days 50 = .ok (.iconst 0, 1) from by decide +kernel) (by decide) rfl ?_
          refine sr_weak (L' := [some (xad κ v0), some (.int v1), some (.int v2), none]) ⟨rfl, rfl, rfl, trivial⟩ ?_
          exact slX12_days_J51 C K19 v0 v1 v2 (0 : Int32) hv0
        · refine sr_iconst (v := (1 : Int32)) (q := 47) C (show decode cX12_days 46 = .ok (.iconst 1, 1) from by decide +kernel) (by decide) rfl ?_
          refine sr_goto (q := 51) C (show decode cX12_days 47 = .ok (.goto 4, 3) from by decide +kernel) (by decide) ?_
          refine sr_weak (L' := [some (xad κ v0), some (.int v1), some (.int v2), none]) ⟨rfl, rfl, rfl, trivial⟩ ?_
          exact slX12_days_J51 C K19 v0 v1 v2 (1 : Int32) hv0
def fnX12_days (v0 : Nat) (v1 : Int32) : sm_M Int32 := m_bnd (fnX12_isWay v0 v1) fun x2 => m_br ((bI x2) = 0)
    (m_ret (-2 : Int32))
    (m_bnd (fnX12_thinks v0) fun _ => fnX12_days_L19 4096 v0 v1 (0 : Int32) (1 : Int32))
set_option maxHeartbeats 4000000 in
set_option maxRecDepth 100000 in
theorem slX12_days {κ : sm_X} (C : sm_C κ RX12 cX12_days 4 11) (v0 : Nat) (v1 : Int32) (hv0 : kd v0 = 12) : sm_S κ (fun r : Int32 => .inr (some (.int r))) (.inl (0, [some (xad κ v0), some (.int v1), none, none], [])) (fnX12_days v0 v1) := by
  unfold fnX12_days
  refine sr_aload_n (i := 0) (q := 1) C (show decode cX12_days 0 = .ok (.aload_n 0, 1) from by decide +kernel) rfl rfl rfl ?_
  refine sr_iload_n (i := 1) (q := 2) C (show decode cX12_days 1 = .ok (.iload_n 1, 1) from by decide +kernel) rfl rfl rfl ?_
  refine sr_cVz (As := [.int v1]) (st := []) (b := v0) (q := 5) C yvX12_isWay ml_X12_366 (cnX12_isWay (xo κ) v0 v1 hv0) hv0 (by decide) rfl rfl rfl (by decide) (by decide) (Nat.le_of_ble_eq_true rfl) rfl (show decode cX12_days 2 = .ok (.invokevirtual 366, 3) from by decide +kernel) rfl (fun x2 => ?_)
  refine sr_if_ne (q := 8) C 11 (show decode cX12_days 5 = .ok (.ifCond .ne 6, 3) from by decide +kernel) (by decide) rfl ?_ ?_
  · refine sr_aload_n (i := 0) (q := 12) C (show decode cX12_days 11 = .ok (.aload_n 0, 1) from by decide +kernel) rfl rfl rfl ?_
    refine sr_cVv (As := []) (st := []) (b := v0) (q := 15) C yvX12_thinks ml_X12_339 (cnX12_thinks (xo κ) v0 hv0) hv0 (by decide) rfl rfl rfl (by decide) (by decide) (Nat.le_of_ble_eq_true rfl) rfl (show decode cX12_days 12 = .ok (.invokevirtual 339, 3) from by decide +kernel) rfl (fun _ => ?_)
    refine sr_iconst (v := (0 : Int32)) (q := 16) C (show decode cX12_days 15 = .ok (.iconst 0, 1) from by decide +kernel) (by decide) rfl ?_
    refine sr_istore_n (i := 2) (L' := [some (xad κ v0), some (.int v1), some (.int (0 : Int32)), none]) (q := 17) C (show decode cX12_days 16 = .ok (.istore_n 2, 1) from by decide +kernel) rfl (by decide) rfl rfl ?_
    refine sr_iconst (v := (1 : Int32)) (q := 18) C (show decode cX12_days 17 = .ok (.iconst 1, 1) from by decide +kernel) (by decide) rfl ?_
    refine sr_istore_n (i := 3) (L' := [some (xad κ v0), some (.int v1), some (.int (0 : Int32)), some (.int (1 : Int32))]) (q := 19) C (show decode cX12_days 18 = .ok (.istore_n 3, 1) from by decide +kernel) rfl (by decide) rfl rfl ?_
    exact slX12_days_L19 C 4096 v0 v1 (0 : Int32) (1 : Int32) hv0
  · refine sr_bipush (v := (-2 : Int32)) (q := 10) C (show decode cX12_days 8 = .ok (.bipush (-2), 2) from by decide +kernel) (by decide) rfl ?_
    exact sr_ireturn C _ rfl (show decode cX12_days 10 = .ok (.ireturn, 1) from by decide +kernel)
theorem cnX12_days (ω : sm_O) (v0 : Nat) (v1 : Int32) (hv0 : kd v0 = 12) : sm_Mt 11 yX12_days cX12_days 4 (some .int) ω [.ref (ω.1 + v0), .int v1] (fun a => some (.int a)) (fnX12_days v0 v1) := by
  refine sm_conI (r := fun a => a) (by decide) (fun _ => rfl) (Nat.le_of_ble_eq_true rfl) ?_
  intro κ hκ C
  subst hκ
  exact slX12_days C v0 v1 hv0
def fnX12_draw (v0 : Nat) : sm_M Int32 := m_gl v0 42 fun x5 => m_gd (¬ (2147483648 : Int64) = 0) <| m_sl v0 42 ((((1103515245 : Int64) * x5) + (12345 : Int64)) - (((1103515245 : Int64) * x5) + (12345 : Int64)) / (2147483648 : Int64) * (2147483648 : Int64)) <| m_gl v0 42 fun x21 => m_gd (¬ (65536 : Int64) = 0) <| m_gd (¬ (100 : Int64) = 0) <| m_ret (((x21 / (65536 : Int64)) - (x21 / (65536 : Int64)) / (100 : Int64) * (100 : Int64)).toInt32)
set_option maxHeartbeats 4000000 in
set_option maxRecDepth 100000 in
theorem slX12_draw {κ : sm_X} (C : sm_C κ RX12 cX12_draw 1 1) (v0 : Nat) (hv0 : kd v0 = 12) : sm_S κ (fun r : Int32 => .inr (some (.int r))) (.inl (0, [some (xad κ v0)], [])) (fnX12_draw v0) := by
  unfold fnX12_draw
  refine sr_aload_n (i := 0) (q := 1) C (show decode cX12_draw 0 = .ok (.aload_n 0, 1) from by decide +kernel) rfl rfl rfl ?_
  refine sr_ldc2 (q := 4) C co_X12_520 (show decode cX12_draw 1 = .ok (.ldc2_w 520, 3) from by decide +kernel) rfl ?_
  refine sr_aload_n (i := 0) (q := 5) C (show decode cX12_draw 4 = .ok (.aload_n 0, 1) from by decide +kernel) rfl rfl rfl ?_
  refine sr_getl (q := 8) C fl_X12_522 hv0 (show decode cX12_draw 5 = .ok (.getfield 522, 3) from by decide +kernel) rfl (fun x5 => ?_)
  refine sr_lmul (q := 9) C (show decode cX12_draw 8 = .ok (.lmul, 1) from by decide +kernel) rfl ?_
  refine sr_ldc2 (q := 12) C co_X12_526 (show decode cX12_draw 9 = .ok (.ldc2_w 526, 3) from by decide +kernel) rfl ?_
  refine sr_ladd (q := 13) C (show decode cX12_draw 12 = .ok (.ladd, 1) from by decide +kernel) rfl ?_
  refine sr_ldc2 (q := 16) C co_X12_528 (show decode cX12_draw 13 = .ok (.ldc2_w 528, 3) from by decide +kernel) rfl ?_
  refine sr_lrem (q := 17) C (show decode cX12_draw 16 = .ok (.lrem, 1) from by decide +kernel) rfl ?_
  refine sr_putl (q := 20) C fp_X12_522 hv0 (show decode cX12_draw 17 = .ok (.putfield 522, 3) from by decide +kernel) rfl ?_
  refine sr_aload_n (i := 0) (q := 21) C (show decode cX12_draw 20 = .ok (.aload_n 0, 1) from by decide +kernel) rfl rfl rfl ?_
  refine sr_getl (q := 24) C fl_X12_522 hv0 (show decode cX12_draw 21 = .ok (.getfield 522, 3) from by decide +kernel) rfl (fun x21 => ?_)
  refine sr_ldc2 (q := 27) C co_X12_530 (show decode cX12_draw 24 = .ok (.ldc2_w 530, 3) from by decide +kernel) rfl ?_
  refine sr_ldiv (q := 28) C (show decode cX12_draw 27 = .ok (.ldiv, 1) from by decide +kernel) rfl ?_
  refine sr_ldc2 (q := 31) C co_X12_479 (show decode cX12_draw 28 = .ok (.ldc2_w 479, 3) from by decide +kernel) rfl ?_
  refine sr_lrem (q := 32) C (show decode cX12_draw 31 = .ok (.lrem, 1) from by decide +kernel) rfl ?_
  refine sr_l2i (q := 33) C (show decode cX12_draw 32 = .ok (.l2i, 1) from by decide +kernel) rfl ?_
  exact sr_ireturn C _ rfl (show decode cX12_draw 33 = .ok (.ireturn, 1) from by decide +kernel)
theorem cnX12_draw (ω : sm_O) (v0 : Nat) (hv0 : kd v0 = 12) : sm_Mt 1 yX12_draw cX12_draw 1 (some .int) ω [.ref (ω.1 + v0)] (fun a => some (.int a)) (fnX12_draw v0) := by
  refine sm_conI (r := fun a => a) (by decide) (fun _ => rfl) (Nat.le_of_ble_eq_true rfl) ?_
  intro κ hκ C
  subst hκ
  exact slX12_draw C v0 hv0
def fnX12_end (v0 : Nat) (v1 : Int32) : sm_M Int32 := m_gi v0 5 fun x4 => m_bnd (fnX12_in v1.toInt64 (0 : Int64) x4.toInt64) fun x8 => m_br ((bI x8) = 0)
    (m_ret (-1 : Int32))
    (m_si v0 5 v1 <| m_ret v1)
set_option maxHeartbeats 4000000 in
set_option maxRecDepth 100000 in
theorem slX12_end {κ : sm_X} (C : sm_C κ RX12 cX12_end 2 2) (v0 : Nat) (v1 : Int32) (hv0 : kd v0 = 12) : sm_S κ (fun r : Int32 => .inr (some (.int r))) (.inl (0, [some (xad κ v0), some (.int v1)], [])) (fnX12_end v0 v1) := by
  unfold fnX12_end
  refine sr_iload_n (i := 1) (q := 1) C (show decode cX12_end 0 = .ok (.iload_n 1, 1) from by decide +kernel) rfl rfl rfl ?_
  refine sr_i2l (q := 2) C (show decode cX12_end 1 = .ok (.i2l, 1) from by decide +kernel) rfl ?_
  refine sr_lconst (v := (0 : Int64)) (q := 3) C (show decode cX12_end 2 = .ok (.lconst 0, 1) from by decide +kernel) (by decide) rfl ?_
  refine sr_aload_n (i := 0) (q := 4) C (show decode cX12_end 3 = .ok (.aload_n 0, 1) from by decide +kernel) rfl rfl rfl ?_
  refine sr_geti (q := 7) C fl_X12_115 (Or.inl rfl) hv0 (show decode cX12_end 4 = .ok (.getfield 115, 3) from by decide +kernel) rfl (fun x4 => ?_)
  refine sr_i2l (q := 8) C (show decode cX12_end 7 = .ok (.i2l, 1) from by decide +kernel) rfl ?_
  refine sr_cSz (As := [.long v1.toInt64, .long (0 : Int64), .long x4.toInt64]) (st := []) (q := 11) C ysX12_in ml_X12_103 (cnX12_in (xo κ) v1.toInt64 (0 : Int64) x4.toInt64) rfl (by decide) (by decide) (Nat.le_of_ble_eq_true rfl) rfl (show decode cX12_end 8 = .ok (.invokestatic 103, 3) from by decide +kernel) rfl (fun x8 => ?_)
  refine sr_if_ne (q := 14) C 16 (show decode cX12_end 11 = .ok (.ifCond .ne 5, 3) from by decide +kernel) (by decide) rfl ?_ ?_
  · refine sr_aload_n (i := 0) (q := 17) C (show decode cX12_end 16 = .ok (.aload_n 0, 1) from by decide +kernel) rfl rfl rfl ?_
    refine sr_iload_n (i := 1) (q := 18) C (show decode cX12_end 17 = .ok (.iload_n 1, 1) from by decide +kernel) rfl rfl rfl ?_
    refine sr_puti (q := 21) C fp_X12_115 hv0 (show decode cX12_end 18 = .ok (.putfield 115, 3) from by decide +kernel) rfl ?_
    refine sr_iload_n (i := 1) (q := 22) C (show decode cX12_end 21 = .ok (.iload_n 1, 1) from by decide +kernel) rfl rfl rfl ?_
    exact sr_ireturn C _ rfl (show decode cX12_end 22 = .ok (.ireturn, 1) from by decide +kernel)
  · refine sr_iconst (v := (-1 : Int32)) (q := 15) C (show decode cX12_end 14 = .ok (.iconst (-1), 1) from by decide +kernel) (by decide) rfl ?_
    exact sr_ireturn C _ rfl (show decode cX12_end 15 = .ok (.ireturn, 1) from by decide +kernel)
theorem cnX12_end (ω : sm_O) (v0 : Nat) (v1 : Int32) (hv0 : kd v0 = 12) : sm_Mt 2 yX12_end cX12_end 2 (some .int) ω [.ref (ω.1 + v0), .int v1] (fun a => some (.int a)) (fnX12_end v0 v1) := by
  refine sm_conI (r := fun a => a) (by decide) (fun _ => rfl) (Nat.le_of_ble_eq_true rfl) ?_
  intro κ hκ C
  subst hκ
  exact slX12_end C v0 v1 hv0
def fnX12_isPerson (v0 : Nat) (v1 : Int32) : sm_M Bool := m_ai (lk v0 1) (4 : Int32) fun x8 => m_bnd (fnX12_in v1.toInt64 (0 : Int64) ((x8 - (1 : Int32)).toInt64)) fun x12 => m_ret x12
set_option maxHeartbeats 4000000 in
set_option maxRecDepth 100000 in
theorem slX12_isPerson {κ : sm_X} (C : sm_C κ RX12 cX12_isPerson 2 2) (v0 : Nat) (v1 : Int32) (hv0 : kd v0 = 12) : sm_S κ (fun r : Bool => .inr (some (.int (bI r)))) (.inl (0, [some (xad κ v0), some (.int v1)], [])) (fnX12_isPerson v0 v1) := by
  unfold fnX12_isPerson
  refine sr_iload_n (i := 1) (q := 1) C (show decode cX12_isPerson 0 = .ok (.iload_n 1, 1) from by decide +kernel) rfl rfl rfl ?_
  refine sr_i2l (q := 2) C (show decode cX12_isPerson 1 = .ok (.i2l, 1) from by decide +kernel) rfl ?_
  refine sr_lconst (v := (0 : Int64)) (q := 3) C (show decode cX12_isPerson 2 = .ok (.lconst 0, 1) from by decide +kernel) (by decide) rfl ?_
  refine sr_aload_n (i := 0) (q := 4) C (show decode cX12_isPerson 3 = .ok (.aload_n 0, 1) from by decide +kernel) rfl rfl rfl ?_
  refine sr_getr (q := 7) C fl_X12_9 hv0 (show decode cX12_isPerson 4 = .ok (.getfield 9, 3) from by decide +kernel) rfl ?_
  refine sr_iconst (v := (4 : Int32)) (q := 8) C (show decode cX12_isPerson 7 = .ok (.iconst 4, 1) from by decide +kernel) (by decide) rfl ?_
  refine sr_iaload (q := 9) C (kt hv0 kp_12_1) (show decode cX12_isPerson 8 = .ok (.iaload, 1) from by decide +kernel) rfl (fun x8 => ?_)
  refine sr_iconst (v := (1 : Int32)) (q := 10) C (show decode cX12_isPerson 9 = .ok (.iconst 1, 1) from by decide +kernel) (by decide) rfl ?_
  refine sr_isub (q := 11) C (show decode cX12_isPerson 10 = .ok (.isub, 1) from by decide +kernel) rfl ?_
  refine sr_i2l (q := 12) C (show decode cX12_isPerson 11 = .ok (.i2l, 1) from by decide +kernel) rfl ?_
  refine sr_cSz (As := [.long v1.toInt64, .long (0 : Int64), .long ((x8 - (1 : Int32)).toInt64)]) (st := []) (q := 15) C ysX12_in ml_X12_103 (cnX12_in (xo κ) v1.toInt64 (0 : Int64) ((x8 - (1 : Int32)).toInt64)) rfl (by decide) (by decide) (Nat.le_of_ble_eq_true rfl) rfl (show decode cX12_isPerson 12 = .ok (.invokestatic 103, 3) from by decide +kernel) rfl (fun x12 => ?_)
  exact sr_ireturn C x12 rfl (show decode cX12_isPerson 15 = .ok (.ireturn, 1) from by decide +kernel)
theorem cnX12_isPerson (ω : sm_O) (v0 : Nat) (v1 : Int32) (hv0 : kd v0 = 12) : sm_Mt 2 yX12_isPerson cX12_isPerson 2 (some .boolean) ω [.ref (ω.1 + v0), .int v1] (fun a => some (.int (bI a))) (fnX12_isPerson v0 v1) := by
  refine sm_conI (r := bI) (by decide) bI_nar (Nat.le_of_ble_eq_true rfl) ?_
  intro κ hκ C
  subst hκ
  exact slX12_isPerson C v0 v1 hv0
def fnX12_isPlace (v0 : Nat) (v1 : Int32) : sm_M Bool := m_bnd (fnX12_isRiver v0) fun x1 => m_br ((bI x1) = 0)
    (m_ret false)
    (m_bnd (fnX12_isStone v0 v1) fun x9 => m_br ((bI x9) = 0)
    (m_br (v1 = (98 : Int32))
    (m_ret true)
    (m_br (v1 = (99 : Int32))
    (m_ret true)
    (m_ret false)))
    (m_ret true))
set_option maxHeartbeats 4000000 in
set_option maxRecDepth 100000 in
theorem slX12_isPlace {κ : sm_X} (C : sm_C κ RX12 cX12_isPlace 2 3) (v0 : Nat) (v1 : Int32) (hv0 : kd v0 = 12) : sm_S κ (fun r : Bool => .inr (some (.int (bI r)))) (.inl (0, [some (xad κ v0), some (.int v1)], [])) (fnX12_isPlace v0 v1) := by
  unfold fnX12_isPlace
  refine sr_aload_n (i := 0) (q := 1) C (show decode cX12_isPlace 0 = .ok (.aload_n 0, 1) from by decide +kernel) rfl rfl rfl ?_
  refine sr_cVz (As := []) (st := []) (b := v0) (q := 4) C yvX12_isRiver ml_X12_107 (cnX12_isRiver (xo κ) v0 hv0) hv0 (by decide) rfl rfl rfl (by decide) (by decide) (Nat.le_of_ble_eq_true rfl) rfl (show decode cX12_isPlace 1 = .ok (.invokevirtual 107, 3) from by decide +kernel) rfl (fun x1 => ?_)
  refine sr_if_eq (q := 7) C 31 (show decode cX12_isPlace 4 = .ok (.ifCond .eq 27, 3) from by decide +kernel) (by decide) rfl ?_ ?_
  · refine sr_iconst (v := (0 : Int32)) (q := 32) C (show decode cX12_isPlace 31 = .ok (.iconst 0, 1) from by decide +kernel) (by decide) rfl ?_
    exact sr_ireturn C false rfl (show decode cX12_isPlace 32 = .ok (.ireturn, 1) from by decide +kernel)
  · refine sr_aload_n (i := 0) (q := 8) C (show decode cX12_isPlace 7 = .ok (.aload_n 0, 1) from by decide +kernel) rfl rfl rfl ?_
    refine sr_iload_n (i := 1) (q := 9) C (show decode cX12_isPlace 8 = .ok (.iload_n 1, 1) from by decide +kernel) rfl rfl rfl ?_
    refine sr_cVz (As := [.int v1]) (st := []) (b := v0) (q := 12) C yvX12_isStone ml_X12_111 (cnX12_isStone (xo κ) v0 v1 hv0) hv0 (by decide) rfl rfl rfl (by decide) (by decide) (Nat.le_of_ble_eq_true rfl) rfl (show decode cX12_isPlace 9 = .ok (.invokevirtual 111, 3) from by decide +kernel) rfl (fun x9 => ?_)
    refine sr_if_ne (q := 15) C 27 (show decode cX12_isPlace 12 = .ok (.ifCond .ne 15, 3) from by decide +kernel) (by decide) rfl ?_ ?_
    · refine sr_iconst (v := (1 : Int32)) (q := 28) C (show decode cX12_isPlace 27 = .ok (.iconst 1, 1) from by decide +kernel) (by decide) rfl ?_
      refine sr_goto (q := 32) C (show decode cX12_isPlace 28 = .ok (.goto 4, 3) from by decide +kernel) (by decide) ?_
      exact sr_ireturn C true rfl (show decode cX12_isPlace 32 = .ok (.ireturn, 1) from by decide +kernel)
    · refine sr_iload_n (i := 1) (q := 16) C (show decode cX12_isPlace 15 = .ok (.iload_n 1, 1) from by decide +kernel) rfl rfl rfl ?_
      refine sr_bipush (v := (98 : Int32)) (q := 18) C (show decode cX12_isPlace 16 = .ok (.bipush 98, 2) from by decide +kernel) (by decide) rfl ?_
      refine sr_icmp_eq (q := 21) C 27 (show decode cX12_isPlace 18 = .ok (.if_icmp .eq 9, 3) from by decide +kernel) (by decide) rfl ?_ ?_
      · refine sr_iconst (v := (1 : Int32)) (q := 28) C (show decode cX12_isPlace 27 = .ok (.iconst 1, 1) from by decide +kernel) (by decide) rfl ?_
        refine sr_goto (q := 32) C (show decode cX12_isPlace 28 = .ok (.goto 4, 3) from by decide +kernel) (by decide) ?_
        exact sr_ireturn C true rfl (show decode cX12_isPlace 32 = .ok (.ireturn, 1) from by decide +kernel)
      · refine sr_iload_n (i := 1) (q := 22) C (show decode cX12_isPlace 21 = .ok (.iload_n 1, 1) from by decide +kernel) rfl rfl rfl ?_
        refine sr_bipush (v := (99 : Int32)) (q := 24) C (show decode cX12_isPlace 22 = .ok (.bipush 99, 2) from by decide +kernel) (by decide) rfl ?_
        refine sr_icmp_ne (q := 27) C 31 (show decode cX12_isPlace 24 = .ok (.if_icmp .ne 7, 3) from by decide +kernel) (by decide) rfl ?_ ?_
        · refine sr_iconst (v := (0 : Int32)) (q := 32) C (show decode cX12_isPlace 31 = .ok (.iconst 0, 1) from by decide +kernel) (by decide) rfl ?_
          exact sr_ireturn C false rfl (show decode cX12_isPlace 32 = .ok (.ireturn, 1) from by decide +kernel)
        · refine sr_iconst (v := (1 : Int32)) (q := 28) C (show decode cX12_isPlace 27 = .ok (.iconst 1, 1) from by decide +kernel) (by decide) rfl ?_
          refine sr_goto (q := 32) C (show decode cX12_isPlace 28 = .ok (.goto 4, 3) from by decide +kernel) (by decide) ?_
          exact sr_ireturn C true rfl (show decode cX12_isPlace 32 = .ok (.ireturn, 1) from by decide +kernel)
theorem cnX12_isPlace (ω : sm_O) (v0 : Nat) (v1 : Int32) (hv0 : kd v0 = 12) : sm_Mt 3 yX12_isPlace cX12_isPlace 2 (some .boolean) ω [.ref (ω.1 + v0), .int v1] (fun a => some (.int (bI a))) (fnX12_isPlace v0 v1) := by
  refine sm_conI (r := bI) (by decide) bI_nar (Nat.le_of_ble_eq_true rfl) ?_
  intro κ hκ C
  subst hκ
  exact slX12_isPlace C v0 v1 hv0
def fnX12_steps_J70 (v0 : Nat) (v1 : Int32) (v2 : Int32) : sm_M Bool := m_bnd (fnX12_set v0 v1 (6 : Int32) v2) fun _ => m_ret true
set_option maxHeartbeats 4000000 in
set_option maxRecDepth 100000 in
theorem slX12_steps_J70 {κ : sm_X} (C : sm_C κ RX12 cX12_steps 4 5) (v0 : Nat) (v1 : Int32) (v2 : Int32) (hv0 : kd v0 = 12) : sm_S κ (fun r : Bool => .inr (some (.int (bI r)))) (.inl (70, [some (xad κ v0), some (.int v1), some (.int v2), none], [])) (fnX12_steps_J70 v0 v1 v2) := by
  unfold fnX12_steps_J70
  refine sr_aload_n (i := 0) (q := 71) C (show decode cX12_steps 70 = .ok (.aload_n 0, 1) from by decide +kernel) rfl rfl rfl ?_
  refine sr_iload_n (i := 1) (q := 72) C (show decode cX12_steps 71 = .ok (.iload_n 1, 1) from by decide +kernel) rfl rfl rfl ?_
  refine sr_bipush (v := (6 : Int32)) (q := 74) C (show decode cX12_steps 72 = .ok (.bipush 6, 2) from by decide +kernel) (by decide) rfl ?_
  refine sr_iload_n (i := 2) (q := 75) C (show decode cX12_steps 74 = .ok (.iload_n 2, 1) from by decide +kernel) rfl rfl rfl ?_
  refine sr_cVv (As := [.int v1, .int (6 : Int32), .int v2]) (st := []) (b := v0) (q := 78) C yvX12_set ml_X12_319 (cnX12_set (xo κ) v0 v1 (6 : Int32) v2 hv0) hv0 (by decide) rfl rfl rfl (by decide) (by decide) (Nat.le_of_ble_eq_true rfl) rfl (show decode cX12_steps 75 = .ok (.invokevirtual 319, 3) from by decide +kernel) rfl (fun _ => ?_)
  refine sr_iconst (v := (1 : Int32)) (q := 79) C (show decode cX12_steps 78 = .ok (.iconst 1, 1) from by decide +kernel) (by decide) rfl ?_
  exact sr_ireturn C true rfl (show decode cX12_steps 79 = .ok (.ireturn, 1) from by decide +kernel)
def fnX12_steps_J46 (v0 : Nat) (v1 : Int32) (v2 : Int32) (s0 : Int32) : sm_M Bool := m_br (s0 = 0)
    (m_ret false)
    (m_br ((98 : Int32) ≤ v2)
    (fnX12_steps_J70 v0 v1 v2)
    (m_bnd (fnX12_of v0 v1 (1 : Int32)) fun x64 => m_bnd (fnX12_bears v0 v2 x64) fun _ => fnX12_steps_J70 v0 v1 v2))
set_option maxHeartbeats 4000000 in
set_option maxRecDepth 100000 in
theorem slX12_steps_J46 {κ : sm_X} (C : sm_C κ RX12 cX12_steps 4 5) (v0 : Nat) (v1 : Int32) (v2 : Int32) (s0 : Int32) (hv0 : kd v0 = 12) : sm_S κ (fun r : Bool => .inr (some (.int (bI r)))) (.inl (46, [some (xad κ v0), some (.int v1), some (.int v2), none], [.int s0])) (fnX12_steps_J46 v0 v1 v2 s0) := by
  unfold fnX12_steps_J46
  refine sr_istore_n (i := 3) (L' := [some (xad κ v0), some (.int v1), some (.int v2), some (.int s0)]) (q := 47) C (show decode cX12_steps 46 = .ok (.istore_n 3, 1) from by decide +kernel) rfl (by decide) rfl rfl ?_
  refine sr_iload_n (i := 3) (q := 48) C (show decode cX12_steps 47 = .ok (.iload_n 3, 1) from by decide +kernel) rfl rfl rfl ?_
  refine sr_if_ne (q := 51) C 53 (show decode cX12_steps 48 = .ok (.ifCond .ne 5, 3) from by decide +kernel) (by decide) rfl ?_ ?_
  · refine sr_iload_n (i := 2) (q := 54) C (show decode cX12_steps 53 = .ok (.iload_n 2, 1) from by decide +kernel) rfl rfl rfl ?_
    refine sr_bipush (v := (98 : Int32)) (q := 56) C (show decode cX12_steps 54 = .ok (.bipush 98, 2) from by decide +kernel) (by decide) rfl ?_
    refine sr_icmp_ge (q := 59) C 70 (show decode cX12_steps 56 = .ok (.if_icmp .ge 14, 3) from by decide +kernel) (by decide) rfl ?_ ?_
    · refine sr_weak (L' := [some (xad κ v0), some (.int v1), some (.int v2), none]) ⟨rfl, rfl, rfl, trivial⟩ ?_
      exact slX12_steps_J70 C v0 v1 v2 hv0
    · refine sr_aload_n (i := 0) (q := 60) C (show decode cX12_steps 59 = .ok (.aload_n 0, 1) from by decide +kernel) rfl rfl rfl ?_
      refine sr_iload_n (i := 2) (q := 61) C (show decode cX12_steps 60 = .ok (.iload_n 2, 1) from by decide +kernel) rfl rfl rfl ?_
      refine sr_aload_n (i := 0) (q := 62) C (show decode cX12_steps 61 = .ok (.aload_n 0, 1) from by decide +kernel) rfl rfl rfl ?_
      refine sr_iload_n (i := 1) (q := 63) C (show decode cX12_steps 62 = .ok (.iload_n 1, 1) from by decide +kernel) rfl rfl rfl ?_
      refine sr_iconst (v := (1 : Int32)) (q := 64) C (show decode cX12_steps 63 = .ok (.iconst 1, 1) from by decide +kernel) (by decide) rfl ?_
      refine sr_cVi (As := [.int v1, .int (1 : Int32)]) (st := [.int v2, xad κ v0]) (b := v0) (q := 67) C yvX12_of ml_X12_289 (cnX12_of (xo κ) v0 v1 (1 : Int32) hv0) hv0 (by decide) rfl rfl rfl (by decide) (by decide) (Nat.le_of_ble_eq_true rfl) rfl (show decode cX12_steps 64 = .ok (.invokevirtual 289, 3) from by decide +kernel) rfl (fun x64 => ?_)
      refine sr_cVv (As := [.int v2, .int x64]) (st := []) (b := v0) (q := 70) C yvX12_bears ml_X12_316 (cnX12_bears (xo κ) v0 v2 x64 hv0) hv0 (by decide) rfl rfl rfl (by decide) (by decide) (Nat.le_of_ble_eq_true rfl) rfl (show decode cX12_steps 67 = .ok (.invokevirtual 316, 3) from by decide +kernel) rfl (fun _ => ?_)
      refine sr_weak (L' := [some (xad κ v0), some (.int v1), some (.int v2), none]) ⟨rfl, rfl, rfl, trivial⟩ ?_
      exact slX12_steps_J70 C v0 v1 v2 hv0
  · refine sr_iconst (v := (0 : Int32)) (q := 52) C (show decode cX12_steps 51 = .ok (.iconst 0, 1) from by decide +kernel) (by decide) rfl ?_
    exact sr_ireturn C false rfl (show decode cX12_steps 52 = .ok (.ireturn, 1) from by decide +kernel)
def fnX12_steps_J45 (v0 : Nat) (v1 : Int32) (v2 : Int32) : sm_M Bool := fnX12_steps_J46 v0 v1 v2 (0 : Int32)
set_option maxHeartbeats 4000000 in
set_option maxRecDepth 100000 in
theorem slX12_steps_J45 {κ : sm_X} (C : sm_C κ RX12 cX12_steps 4 5) (v0 : Nat) (v1 : Int32) (v2 : Int32) (hv0 : kd v0 = 12) : sm_S κ (fun r : Bool => .inr (some (.int (bI r)))) (.inl (45, [some (xad κ v0), some (.int v1), some (.int v2), none], [])) (fnX12_steps_J45 v0 v1 v2) := by
  unfold fnX12_steps_J45
  refine sr_iconst (v := (0 : Int32)) (q := 46) C (show decode cX12_steps 45 = .ok (.iconst 0, 1) from by decide +kernel) (by decide) rfl ?_
  exact slX12_steps_J46 C v0 v1 v2 (0 : Int32) hv0
def fnX12_steps_J41 (v0 : Nat) (v1 : Int32) (v2 : Int32) : sm_M Bool := fnX12_steps_J46 v0 v1 v2 (1 : Int32)
set_option maxHeartbeats 4000000 in
set_option maxRecDepth 100000 in
theorem slX12_steps_J41 {κ : sm_X} (C : sm_C κ RX12 cX12_steps 4 5) (v0 : Nat) (v1 : Int32) (v2 : Int32) (hv0 : kd v0 = 12) : sm_S κ (fun r : Bool => .inr (some (.int (bI r)))) (.inl (41, [some (xad κ v0), some (.int v1), some (.int v2), none], [])) (fnX12_steps_J41 v0 v1 v2) := by
  unfold fnX12_steps_J41
  refine sr_iconst (v := (1 : Int32)) (q := 42) C (show decode cX12_steps 41 = .ok (.iconst 1, 1) from by decide +kernel) (by decide) rfl ?_
  refine sr_goto (q := 46) C (show decode cX12_steps 42 = .ok (.goto 4, 3) from by decide +kernel) (by decide) ?_
  exact slX12_steps_J46 C v0 v1 v2 (1 : Int32) hv0
def fnX12_steps (v0 : Nat) (v1 : Int32) (v2 : Int32) : sm_M Bool := m_bnd (fnX12_of v0 v1 (6 : Int32)) fun x5 => m_bnd (fnX12_of v0 v1 (0 : Int32)) fun x12 => m_bnd (fnX12_isStep v0 x5 v2 x12) fun x15 => m_br ((bI x15) = 0)
    (fnX12_steps_J45 v0 v1 v2)
    (m_br ((98 : Int32) ≤ v2)
    (fnX12_steps_J41 v0 v1 v2)
    (m_bnd (fnX12_left v0 v2) fun x29 => m_bnd (fnX12_of v0 v1 (1 : Int32)) fun x35 => m_br (x29 < x35)
    (fnX12_steps_J45 v0 v1 v2)
    (fnX12_steps_J41 v0 v1 v2)))
set_option maxHeartbeats 4000000 in
set_option maxRecDepth 100000 in
theorem slX12_steps {κ : sm_X} (C : sm_C κ RX12 cX12_steps 4 5) (v0 : Nat) (v1 : Int32) (v2 : Int32) (hv0 : kd v0 = 12) : sm_S κ (fun r : Bool => .inr (some (.int (bI r)))) (.inl (0, [some (xad κ v0), some (.int v1), some (.int v2), none], [])) (fnX12_steps v0 v1 v2) := by
  unfold fnX12_steps
  refine sr_aload_n (i := 0) (q := 1) C (show decode cX12_steps 0 = .ok (.aload_n 0, 1) from by decide +kernel) rfl rfl rfl ?_
  refine sr_aload_n (i := 0) (q := 2) C (show decode cX12_steps 1 = .ok (.aload_n 0, 1) from by decide +kernel) rfl rfl rfl ?_
  refine sr_iload_n (i := 1) (q := 3) C (show decode cX12_steps 2 = .ok (.iload_n 1, 1) from by decide +kernel) rfl rfl rfl ?_
  refine sr_bipush (v := (6 : Int32)) (q := 5) C (show decode cX12_steps 3 = .ok (.bipush 6, 2) from by decide +kernel) (by decide) rfl ?_
  refine sr_cVi (As := [.int v1, .int (6 : Int32)]) (st := [xad κ v0]) (b := v0) (q := 8) C yvX12_of ml_X12_289 (cnX12_of (xo κ) v0 v1 (6 : Int32) hv0) hv0 (by decide) rfl rfl rfl (by decide) (by decide) (Nat.le_of_ble_eq_true rfl) rfl (show decode cX12_steps 5 = .ok (.invokevirtual 289, 3) from by decide +kernel) rfl (fun x5 => ?_)
  refine sr_iload_n (i := 2) (q := 9) C (show decode cX12_steps 8 = .ok (.iload_n 2, 1) from by decide +kernel) rfl rfl rfl ?_
  refine sr_aload_n (i := 0) (q := 10) C (show decode cX12_steps 9 = .ok (.aload_n 0, 1) from by decide +kernel) rfl rfl rfl ?_
  refine sr_iload_n (i := 1) (q := 11) C (show decode cX12_steps 10 = .ok (.iload_n 1, 1) from by decide +kernel) rfl rfl rfl ?_
  refine sr_iconst (v := (0 : Int32)) (q := 12) C (show decode cX12_steps 11 = .ok (.iconst 0, 1) from by decide +kernel) (by decide) rfl ?_
  refine sr_cVi (As := [.int v1, .int (0 : Int32)]) (st := [.int v2, .int x5, xad κ v0]) (b := v0) (q := 15) C yvX12_of ml_X12_289 (cnX12_of (xo κ) v0 v1 (0 : Int32) hv0) hv0 (by decide) rfl rfl rfl (by decide) (by decide) (Nat.le_of_ble_eq_true rfl) rfl (show decode cX12_steps 12 = .ok (.invokevirtual 289, 3) from by decide +kernel) rfl (fun x12 => ?_)
  refine sr_cVz (As := [.int x5, .int v2, .int x12]) (st := []) (b := v0) (q := 18) C yvX12_isStep ml_X12_270 (cnX12_isStep (xo κ) v0 x5 v2 x12 hv0) hv0 (by decide) rfl rfl rfl (by decide) (by decide) (Nat.le_of_ble_eq_true rfl) rfl (show decode cX12_steps 15 = .ok (.invokevirtual 270, 3) from by decide +kernel) rfl (fun x15 => ?_)
  refine sr_if_eq (q := 21) C 45 (show decode cX12_steps 18 = .ok (.ifCond .eq 27, 3) from by decide +kernel) (by decide) rfl ?_ ?_
  · exact slX12_steps_J45 C v0 v1 v2 hv0
  · refine sr_iload_n (i := 2) (q := 22) C (show decode cX12_steps 21 = .ok (.iload_n 2, 1) from by decide +kernel) rfl rfl rfl ?_
    refine sr_bipush (v := (98 : Int32)) (q := 24) C (show decode cX12_steps 22 = .ok (.bipush 98, 2) from by decide +kernel) (by decide) rfl ?_
    refine sr_icmp_ge (q := 27) C 41 (show decode cX12_steps 24 = .ok (.if_icmp .ge 17, 3) from by decide +kernel) (by decide) rfl ?_ ?_
    · exact slX12_steps_J41 C v0 v1 v2 hv0
    · refine sr_aload_n (i := 0) (q := 28) C (show decode cX12_steps 27 = .ok (.aload_n 0, 1) from by decide +kernel) rfl rfl rfl ?_
      refine sr_iload_n (i := 2) (q := 29) C (show decode cX12_steps 28 = .ok (.iload_n 2, 1) from by decide +kernel) rfl rfl rfl ?_
      refine sr_cVi (As := [.int v2]) (st := []) (b := v0) (q := 32) C yvX12_left ml_X12_250 (cnX12_left (xo κ) v0 v2 hv0) hv0 (by decide) rfl rfl rfl (by decide) (by decide) (Nat.le_of_ble_eq_true rfl) rfl (show decode cX12_steps 29 = .ok (.invokevirtual 250, 3) from by decide +kernel) rfl (fun x29 => ?_)
      refine sr_aload_n (i := 0) (q := 33) C (show decode cX12_steps 32 = .ok (.aload_n 0, 1) from by decide +kernel) rfl rfl rfl ?_
      refine sr_iload_n (i := 1) (q := 34) C (show decode cX12_steps 33 = .ok (.iload_n 1, 1) from by decide +kernel) rfl rfl rfl ?_
      refine sr_iconst (v := (1 : Int32)) (q := 35) C (show decode cX12_steps 34 = .ok (.iconst 1, 1) from by decide +kernel) (by decide) rfl ?_
      refine sr_cVi (As := [.int v1, .int (1 : Int32)]) (st := [.int x29]) (b := v0) (q := 38) C yvX12_of ml_X12_289 (cnX12_of (xo κ) v0 v1 (1 : Int32) hv0) hv0 (by decide) rfl rfl rfl (by decide) (by decide) (Nat.le_of_ble_eq_true rfl) rfl (show decode cX12_steps 35 = .ok (.invokevirtual 289, 3) from by decide +kernel) rfl (fun x35 => ?_)
      refine sr_icmp_lt (q := 41) C 45 (show decode cX12_steps 38 = .ok (.if_icmp .lt 7, 3) from by decide +kernel) (by decide) rfl ?_ ?_
      · exact slX12_steps_J45 C v0 v1 v2 hv0
      · exact slX12_steps_J41 C v0 v1 v2 hv0
theorem cnX12_steps (ω : sm_O) (v0 : Nat) (v1 : Int32) (v2 : Int32) (hv0 : kd v0 = 12) : sm_Mt 5 yX12_steps cX12_steps 4 (some .boolean) ω [.ref (ω.1 + v0), .int v1, .int v2] (fun a => some (.int (bI a))) (fnX12_steps v0 v1 v2) := by
  refine sm_conI (r := bI) (by decide) bI_nar (Nat.le_of_ble_eq_true rfl) ?_
  intro κ hκ C
  subst hκ
  exact slX12_steps C v0 v1 v2 hv0
