def fnX11_mostWithPlank (v0 : Nat) (v1 : Int32) (v2 : Int32) (v3 : Int32) : sm_M Int32 := m_bnd (fnX2_linkHelps (lk v0 13) v1 v2) fun x6 => m_br ((bI x6) = 0)
    (m_ret v3)
    (m_bnd (fnX2_restore (lk v0 13)) fun _ => m_bnd (fnX2_join (lk v0 13) v1 v2) fun _ => m_bnd (fnX2_fill (lk v0 13)) fun x34 => m_ret x34)
set_option maxHeartbeats 4000000 in
set_option maxRecDepth 100000 in
theorem slX11_mostWithPlank {κ : sm_X} (C : sm_C κ RX11 cX11_mostWithPlank 4 5) (v0 : Nat) (v1 : Int32) (v2 : Int32) (v3 : Int32) (hv0 : kd v0 = 11) : sm_S κ (fun r : Int32 => .inr (some (.int r))) (.inl (0, [some (xad κ v0), some (.int v1), some (.int v2), some (.int v3)], [])) (fnX11_mostWithPlank v0 v1 v2 v3) := by
  unfold fnX11_mostWithPlank
  refine sr_aload_n (i := 0) (q := 1) C (show decode cX11_mostWithPlank 0 = .ok (.aload_n 0, 1) from by decide +kernel) rfl rfl rfl ?_
  refine sr_getr (q := 4) C fl_X11_87 hv0 (show decode cX11_mostWithPlank 1 = .ok (.getfield 87, 3) from by decide +kernel) rfl ?_
  refine sr_iload_n (i := 1) (q := 5) C (show decode cX11_mostWithPlank 4 = .ok (.iload_n 1, 1) from by decide +kernel) rfl rfl rfl ?_
  refine sr_iload_n (i := 2) (q := 6) C (show decode cX11_mostWithPlank 5 = .ok (.iload_n 2, 1) from by decide +kernel) rfl rfl rfl ?_
  refine sr_cVz (As := [.int v1, .int v2]) (st := []) (b := lk v0 13) (q := 9) C yvX2_linkHelps ml_X11_383 (cnX2_linkHelps (xo κ) (lk v0 13) v1 v2 (kt hv0 kp_11_13)) (kt hv0 kp_11_13) (by decide) rfl rfl rfl (by decide) (by decide) (Nat.le_of_ble_eq_true rfl) rfl (show decode cX11_mostWithPlank 6 = .ok (.invokevirtual 383, 3) from by decide +kernel) rfl (fun x6 => ?_)
  refine sr_if_ne (q := 12) C 14 (show decode cX11_mostWithPlank 9 = .ok (.ifCond .ne 5, 3) from by decide +kernel) (by decide) rfl ?_ ?_
  · refine sr_aload_n (i := 0) (q := 15) C (show decode cX11_mostWithPlank 14 = .ok (.aload_n 0, 1) from by decide +kernel) rfl rfl rfl ?_
    refine sr_getr (q := 18) C fl_X11_87 hv0 (show decode cX11_mostWithPlank 15 = .ok (.getfield 87, 3) from by decide +kernel) rfl ?_
    refine sr_cVv (As := []) (st := []) (b := lk v0 13) (q := 21) C yvX2_restore ml_X11_356 (cnX2_restore (xo κ) (lk v0 13) (kt hv0 kp_11_13)) (kt hv0 kp_11_13) (by decide) rfl rfl rfl (by decide) (by decide) (Nat.le_of_ble_eq_true rfl) rfl (show decode cX11_mostWithPlank 18 = .ok (.invokevirtual 356, 3) from by decide +kernel) rfl (fun _ => ?_)
    refine sr_aload_n (i := 0) (q := 22) C (show decode cX11_mostWithPlank 21 = .ok (.aload_n 0, 1) from by decide +kernel) rfl rfl rfl ?_
    refine sr_getr (q := 25) C fl_X11_87 hv0 (show decode cX11_mostWithPlank 22 = .ok (.getfield 87, 3) from by decide +kernel) rfl ?_
    refine sr_iload_n (i := 1) (q := 26) C (show decode cX11_mostWithPlank 25 = .ok (.iload_n 1, 1) from by decide +kernel) rfl rfl rfl ?_
    refine sr_iload_n (i := 2) (q := 27) C (show decode cX11_mostWithPlank 26 = .ok (.iload_n 2, 1) from by decide +kernel) rfl rfl rfl ?_
    refine sr_cVv (As := [.int v1, .int v2]) (st := []) (b := lk v0 13) (q := 30) C yvX2_join ml_X11_370 (cnX2_join (xo κ) (lk v0 13) v1 v2 (kt hv0 kp_11_13)) (kt hv0 kp_11_13) (by decide) rfl rfl rfl (by decide) (by decide) (Nat.le_of_ble_eq_true rfl) rfl (show decode cX11_mostWithPlank 27 = .ok (.invokevirtual 370, 3) from by decide +kernel) rfl (fun _ => ?_)
    refine sr_aload_n (i := 0) (q := 31) C (show decode cX11_mostWithPlank 30 = .ok (.aload_n 0, 1) from by decide +kernel) rfl rfl rfl ?_
    refine sr_getr (q := 34) C fl_X11_87 hv0 (show decode cX11_mostWithPlank 31 = .ok (.getfield 87, 3) from by decide +kernel) rfl ?_
    refine sr_cVi (As := []) (st := []) (b := lk v0 13) (q := 37) C yvX2_fill ml_X11_316 (cnX2_fill (xo κ) (lk v0 13) (kt hv0 kp_11_13)) (kt hv0 kp_11_13) (by decide) rfl rfl rfl (by decide) (by decide) (Nat.le_of_ble_eq_true rfl) rfl (show decode cX11_mostWithPlank 34 = .ok (.invokevirtual 316, 3) from by decide +kernel) rfl (fun x34 => ?_)
    exact sr_ireturn C _ rfl (show decode cX11_mostWithPlank 37 = .ok (.ireturn, 1) from by decide +kernel)
  · refine sr_iload_n (i := 3) (q := 13) C (show decode cX11_mostWithPlank 12 = .ok (.iload_n 3, 1) from by decide +kernel) rfl rfl rfl ?_
    exact sr_ireturn C _ rfl (show decode cX11_mostWithPlank 13 = .ok (.ireturn, 1) from by decide +kernel)
theorem cnX11_mostWithPlank (ω : sm_O) (v0 : Nat) (v1 : Int32) (v2 : Int32) (v3 : Int32) (hv0 : kd v0 = 11) : sm_Mt 5 yX11_mostWithPlank cX11_mostWithPlank 4 (some .int) ω [.ref (ω.1 + v0), .int v1, .int v2, .int v3] (fun a => some (.int a)) (fnX11_mostWithPlank v0 v1 v2 v3) := by
  refine sm_conI (r := fun a => a) (by decide) (fun _ => rfl) (Nat.le_of_ble_eq_true rfl) ?_
  intro κ hκ C
  subst hκ
  exact slX11_mostWithPlank C v0 v1 v2 v3 hv0
def fnX11_move_J57 (k27 : Nat → Int32 → Int32 → Int32 → Int32 → Int32 → sm_M Int32) (v0 : Nat) (v1 : Int32) (v2 : Int32) (v3 : Int32) (v4 : Int32) (v5 : Int32) : sm_M Int32 := k27 v0 v1 v2 v3 v4 (v5 + (1 : Int32))
set_option maxHeartbeats 4000000 in
set_option maxRecDepth 100000 in
theorem slX11_move_J57 {κ : sm_X} (C : sm_C κ RX11 cX11_move 7 6) {k27 : Nat → Int32 → Int32 → Int32 → Int32 → Int32 → sm_M Int32} (K27 : ∀ (v0 : Nat) (v1 : Int32) (v2 : Int32) (v3 : Int32) (v4 : Int32) (v5 : Int32) (hv0 : kd v0 = 11), sm_S κ (fun r : Int32 => .inr (some (.int r))) (.inl (27, [some (xad κ v0), some (.int v1), some (.int v2), some (.int v3), some (.int v4), some (.int v5), none], [])) (k27 v0 v1 v2 v3 v4 v5)) (v0 : Nat) (v1 : Int32) (v2 : Int32) (v3 : Int32) (v4 : Int32) (v5 : Int32) (hv0 : kd v0 = 11) : sm_S κ (fun r : Int32 => .inr (some (.int r))) (.inl (57, [some (xad κ v0), some (.int v1), some (.int v2), some (.int v3), some (.int v4), some (.int v5), none], [])) (fnX11_move_J57 k27 v0 v1 v2 v3 v4 v5) := by
  unfold fnX11_move_J57
  refine sr_iinc (v := v5 + (1 : Int32)) (L' := [some (xad κ v0), some (.int v1), some (.int v2), some (.int v3), some (.int v4), some (.int (v5 + (1 : Int32))), none]) (q := 60) C (show decode cX11_move 57 = .ok (.iinc 5 1, 3) from by decide +kernel) rfl rfl (by decide) rfl rfl ?_
  refine sr_goto (q := 27) C (show decode cX11_move 60 = .ok (.goto (-33), 3) from by decide +kernel) (by decide) ?_
  exact K27 v0 v1 v2 v3 v4 (v5 + (1 : Int32)) hv0
def fnX11_move_L27 : Nat → Nat → Int32 → Int32 → Int32 → Int32 → Int32 → sm_M Int32
  | 0, _, _, _, _, _, _ => m_fail
  | n + 1, v0, v1, v2, v3, v4, v5 => m_br ((4 : Int32) < v5)
    (m_ret v3)
    (m_bnd (fnX11_mostMoved v0 v1 v5 v2) fun x38 => m_br (x38 ≤ v4)
    (fnX11_move_J57 (fnX11_move_L27 n) v0 v1 v2 v3 v4 v5)
    (fnX11_move_J57 (fnX11_move_L27 n) v0 v1 v2 v5 x38 v5))
set_option maxHeartbeats 4000000 in
set_option maxRecDepth 100000 in
theorem slX11_move_L27 {κ : sm_X} (C : sm_C κ RX11 cX11_move 7 6) : ∀ (n : Nat) (v0 : Nat) (v1 : Int32) (v2 : Int32) (v3 : Int32) (v4 : Int32) (v5 : Int32) (hv0 : kd v0 = 11), sm_S κ (fun r : Int32 => .inr (some (.int r))) (.inl (27, [some (xad κ v0), some (.int v1), some (.int v2), some (.int v3), some (.int v4), some (.int v5), none], [])) (fnX11_move_L27 n v0 v1 v2 v3 v4 v5) := by
  intro n
  induction n with
  | zero =>
    intros
    exact sr_fail
  | succ n K27 =>
    intro v0 v1 v2 v3 v4 v5 hv0
    unfold fnX11_move_L27
    refine sr_iload (i := 5) (q := 29) C (show decode cX11_move 27 = .ok (.iload 5, 2) from by decide +kernel) rfl rfl ?_
    refine sr_iconst (v := (4 : Int32)) (q := 30) C (show decode cX11_move 29 = .ok (.iconst 4, 1) from by decide +kernel) (by decide) rfl ?_
    refine sr_icmp_gt (q := 33) C 63 (show decode cX11_move 30 = .ok (.if_icmp .gt 33, 3) from by decide +kernel) (by decide) rfl ?_ ?_
    · refine sr_iload_n (i := 3) (q := 64) C (show decode cX11_move 63 = .ok (.iload_n 3, 1) from by decide +kernel) rfl rfl rfl ?_
      exact sr_ireturn C _ rfl (show decode cX11_move 64 = .ok (.ireturn, 1) from by decide +kernel)
    · refine sr_aload_n (i := 0) (q := 34) C (show decode cX11_move 33 = .ok (.aload_n 0, 1) from by decide +kernel) rfl rfl rfl ?_
      refine sr_iload_n (i := 1) (q := 35) C (show decode cX11_move 34 = .ok (.iload_n 1, 1) from by decide +kernel) rfl rfl rfl ?_
      refine sr_iload (i := 5) (q := 37) C (show decode cX11_move 35 = .ok (.iload 5, 2) from by decide +kernel) rfl rfl ?_
      refine sr_iload_n (i := 2) (q := 38) C (show decode cX11_move 37 = .ok (.iload_n 2, 1) from by decide +kernel) rfl rfl rfl ?_
      refine sr_cVi (As := [.int v1, .int v5, .int v2]) (st := []) (b := v0) (q := 41) C yvX11_mostMoved ml_X11_359 (cnX11_mostMoved (xo κ) v0 v1 v5 v2 hv0) hv0 (by decide) rfl rfl rfl (by decide) (by decide) (Nat.le_of_ble_eq_true rfl) rfl (show decode cX11_move 38 = .ok (.invokevirtual 359, 3) from by decide +kernel) rfl (fun x38 => ?_)
      refine sr_istore (i := 6) (L' := [some (xad κ v0), some (.int v1), some (.int v2), some (.int v3), some (.int v4), some (.int v5), some (.int x38)]) (q := 43) C (show decode cX11_move 41 = .ok (.istore 6, 2) from by decide +kernel) (by decide) rfl rfl ?_
      refine sr_iload (i := 6) (q := 45) C (show decode cX11_move 43 = .ok (.iload 6, 2) from by decide +kernel) rfl rfl ?_
      refine sr_iload (i := 4) (q := 47) C (show decode cX11_move 45 = .ok (.iload 4, 2) from by decide +kernel) rfl rfl ?_
      refine sr_icmp_le (q := 50) C 57 (show decode cX11_move 47 = .ok (.if_icmp .le 10, 3) from by decide +kernel) (by decide) rfl ?_ ?_
      · refine sr_weak (L' := [some (xad κ v0), some (.int v1), some (.int v2), some (.int v3), some (.int v4), some (.int v5), none]) ⟨rfl, rfl, rfl, rfl, rfl, rfl, trivial⟩ ?_
        exact slX11_move_J57 C K27 v0 v1 v2 v3 v4 v5 hv0
      · refine sr_iload (i := 6) (q := 52) C (show decode cX11_move 50 = .ok (.iload 6, 2) from by decide +kernel) rfl rfl ?_
        refine sr_istore (i := 4) (L' := [some (xad κ v0), some (.int v1), some (.int v2), some (.int v3), some (.int x38), some (.int v5), some (.int x38)]) (q := 54) C (show decode cX11_move 52 = .ok (.istore 4, 2) from by decide +kernel) (by decide) rfl rfl ?_
        refine sr_iload (i := 5) (q := 56) C (show decode cX11_move 54 = .ok (.iload 5, 2) from by decide +kernel) rfl rfl ?_
        refine sr_istore_n (i := 3) (L' := [some (xad κ v0), some (.int v1), some (.int v2), some (.int v5), some (.int x38), some (.int v5), some (.int x38)]) (q := 57) C (show decode cX11_move 56 = .ok (.istore_n 3, 1) from by decide +kernel) rfl (by decide) rfl rfl ?_
        refine sr_weak (L' := [some (xad κ v0), some (.int v1), some (.int v2), some (.int v5), some (.int x38), some (.int v5), none]) ⟨rfl, rfl, rfl, rfl, rfl, rfl, trivial⟩ ?_
        exact slX11_move_J57 C K27 v0 v1 v2 v5 x38 v5 hv0
def fnX11_move (v0 : Nat) (v1 : Int32) (v2 : Int32) : sm_M Int32 := m_bnd (fnX11_isStone v0 v1) fun x2 => m_br ((bI x2) = 0)
    (m_ret (-2 : Int32))
    (m_bnd (fnX11_isStride v0 v2) fun x10 => m_br ((bI x10) = 0)
    (m_ret (-2 : Int32))
    (fnX11_move_L27 4096 v0 v1 v2 (0 : Int32) (-1 : Int32) (0 : Int32)))
set_option maxHeartbeats 4000000 in
set_option maxRecDepth 100000 in
theorem slX11_move {κ : sm_X} (C : sm_C κ RX11 cX11_move 7 6) (v0 : Nat) (v1 : Int32) (v2 : Int32) (hv0 : kd v0 = 11) : sm_S κ (fun r : Int32 => .inr (some (.int r))) (.inl (0, [some (xad κ v0), some (.int v1), some (.int v2), none, none, none, none], [])) (fnX11_move v0 v1 v2) := by
  unfold fnX11_move
  refine sr_aload_n (i := 0) (q := 1) C (show decode cX11_move 0 = .ok (.aload_n 0, 1) from by decide +kernel) rfl rfl rfl ?_
  refine sr_iload_n (i := 1) (q := 2) C (show decode cX11_move 1 = .ok (.iload_n 1, 1) from by decide +kernel) rfl rfl rfl ?_
  refine sr_cVz (As := [.int v1]) (st := []) (b := v0) (q := 5) C yvX11_isStone ml_X11_146 (cnX11_isStone (xo κ) v0 v1 hv0) hv0 (by decide) rfl rfl rfl (by decide) (by decide) (Nat.le_of_ble_eq_true rfl) rfl (show decode cX11_move 2 = .ok (.invokevirtual 146, 3) from by decide +kernel) rfl (fun x2 => ?_)
  refine sr_if_eq (q := 8) C 16 (show decode cX11_move 5 = .ok (.ifCond .eq 11, 3) from by decide +kernel) (by decide) rfl ?_ ?_
  · refine sr_bipush (v := (-2 : Int32)) (q := 18) C (show decode cX11_move 16 = .ok (.bipush (-2), 2) from by decide +kernel) (by decide) rfl ?_
    exact sr_ireturn C _ rfl (show decode cX11_move 18 = .ok (.ireturn, 1) from by decide +kernel)
  · refine sr_aload_n (i := 0) (q := 9) C (show decode cX11_move 8 = .ok (.aload_n 0, 1) from by decide +kernel) rfl rfl rfl ?_
    refine sr_iload_n (i := 2) (q := 10) C (show decode cX11_move 9 = .ok (.iload_n 2, 1) from by decide +kernel) rfl rfl rfl ?_
    refine sr_cVz (As := [.int v2]) (st := []) (b := v0) (q := 13) C yvX11_isStride ml_X11_187 (cnX11_isStride (xo κ) v0 v2 hv0) hv0 (by decide) rfl rfl rfl (by decide) (by decide) (Nat.le_of_ble_eq_true rfl) rfl (show decode cX11_move 10 = .ok (.invokevirtual 187, 3) from by decide +kernel) rfl (fun x10 => ?_)
    refine sr_if_ne (q := 16) C 19 (show decode cX11_move 13 = .ok (.ifCond .ne 6, 3) from by decide +kernel) (by decide) rfl ?_ ?_
    · refine sr_iconst (v := (0 : Int32)) (q := 20) C (show decode cX11_move 19 = .ok (.iconst 0, 1) from by decide +kernel) (by decide) rfl ?_
      refine sr_istore_n (i := 3) (L' := [some (xad κ v0), some (.int v1), some (.int v2), some (.int (0 : Int32)), none, none, none]) (q := 21) C (show decode cX11_move 20 = .ok (.istore_n 3, 1) from by decide +kernel) rfl (by decide) rfl rfl ?_
      refine sr_iconst (v := (-1 : Int32)) (q := 22) C (show decode cX11_move 21 = .ok (.iconst (-1), 1) from by decide +kernel) (by decide) rfl ?_
      refine sr_istore (i := 4) (L' := [some (xad κ v0), some (.int v1), some (.int v2), some (.int (0 : Int32)), some (.int (-1 : Int32)), none, none]) (q := 24) C (show decode cX11_move 22 = .ok (.istore 4, 2) from by decide +kernel) (by decide) rfl rfl ?_
      refine sr_iconst (v := (0 : Int32)) (q := 25) C (show decode cX11_move 24 = .ok (.iconst 0, 1) from by decide +kernel) (by decide) rfl ?_
      refine sr_istore (i := 5) (L' := [some (xad κ v0), some (.int v1), some (.int v2), some (.int (0 : Int32)), some (.int (-1 : Int32)), some (.int (0 : Int32)), none]) (q := 27) C (show decode cX11_move 25 = .ok (.istore 5, 2) from by decide +kernel) (by decide) rfl rfl ?_
      exact slX11_move_L27 C 4096 v0 v1 v2 (0 : Int32) (-1 : Int32) (0 : Int32) hv0
    · refine sr_bipush (v := (-2 : Int32)) (q := 18) C (show decode cX11_move 16 = .ok (.bipush (-2), 2) from by decide +kernel) (by decide) rfl ?_
      exact sr_ireturn C _ rfl (show decode cX11_move 18 = .ok (.ireturn, 1) from by decide +kernel)
theorem cnX11_move (ω : sm_O) (v0 : Nat) (v1 : Int32) (v2 : Int32) (hv0 : kd v0 = 11) : sm_Mt 6 yX11_move cX11_move 7 (some .int) ω [.ref (ω.1 + v0), .int v1, .int v2] (fun a => some (.int a)) (fnX11_move v0 v1 v2) := by
  refine sm_conI (r := fun a => a) (by decide) (fun _ => rfl) (Nat.le_of_ble_eq_true rfl) ?_
  intro κ hκ C
  subst hκ
  exact slX11_move C v0 v1 v2 hv0
def fnX11_moved (v0 : Nat) (v1 : Int32) (v2 : Int32) (v3 : Int32) : sm_M Int32 := m_bnd (fnX11_isStone v0 v1) fun x2 => m_br ((bI x2) = 0)
    (m_ret (-2 : Int32))
    (m_bnd (fnX11_isStride v0 v3) fun x10 => m_br ((bI x10) = 0)
    (m_ret (-2 : Int32))
    (m_br (v2 < 0)
    (m_ret (-2 : Int32))
    (m_br (v2 ≤ (4 : Int32))
    (m_bnd (fnX11_mostMoved v0 v1 v2 v3) fun x32 => m_ret x32)
    (m_ret (-2 : Int32)))))
set_option maxHeartbeats 4000000 in
set_option maxRecDepth 100000 in
theorem slX11_moved {κ : sm_X} (C : sm_C κ RX11 cX11_moved 4 6) (v0 : Nat) (v1 : Int32) (v2 : Int32) (v3 : Int32) (hv0 : kd v0 = 11) : sm_S κ (fun r : Int32 => .inr (some (.int r))) (.inl (0, [some (xad κ v0), some (.int v1), some (.int v2), some (.int v3)], [])) (fnX11_moved v0 v1 v2 v3) := by
  unfold fnX11_moved
  refine sr_aload_n (i := 0) (q := 1) C (show decode cX11_moved 0 = .ok (.aload_n 0, 1) from by decide +kernel) rfl rfl rfl ?_
  refine sr_iload_n (i := 1) (q := 2) C (show decode cX11_moved 1 = .ok (.iload_n 1, 1) from by decide +kernel) rfl rfl rfl ?_
  refine sr_cVz (As := [.int v1]) (st := []) (b := v0) (q := 5) C yvX11_isStone ml_X11_146 (cnX11_isStone (xo κ) v0 v1 hv0) hv0 (by decide) rfl rfl rfl (by decide) (by decide) (Nat.le_of_ble_eq_true rfl) rfl (show decode cX11_moved 2 = .ok (.invokevirtual 146, 3) from by decide +kernel) rfl (fun x2 => ?_)
  refine sr_if_eq (q := 8) C 25 (show decode cX11_moved 5 = .ok (.ifCond .eq 20, 3) from by decide +kernel) (by decide) rfl ?_ ?_
  · refine sr_bipush (v := (-2 : Int32)) (q := 27) C (show decode cX11_moved 25 = .ok (.bipush (-2), 2) from by decide +kernel) (by decide) rfl ?_
    exact sr_ireturn C _ rfl (show decode cX11_moved 27 = .ok (.ireturn, 1) from by decide +kernel)
  · refine sr_aload_n (i := 0) (q := 9) C (show decode cX11_moved 8 = .ok (.aload_n 0, 1) from by decide +kernel) rfl rfl rfl ?_
    refine sr_iload_n (i := 3) (q := 10) C (show decode cX11_moved 9 = .ok (.iload_n 3, 1) from by decide +kernel) rfl rfl rfl ?_
    refine sr_cVz (As := [.int v3]) (st := []) (b := v0) (q := 13) C yvX11_isStride ml_X11_187 (cnX11_isStride (xo κ) v0 v3 hv0) hv0 (by decide) rfl rfl rfl (by decide) (by decide) (Nat.le_of_ble_eq_true rfl) rfl (show decode cX11_moved 10 = .ok (.invokevirtual 187, 3) from by decide +kernel) rfl (fun x10 => ?_)
    refine sr_if_eq (q := 16) C 25 (show decode cX11_moved 13 = .ok (.ifCond .eq 12, 3) from by decide +kernel) (by decide) rfl ?_ ?_
    · refine sr_bipush (v := (-2 : Int32)) (q := 27) C (show decode cX11_moved 25 = .ok (.bipush (-2), 2) from by decide +kernel) (by decide) rfl ?_
      exact sr_ireturn C _ rfl (show decode cX11_moved 27 = .ok (.ireturn, 1) from by decide +kernel)
    · refine sr_iload_n (i := 2) (q := 17) C (show decode cX11_moved 16 = .ok (.iload_n 2, 1) from by decide +kernel) rfl rfl rfl ?_
      refine sr_if_lt (q := 20) C 25 (show decode cX11_moved 17 = .ok (.ifCond .lt 8, 3) from by decide +kernel) (by decide) rfl ?_ ?_
      · refine sr_bipush (v := (-2 : Int32)) (q := 27) C (show decode cX11_moved 25 = .ok (.bipush (-2), 2) from by decide +kernel) (by decide) rfl ?_
        exact sr_ireturn C _ rfl (show decode cX11_moved 27 = .ok (.ireturn, 1) from by decide +kernel)
      · refine sr_iload_n (i := 2) (q := 21) C (show decode cX11_moved 20 = .ok (.iload_n 2, 1) from by decide +kernel) rfl rfl rfl ?_
        refine sr_iconst (v := (4 : Int32)) (q := 22) C (show decode cX11_moved 21 = .ok (.iconst 4, 1) from by decide +kernel) (by decide) rfl ?_
        refine sr_icmp_le (q := 25) C 28 (show decode cX11_moved 22 = .ok (.if_icmp .le 6, 3) from by decide +kernel) (by decide) rfl ?_ ?_
        · refine sr_aload_n (i := 0) (q := 29) C (show decode cX11_moved 28 = .ok (.aload_n 0, 1) from by decide +kernel) rfl rfl rfl ?_
          refine sr_iload_n (i := 1) (q := 30) C (show decode cX11_moved 29 = .ok (.iload_n 1, 1) from by decide +kernel) rfl rfl rfl ?_
          refine sr_iload_n (i := 2) (q := 31) C (show decode cX11_moved 30 = .ok (.iload_n 2, 1) from by decide +kernel) rfl rfl rfl ?_
          refine sr_iload_n (i := 3) (q := 32) C (show decode cX11_moved 31 = .ok (.iload_n 3, 1) from by decide +kernel) rfl rfl rfl ?_
          refine sr_cVi (As := [.int v1, .int v2, .int v3]) (st := []) (b := v0) (q := 35) C yvX11_mostMoved ml_X11_359 (cnX11_mostMoved (xo κ) v0 v1 v2 v3 hv0) hv0 (by decide) rfl rfl rfl (by decide) (by decide) (Nat.le_of_ble_eq_true rfl) rfl (show decode cX11_moved 32 = .ok (.invokevirtual 359, 3) from by decide +kernel) rfl (fun x32 => ?_)
          exact sr_ireturn C _ rfl (show decode cX11_moved 35 = .ok (.ireturn, 1) from by decide +kernel)
        · refine sr_bipush (v := (-2 : Int32)) (q := 27) C (show decode cX11_moved 25 = .ok (.bipush (-2), 2) from by decide +kernel) (by decide) rfl ?_
          exact sr_ireturn C _ rfl (show decode cX11_moved 27 = .ok (.ireturn, 1) from by decide +kernel)
theorem cnX11_moved (ω : sm_O) (v0 : Nat) (v1 : Int32) (v2 : Int32) (v3 : Int32) (hv0 : kd v0 = 11) : sm_Mt 6 yX11_moved cX11_moved 4 (some .int) ω [.ref (ω.1 + v0), .int v1, .int v2, .int v3] (fun a => some (.int a)) (fnX11_moved v0 v1 v2 v3) := by
  refine sm_conI (r := fun a => a) (by decide) (fun _ => rfl) (Nat.le_of_ble_eq_true rfl) ?_
  intro κ hκ C
  subst hκ
  exact slX11_moved C v0 v1 v2 v3 hv0
def fnX11_noon_L25 : Nat → Nat → Int32 → Int32 → Int32 → sm_M Int32
  | 0, _, _, _, _ => m_fail
  | n + 1, v0, v1, v2, v3 => m_br (v3 < 0)
    (m_ret (-1 : Int32))
    (m_bnd (fnX11_mostAt v0 v1 v3) fun x32 => m_br (x32 < v2)
    ((fnX11_noon_L25 n) v0 v1 v2 (v3 + (-1 : Int32)))
    (m_ret v3))
set_option maxHeartbeats 4000000 in
set_option maxRecDepth 100000 in
theorem slX11_noon_L25 {κ : sm_X} (C : sm_C κ RX11 cX11_noon 4 7) : ∀ (n : Nat) (v0 : Nat) (v1 : Int32) (v2 : Int32) (v3 : Int32) (hv0 : kd v0 = 11), sm_S κ (fun r : Int32 => .inr (some (.int r))) (.inl (25, [some (xad κ v0), some (.int v1), some (.int v2), some (.int v3)], [])) (fnX11_noon_L25 n v0 v1 v2 v3) := by
  intro n
  induction n with
  | zero =>
    intros
    exact sr_fail
  | succ n K25 =>
    intro v0 v1 v2 v3 hv0
    unfold fnX11_noon_L25
    refine sr_iload_n (i := 3) (q := 26) C (show decode cX11_noon 25 = .ok (.iload_n 3, 1) from by decide +kernel) rfl rfl rfl ?_
    refine sr_if_lt (q := 29) C 47 (show decode cX11_noon 26 = .ok (.ifCond .lt 21, 3) from by decide +kernel) (by decide) rfl ?_ ?_
    · refine sr_iconst (v := (-1 : Int32)) (q := 48) C (show decode cX11_noon 47 = .ok (.iconst (-1), 1) from by decide +kernel) (by decide) rfl ?_
      exact sr_ireturn C _ rfl (show decode cX11_noon 48 = .ok (.ireturn, 1) from by decide +kernel)
    · refine sr_aload_n (i := 0) (q := 30) C (show decode cX11_noon 29 = .ok (.aload_n 0, 1) from by decide +kernel) rfl rfl rfl ?_
      refine sr_iload_n (i := 1) (q := 31) C (show decode cX11_noon 30 = .ok (.iload_n 1, 1) from by decide +kernel) rfl rfl rfl ?_
      refine sr_iload_n (i := 3) (q := 32) C (show decode cX11_noon 31 = .ok (.iload_n 3, 1) from by decide +kernel) rfl rfl rfl ?_
      refine sr_cVi (As := [.int v1, .int v3]) (st := []) (b := v0) (q := 35) C yvX11_mostAt ml_X11_404 (cnX11_mostAt (xo κ) v0 v1 v3 hv0) hv0 (by decide) rfl rfl rfl (by decide) (by decide) (Nat.le_of_ble_eq_true rfl) rfl (show decode cX11_noon 32 = .ok (.invokevirtual 404, 3) from by decide +kernel) rfl (fun x32 => ?_)
      refine sr_iload_n (i := 2) (q := 36) C (show decode cX11_noon 35 = .ok (.iload_n 2, 1) from by decide +kernel) rfl rfl rfl ?_
      refine sr_icmp_lt (q := 39) C 41 (show decode cX11_noon 36 = .ok (.if_icmp .lt 5, 3) from by decide +kernel) (by decide) rfl ?_ ?_
      · refine sr_iinc (v := v3 + (-1 : Int32)) (L' := [some (xad κ v0), some (.int v1), some (.int v2), some (.int (v3 + (-1 : Int32)))]) (q := 44) C (show decode cX11_noon 41 = .ok (.iinc 3 (-1), 3) from by decide +kernel) rfl rfl (by decide) rfl rfl ?_
        refine sr_goto (q := 25) C (show decode cX11_noon 44 = .ok (.goto (-19), 3) from by decide +kernel) (by decide) ?_
        exact K25 v0 v1 v2 (v3 + (-1 : Int32)) hv0
      · refine sr_iload_n (i := 3) (q := 40) C (show decode cX11_noon 39 = .ok (.iload_n 3, 1) from by decide +kernel) rfl rfl rfl ?_
        exact sr_ireturn C _ rfl (show decode cX11_noon 40 = .ok (.ireturn, 1) from by decide +kernel)
def fnX11_noon (v0 : Nat) (v1 : Int32) (v2 : Int32) : sm_M Int32 := m_bnd (fnX11_isStride v0 v1) fun x2 => m_br ((bI x2) = 0)
    (m_ret (-2 : Int32))
    (m_br (v2 < 0)
    (m_ret (-2 : Int32))
    (m_br (v2 ≤ (999 : Int32))
    (fnX11_noon_L25 4096 v0 v1 v2 (23 : Int32))
    (m_ret (-2 : Int32))))
set_option maxHeartbeats 4000000 in
set_option maxRecDepth 100000 in
theorem slX11_noon {κ : sm_X} (C : sm_C κ RX11 cX11_noon 4 7) (v0 : Nat) (v1 : Int32) (v2 : Int32) (hv0 : kd v0 = 11) : sm_S κ (fun r : Int32 => .inr (some (.int r))) (.inl (0, [some (xad κ v0), some (.int v1), some (.int v2), none], [])) (fnX11_noon v0 v1 v2) := by
  unfold fnX11_noon
  refine sr_aload_n (i := 0) (q := 1) C (show decode cX11_noon 0 = .ok (.aload_n 0, 1) from by decide +kernel) rfl rfl rfl ?_
  refine sr_iload_n (i := 1) (q := 2) C (show decode cX11_noon 1 = .ok (.iload_n 1, 1) from by decide +kernel) rfl rfl rfl ?_
  refine sr_cVz (As := [.int v1]) (st := []) (b := v0) (q := 5) C yvX11_isStride ml_X11_187 (cnX11_isStride (xo κ) v0 v1 hv0) hv0 (by decide) rfl rfl rfl (by decide) (by decide) (Nat.le_of_ble_eq_true rfl) rfl (show decode cX11_noon 2 = .ok (.invokevirtual 187, 3) from by decide +kernel) rfl (fun x2 => ?_)
  refine sr_if_eq (q := 8) C 19 (show decode cX11_noon 5 = .ok (.ifCond .eq 14, 3) from by decide +kernel) (by decide) rfl ?_ ?_
  · refine sr_bipush (v := (-2 : Int32)) (q := 21) C (show decode cX11_noon 19 = .ok (.bipush (-2), 2) from by decide +kernel) (by decide) rfl ?_
    exact sr_ireturn C _ rfl (show decode cX11_noon 21 = .ok (.ireturn, 1) from by decide +kernel)
  · refine sr_iload_n (i := 2) (q := 9) C (show decode cX11_noon 8 = .ok (.iload_n 2, 1) from by decide +kernel) rfl rfl rfl ?_
    refine sr_if_lt (q := 12) C 19 (show decode cX11_noon 9 = .ok (.ifCond .lt 10, 3) from by decide +kernel) (by decide) rfl ?_ ?_
    · refine sr_bipush (v := (-2 : Int32)) (q := 21) C (show decode cX11_noon 19 = .ok (.bipush (-2), 2) from by decide +kernel) (by decide) rfl ?_
      exact sr_ireturn C _ rfl (show decode cX11_noon 21 = .ok (.ireturn, 1) from by decide +kernel)
    · refine sr_iload_n (i := 2) (q := 13) C (show decode cX11_noon 12 = .ok (.iload_n 2, 1) from by decide +kernel) rfl rfl rfl ?_
      refine sr_sipush (v := (999 : Int32)) (q := 16) C (show decode cX11_noon 13 = .ok (.sipush 999, 3) from by decide +kernel) (by decide) rfl ?_
      refine sr_icmp_le (q := 19) C 22 (show decode cX11_noon 16 = .ok (.if_icmp .le 6, 3) from by decide +kernel) (by decide) rfl ?_ ?_
      · refine sr_bipush (v := (23 : Int32)) (q := 24) C (show decode cX11_noon 22 = .ok (.bipush 23, 2) from by decide +kernel) (by decide) rfl ?_
        refine sr_istore_n (i := 3) (L' := [some (xad κ v0), some (.int v1), some (.int v2), some (.int (23 : Int32))]) (q := 25) C (show decode cX11_noon 24 = .ok (.istore_n 3, 1) from by decide +kernel) rfl (by decide) rfl rfl ?_
        exact slX11_noon_L25 C 4096 v0 v1 v2 (23 : Int32) hv0
      · refine sr_bipush (v := (-2 : Int32)) (q := 21) C (show decode cX11_noon 19 = .ok (.bipush (-2), 2) from by decide +kernel) (by decide) rfl ?_
        exact sr_ireturn C _ rfl (show decode cX11_noon 21 = .ok (.ireturn, 1) from by decide +kernel)
theorem cnX11_noon (ω : sm_O) (v0 : Nat) (v1 : Int32) (v2 : Int32) (hv0 : kd v0 = 11) : sm_Mt 7 yX11_noon cX11_noon 4 (some .int) ω [.ref (ω.1 + v0), .int v1, .int v2] (fun a => some (.int a)) (fnX11_noon v0 v1 v2) := by
  refine sm_conI (r := fun a => a) (by decide) (fun _ => rfl) (Nat.le_of_ble_eq_true rfl) ?_
  intro κ hκ C
  subst hκ
  exact slX11_noon C v0 v1 v2 hv0
def fnX5_unitAt (v0 : Nat) (v1 : Int32) : sm_M Int32 := m_br (v1 < 0)
    (m_ret (-1 : Int32))
    (m_gi v0 7 fun x6 => m_br (x6 ≤ v1)
    (m_ret (-1 : Int32))
    (m_br ((6 : Int32) ≤ v1)
    (m_ret (-1 : Int32))
    (m_ai (lk v0 6) v1 fun x23 => m_ret x23)))
set_option maxHeartbeats 4000000 in
set_option maxRecDepth 100000 in
theorem slX5_unitAt {κ : sm_X} (C : sm_C κ RX5 cX5_unitAt 2 1) (v0 : Nat) (v1 : Int32) (hv0 : kd v0 = 5) : sm_S κ (fun r : Int32 => .inr (some (.int r))) (.inl (0, [some (xad κ v0), some (.int v1)], [])) (fnX5_unitAt v0 v1) := by
  unfold fnX5_unitAt
  refine sr_iload_n (i := 1) (q := 1) C (show decode cX5_unitAt 0 = .ok (.iload_n 1, 1) from by decide +kernel) rfl rfl rfl ?_
  refine sr_if_lt (q := 4) C 27 (show decode cX5_unitAt 1 = .ok (.ifCond .lt 26, 3) from by decide +kernel) (by decide) rfl ?_ ?_
  · refine sr_iconst (v := (-1 : Int32)) (q := 28) C (show decode cX5_unitAt 27 = .ok (.iconst (-1), 1) from by decide +kernel) (by decide) rfl ?_
    exact sr_ireturn C _ rfl (show decode cX5_unitAt 28 = .ok (.ireturn, 1) from by decide +kernel)
  · refine sr_iload_n (i := 1) (q := 5) C (show decode cX5_unitAt 4 = .ok (.iload_n 1, 1) from by decide +kernel) rfl rfl rfl ?_
    refine sr_aload_n (i := 0) (q := 6) C (show decode cX5_unitAt 5 = .ok (.aload_n 0, 1) from by decide +kernel) rfl rfl rfl ?_
    refine sr_geti (q := 9) C fl_X5_58 (Or.inl rfl) hv0 (show decode cX5_unitAt 6 = .ok (.getfield 58, 3) from by decide +kernel) rfl (fun x6 => ?_)
    refine sr_icmp_ge (q := 12) C 27 (show decode cX5_unitAt 9 = .ok (.if_icmp .ge 18, 3) from by decide +kernel) (by decide) rfl ?_ ?_
    · refine sr_iconst (v := (-1 : Int32)) (q := 28) C (show decode cX5_unitAt 27 = .ok (.iconst (-1), 1) from by decide +kernel) (by decide) rfl ?_
      exact sr_ireturn C _ rfl (show decode cX5_unitAt 28 = .ok (.ireturn, 1) from by decide +kernel)
    · refine sr_iload_n (i := 1) (q := 13) C (show decode cX5_unitAt 12 = .ok (.iload_n 1, 1) from by decide +kernel) rfl rfl rfl ?_
      refine sr_bipush (v := (6 : Int32)) (q := 15) C (show decode cX5_unitAt 13 = .ok (.bipush 6, 2) from by decide +kernel) (by decide) rfl ?_
      refine sr_icmp_ge (q := 18) C 27 (show decode cX5_unitAt 15 = .ok (.if_icmp .ge 12, 3) from by decide +kernel) (by decide) rfl ?_ ?_
      · refine sr_iconst (v := (-1 : Int32)) (q := 28) C (show decode cX5_unitAt 27 = .ok (.iconst (-1), 1) from by decide +kernel) (by decide) rfl ?_
        exact sr_ireturn C _ rfl (show decode cX5_unitAt 28 = .ok (.ireturn, 1) from by decide +kernel)
      · refine sr_aload_n (i := 0) (q := 19) C (show decode cX5_unitAt 18 = .ok (.aload_n 0, 1) from by decide +kernel) rfl rfl rfl ?_
        refine sr_getr (q := 22) C fl_X5_21 hv0 (show decode cX5_unitAt 19 = .ok (.getfield 21, 3) from by decide +kernel) rfl ?_
        refine sr_iload_n (i := 1) (q := 23) C (show decode cX5_unitAt 22 = .ok (.iload_n 1, 1) from by decide +kernel) rfl rfl rfl ?_
        refine sr_iaload (q := 24) C (kt hv0 kp_5_6) (show decode cX5_unitAt 23 = .ok (.iaload, 1) from by decide +kernel) rfl (fun x23 => ?_)
        refine sr_goto (q := 28) C (show decode cX5_unitAt 24 = .ok (.goto 4, 3) from by decide +kernel) (by decide) ?_
        exact sr_ireturn C _ rfl (show decode cX5_unitAt 28 = .ok (.ireturn, 1) from by decide +kernel)
theorem cnX5_unitAt (ω : sm_O) (v0 : Nat) (v1 : Int32) (hv0 : kd v0 = 5) : sm_Mt 1 yX5_unitAt cX5_unitAt 2 (some .int) ω [.ref (ω.1 + v0), .int v1] (fun a => some (.int a)) (fnX5_unitAt v0 v1) := by
  refine sm_conI (r := fun a => a) (by decide) (fun _ => rfl) (Nat.le_of_ble_eq_true rfl) ?_
  intro κ hκ C
  subst hκ
  exact slX5_unitAt C v0 v1 hv0
def fnX11_order (v0 : Nat) (v1 : Int32) (v2 : Int32) : sm_M Int32 := m_bnd (fnX11_isWay v0 v1) fun x2 => m_br ((bI x2) = 0)
    (m_ret (-2 : Int32))
    (m_br (v2 < 0)
    (m_ret (-2 : Int32))
    (m_br (v2 ≤ (7 : Int32))
    (m_bnd (fnX5_find (lk v0 11) (lk v0 6) v1) fun x30 => m_br ((bI x30) = 0)
    (m_ret (-3 : Int32))
    (m_br (v2 = 0)
    (m_gi (lk v0 11) 1 fun x47 => m_ret x47)
    (m_br (v2 = (1 : Int32))
    (m_gi (lk v0 11) 0 fun x60 => m_ret x60)
    (m_bnd (fnX5_unitAt (lk v0 11) (v2 - (2 : Int32))) fun x73 => m_ret x73))))
    (m_ret (-2 : Int32))))
set_option maxHeartbeats 4000000 in
set_option maxRecDepth 100000 in
theorem slX11_order {κ : sm_X} (C : sm_C κ RX11 cX11_order 3 15) (v0 : Nat) (v1 : Int32) (v2 : Int32) (hv0 : kd v0 = 11) : sm_S κ (fun r : Int32 => .inr (some (.int r))) (.inl (0, [some (xad κ v0), some (.int v1), some (.int v2)], [])) (fnX11_order v0 v1 v2) := by
  unfold fnX11_order
  refine sr_aload_n (i := 0) (q := 1) C (show decode cX11_order 0 = .ok (.aload_n 0, 1) from by decide +kernel) rfl rfl rfl ?_
  refine sr_iload_n (i := 1) (q := 2) C (show decode cX11_order 1 = .ok (.iload_n 1, 1) from by decide +kernel) rfl rfl rfl ?_
  refine sr_cVz (As := [.int v1]) (st := []) (b := v0) (q := 5) C yvX11_isWay ml_X11_214 (cnX11_isWay (xo κ) v0 v1 hv0) hv0 (by decide) rfl rfl rfl (by decide) (by decide) (Nat.le_of_ble_eq_true rfl) rfl (show decode cX11_order 2 = .ok (.invokevirtual 214, 3) from by decide +kernel) rfl (fun x2 => ?_)
  refine sr_if_eq (q := 8) C 18 (show decode cX11_order 5 = .ok (.ifCond .eq 13, 3) from by decide +kernel) (by decide) rfl ?_ ?_
  · refine sr_bipush (v := (-2 : Int32)) (q := 20) C (show decode cX11_order 18 = .ok (.bipush (-2), 2) from by decide +kernel) (by decide) rfl ?_
    exact sr_ireturn C _ rfl (show decode cX11_order 20 = .ok (.ireturn, 1) from by decide +kernel)
  · refine sr_iload_n (i := 2) (q := 9) C (show decode cX11_order 8 = .ok (.iload_n 2, 1) from by decide +kernel) rfl rfl rfl ?_
    refine sr_if_lt (q := 12) C 18 (show decode cX11_order 9 = .ok (.ifCond .lt 9, 3) from by decide +kernel) (by decide) rfl ?_ ?_
    · refine sr_bipush (v := (-2 : Int32)) (q := 20) C (show decode cX11_order 18 = .ok (.bipush (-2), 2) from by decide +kernel) (by decide) rfl ?_
      exact sr_ireturn C _ rfl (show decode cX11_order 20 = .ok (.ireturn, 1) from by decide +kernel)
    · refine sr_iload_n (i := 2) (q := 13) C (show decode cX11_order 12 = .ok (.iload_n 2, 1) from by decide +kernel) rfl rfl rfl ?_
      refine sr_bipush (v := (7 : Int32)) (q := 15) C (show decode cX11_order 13 = .ok (.bipush 7, 2) from by decide +kernel) (by decide) rfl ?_
      refine sr_icmp_le (q := 18) C 21 (show decode cX11_order 15 = .ok (.if_icmp .le 6, 3) from by decide +kernel) (by decide) rfl ?_ ?_
      · refine sr_aload_n (i := 0) (q := 22) C (show decode cX11_order 21 = .ok (.aload_n 0, 1) from by decide +kernel) rfl rfl rfl ?_
        refine sr_getr (q := 25) C fl_X11_73 hv0 (show decode cX11_order 22 = .ok (.getfield 73, 3) from by decide +kernel) rfl ?_
        refine sr_aload_n (i := 0) (q := 26) C (show decode cX11_order 25 = .ok (.aload_n 0, 1) from by decide +kernel) rfl rfl rfl ?_
        refine sr_getr (q := 29) C fl_X11_36 hv0 (show decode cX11_order 26 = .ok (.getfield 36, 3) from by decide +kernel) rfl ?_
        refine sr_iload_n (i := 1) (q := 30) C (show decode cX11_order 29 = .ok (.iload_n 1, 1) from by decide +kernel) rfl rfl rfl ?_
        refine sr_cVz (As := [xad κ (lk v0 6), .int v1]) (st := []) (b := lk v0 11) (q := 33) C yvX5_find ml_X11_283 (cnX5_find (xo κ) (lk v0 11) (lk v0 6) v1 (kt hv0 kp_11_11) (kt hv0 kp_11_6)) (kt hv0 kp_11_11) (by decide) rfl rfl rfl (by decide) (by decide) (Nat.le_of_ble_eq_true rfl) rfl (show decode cX11_order 30 = .ok (.invokevirtual 283, 3) from by decide +kernel) rfl (fun x30 => ?_)
        refine sr_if_ne (q := 36) C 39 (show decode cX11_order 33 = .ok (.ifCond .ne 6, 3) from by decide +kernel) (by decide) rfl ?_ ?_
        · refine sr_iload_n (i := 2) (q := 40) C (show decode cX11_order 39 = .ok (.iload_n 2, 1) from by decide +kernel) rfl rfl rfl ?_
          refine sr_if_ne (q := 43) C 51 (show decode cX11_order 40 = .ok (.ifCond .ne 11, 3) from by decide +kernel) (by decide) rfl ?_ ?_
          · refine sr_iload_n (i := 2) (q := 52) C (show decode cX11_order 51 = .ok (.iload_n 2, 1) from by decide +kernel) rfl rfl rfl ?_
            refine sr_iconst (v := (1 : Int32)) (q := 53) C (show decode cX11_order 52 = .ok (.iconst 1, 1) from by decide +kernel) (by decide) rfl ?_
            refine sr_icmp_ne (q := 56) C 66 (show decode cX11_order 53 = .ok (.if_icmp .ne 13, 3) from by decide +kernel) (by decide) rfl ?_ ?_
            · refine sr_aload_n (i := 0) (q := 67) C (show decode cX11_order 66 = .ok (.aload_n 0, 1) from by decide +kernel) rfl rfl rfl ?_
              refine sr_getr (q := 70) C fl_X11_73 hv0 (show decode cX11_order 67 = .ok (.getfield 73, 3) from by decide +kernel) rfl ?_
              refine sr_iload_n (i := 2) (q := 71) C (show decode cX11_order 70 = .ok (.iload_n 2, 1) from by decide +kernel) rfl rfl rfl ?_
              refine sr_iconst (v := (2 : Int32)) (q := 72) C (show decode cX11_order 71 = .ok (.iconst 2, 1) from by decide +kernel) (by decide) rfl ?_
              refine sr_isub (q := 73) C (show decode cX11_order 72 = .ok (.isub, 1) from by decide +kernel) rfl ?_
              refine sr_cVi (As := [.int (v2 - (2 : Int32))]) (st := []) (b := lk v0 11) (q := 76) C yvX5_unitAt ml_X11_293 (cnX5_unitAt (xo κ) (lk v0 11) (v2 - (2 : Int32)) (kt hv0 kp_11_11)) (kt hv0 kp_11_11) (by decide) rfl rfl rfl (by decide) (by decide) (Nat.le_of_ble_eq_true rfl) rfl (show decode cX11_order 73 = .ok (.invokevirtual 293, 3) from by decide +kernel) rfl (fun x73 => ?_)
              exact sr_ireturn C _ rfl (show decode cX11_order 76 = .ok (.ireturn, 1) from by decide +kernel)
            · refine sr_aload_n (i := 0) (q := 57) C (show decode cX11_order 56 = .ok (.aload_n 0, 1) from by decide +kernel) rfl rfl rfl ?_
              refine sr_getr (q := 60) C fl_X11_73 hv0 (show decode cX11_order 57 = .ok (.getfield 73, 3) from by decide +kernel) rfl ?_
              refine sr_geti (q := 63) C fl_X11_290 (Or.inl rfl) (kt hv0 kp_11_11) (show decode cX11_order 60 = .ok (.getfield 290, 3) from by decide +kernel) rfl (fun x60 => ?_)
              refine sr_goto (q := 76) C (show decode cX11_order 63 = .ok (.goto 13, 3) from by decide +kernel) (by decide) ?_
              exact sr_ireturn C _ rfl (show decode cX11_order 76 = .ok (.ireturn, 1) from by decide +kernel)
          · refine sr_aload_n (i := 0) (q := 44) C (show decode cX11_order 43 = .ok (.aload_n 0, 1) from by decide +kernel) rfl rfl rfl ?_
            refine sr_getr (q := 47) C fl_X11_73 hv0 (show decode cX11_order 44 = .ok (.getfield 73, 3) from by decide +kernel) rfl ?_
            refine sr_geti (q := 50) C fl_X11_287 (Or.inl rfl) (kt hv0 kp_11_11) (show decode cX11_order 47 = .ok (.getfield 287, 3) from by decide +kernel) rfl (fun x47 => ?_)
            exact sr_ireturn C _ rfl (show decode cX11_order 50 = .ok (.ireturn, 1) from by decide +kernel)
        · refine sr_bipush (v := (-3 : Int32)) (q := 38) C (show decode cX11_order 36 = .ok (.bipush (-3), 2) from by decide +kernel) (by decide) rfl ?_
          exact sr_ireturn C _ rfl (show decode cX11_order 38 = .ok (.ireturn, 1) from by decide +kernel)
      · refine sr_bipush (v := (-2 : Int32)) (q := 20) C (show decode cX11_order 18 = .ok (.bipush (-2), 2) from by decide +kernel) (by decide) rfl ?_
        exact sr_ireturn C _ rfl (show decode cX11_order 20 = .ok (.ireturn, 1) from by decide +kernel)
theorem cnX11_order (ω : sm_O) (v0 : Nat) (v1 : Int32) (v2 : Int32) (hv0 : kd v0 = 11) : sm_Mt 15 yX11_order cX11_order 3 (some .int) ω [.ref (ω.1 + v0), .int v1, .int v2] (fun a => some (.int a)) (fnX11_order v0 v1 v2) := by
  refine sm_conI (r := fun a => a) (by decide) (fun _ => rfl) (Nat.le_of_ble_eq_true rfl) ?_
  intro κ hκ C
  subst hκ
  exact slX11_order C v0 v1 v2 hv0
def fnX9_missing_J53 (k4 : Nat → Int32 → Int32 → sm_M Int32) (v0 : Nat) (v1 : Int32) (v2 : Int32) : sm_M Int32 := k4 v0 v1 (v2 + (1 : Int32))
set_option maxHeartbeats 4000000 in
set_option maxRecDepth 100000 in
theorem slX9_missing_J53 {κ : sm_X} (C : sm_C κ RX9 cX9_missing 3 3) {k4 : Nat → Int32 → Int32 → sm_M Int32} (K4 : ∀ (v0 : Nat) (v1 : Int32) (v2 : Int32) (hv0 : kd v0 = 9), sm_S κ (fun r : Int32 => .inr (some (.int r))) (.inl (4, [some (xad κ v0), some (.int v1), some (.int v2)], [])) (k4 v0 v1 v2)) (v0 : Nat) (v1 : Int32) (v2 : Int32) (hv0 : kd v0 = 9) : sm_S κ (fun r : Int32 => .inr (some (.int r))) (.inl (53, [some (xad κ v0), some (.int v1), some (.int v2)], [])) (fnX9_missing_J53 k4 v0 v1 v2) := by
  unfold fnX9_missing_J53
  refine sr_iinc (v := v2 + (1 : Int32)) (L' := [some (xad κ v0), some (.int v1), some (.int (v2 + (1 : Int32)))]) (q := 56) C (show decode cX9_missing 53 = .ok (.iinc 2 1, 3) from by decide +kernel) rfl rfl (by decide) rfl rfl ?_
  refine sr_goto (q := 4) C (show decode cX9_missing 56 = .ok (.goto (-52), 3) from by decide +kernel) (by decide) ?_
  exact K4 v0 v1 (v2 + (1 : Int32)) hv0
def fnX9_missing_L4 : Nat → Nat → Int32 → Int32 → sm_M Int32
  | 0, _, _, _ => m_fail
  | n + 1, v0, v1, v2 => m_gi (lk v0 0) 5 fun x9 => m_br (x9 ≤ v2)
    (m_ret v1)
    (m_bnd (fnX7_isUnit (lk v0 0) v2) fun x20 => m_br ((bI x20) = 0)
    (fnX9_missing_J53 (fnX9_missing_L4 n) v0 v1 v2)
    (m_bnd (fnX7_mustGo (lk v0 0) v2) fun x31 => m_br ((bI x31) = 0)
    (fnX9_missing_J53 (fnX9_missing_L4 n) v0 v1 v2)
    (m_bnd (fnX9_isAt v0 v2 (99 : Int32)) fun x41 => m_br ((bI x41) = 0)
    (m_nm (v1 ||| ((1 : Int32) <<< (v2 &&& 31))) fun y52 => fnX9_missing_J53 (fnX9_missing_L4 n) v0 y52 v2)
    (fnX9_missing_J53 (fnX9_missing_L4 n) v0 v1 v2))))
set_option maxHeartbeats 4000000 in
set_option maxRecDepth 100000 in
theorem slX9_missing_L4 {κ : sm_X} (C : sm_C κ RX9 cX9_missing 3 3) : ∀ (n : Nat) (v0 : Nat) (v1 : Int32) (v2 : Int32) (hv0 : kd v0 = 9), sm_S κ (fun r : Int32 => .inr (some (.int r))) (.inl (4, [some (xad κ v0), some (.int v1), some (.int v2)], [])) (fnX9_missing_L4 n v0 v1 v2) := by
  intro n
  induction n with
  | zero =>
    intros
    exact sr_fail
  | succ n K4 =>
    intro v0 v1 v2 hv0
    unfold fnX9_missing_L4
    refine sr_iload_n (i := 2) (q := 5) C (show decode cX9_missing 4 = .ok (.iload_n 2, 1) from by decide +kernel) rfl rfl rfl ?_
    refine sr_aload_n (i := 0) (q := 6) C (show decode cX9_missing 5 = .ok (.aload_n 0, 1) from by decide +kernel) rfl rfl rfl ?_
    refine sr_getr (q := 9) C fl_X9_21 hv0 (show decode cX9_missing 6 = .ok (.getfield 21, 3) from by decide +kernel) rfl ?_
    refine sr_geti (q := 12) C fl_X9_73 (Or.inl rfl) (kt hv0 kp_9_0) (show decode cX9_missing 9 = .ok (.getfield 73, 3) from by decide +kernel) rfl (fun x9 => ?_)
    refine sr_icmp_ge (q := 15) C 59 (show decode cX9_missing 12 = .ok (.if_icmp .ge 47, 3) from by decide +kernel) (by decide) rfl ?_ ?_
    · refine sr_iload_n (i := 1) (q := 60) C (show decode cX9_missing 59 = .ok (.iload_n 1, 1) from by decide +kernel) rfl rfl rfl ?_
      exact sr_ireturn C _ rfl (show decode cX9_missing 60 = .ok (.ireturn, 1) from by decide +kernel)
    · refine sr_aload_n (i := 0) (q := 16) C (show decode cX9_missing 15 = .ok (.aload_n 0, 1) from by decide +kernel) rfl rfl rfl ?_
      refine sr_getr (q := 19) C fl_X9_21 hv0 (show decode cX9_missing 16 = .ok (.getfield 21, 3) from by decide +kernel) rfl ?_
      refine sr_iload_n (i := 2) (q := 20) C (show decode cX9_missing 19 = .ok (.iload_n 2, 1) from by decide +kernel) rfl rfl rfl ?_
      refine sr_cVz (As := [.int v2]) (st := []) (b := lk v0 0) (q := 23) C yvX7_isUnit ml_X9_79 (cnX7_isUnit (xo κ) (lk v0 0) v2 (kt hv0 kp_9_0)) (kt hv0 kp_9_0) (by decide) rfl rfl rfl (by decide) (by decide) (Nat.le_of_ble_eq_true rfl) rfl (show decode cX9_missing 20 = .ok (.invokevirtual 79, 3) from by decide +kernel) rfl (fun x20 => ?_)
      refine sr_if_eq (q := 26) C 53 (show decode cX9_missing 23 = .ok (.ifCond .eq 30, 3) from by decide +kernel) (by decide) rfl ?_ ?_
      · exact slX9_missing_J53 C K4 v0 v1 v2 hv0
      · refine sr_aload_n (i := 0) (q := 27) C (show decode cX9_missing 26 = .ok (.aload_n 0, 1) from by decide +kernel) rfl rfl rfl ?_
        refine sr_getr (q := 30) C fl_X9_21 hv0 (show decode cX9_missing 27 = .ok (.getfield 21, 3) from by decide +kernel) rfl ?_
        refine sr_iload_n (i := 2) (q := 31) C (show decode cX9_missing 30 = .ok (.iload_n 2, 1) from by decide +kernel) rfl rfl rfl ?_
        refine sr_cVz (As := [.int v2]) (st := []) (b := lk v0 0) (q := 34) C yvX7_mustGo ml_X9_82 (cnX7_mustGo (xo κ) (lk v0 0) v2 (kt hv0 kp_9_0)) (kt hv0 kp_9_0) (by decide) rfl rfl rfl (by decide) (by decide) (Nat.le_of_ble_eq_true rfl) rfl (show decode cX9_missing 31 = .ok (.invokevirtual 82, 3) from by decide +kernel) rfl (fun x31 => ?_)
        refine sr_if_eq (q := 37) C 53 (show decode cX9_missing 34 = .ok (.ifCond .eq 19, 3) from by decide +kernel) (by decide) rfl ?_ ?_
        · exact slX9_missing_J53 C K4 v0 v1 v2 hv0
        · refine sr_aload_n (i := 0) (q := 38) C (show decode cX9_missing 37 = .ok (.aload_n 0, 1) from by decide +kernel) rfl rfl rfl ?_
          refine sr_iload_n (i := 2) (q := 39) C (show decode cX9_missing 38 = .ok (.iload_n 2, 1) from by decide +kernel) rfl rfl rfl ?_
          refine sr_bipush (v := (99 : Int32)) (q := 41) C (show decode cX9_missing 39 = .ok (.bipush 99, 2) from by decide +kernel) (by decide) rfl ?_
          refine sr_cVz (As := [.int v2, .int (99 : Int32)]) (st := []) (b := v0) (q := 44) C yvX9_isAt ml_X9_85 (cnX9_isAt (xo κ) v0 v2 (99 : Int32) hv0) hv0 (by decide) rfl rfl rfl (by decide) (by decide) (Nat.le_of_ble_eq_true rfl) rfl (show decode cX9_missing 41 = .ok (.invokevirtual 85, 3) from by decide +kernel) rfl (fun x41 => ?_)
          refine sr_if_ne (q := 47) C 53 (show decode cX9_missing 44 = .ok (.ifCond .ne 9, 3) from by decide +kernel) (by decide) rfl ?_ ?_
          · exact slX9_missing_J53 C K4 v0 v1 v2 hv0
          · refine sr_iload_n (i := 1) (q := 48) C (show decode cX9_missing 47 = .ok (.iload_n 1, 1) from by decide +kernel) rfl rfl rfl ?_
            refine sr_iconst (v := (1 : Int32)) (q := 49) C (show decode cX9_missing 48 = .ok (.iconst 1, 1) from by decide +kernel) (by decide) rfl ?_
            refine sr_iload_n (i := 2) (q := 50) C (show decode cX9_missing 49 = .ok (.iload_n 2, 1) from by decide +kernel) rfl rfl rfl ?_
            refine sr_ishl (q := 51) C (show decode cX9_missing 50 = .ok (.ishl, 1) from by decide +kernel) rfl ?_
            refine sr_ior (q := 52) C (show decode cX9_missing 51 = .ok (.ior, 1) from by decide +kernel) rfl ?_
            refine sr_nmi (fun y52 => ?_)
            refine sr_istore_n (i := 1) (L' := [some (xad κ v0), some (.int y52), some (.int v2)]) (q := 53) C (show decode cX9_missing 52 = .ok (.istore_n 1, 1) from by decide +kernel) rfl (by decide) rfl rfl ?_
            exact slX9_missing_J53 C K4 v0 y52 v2 hv0
def fnX9_missing (v0 : Nat) : sm_M Int32 := fnX9_missing_L4 4096 v0 (0 : Int32) (0 : Int32)
set_option maxHeartbeats 4000000 in
set_option maxRecDepth 100000 in
theorem slX9_missing {κ : sm_X} (C : sm_C κ RX9 cX9_missing 3 3) (v0 : Nat) (hv0 : kd v0 = 9) : sm_S κ (fun r : Int32 => .inr (some (.int r))) (.inl (0, [some (xad κ v0), none, none], [])) (fnX9_missing v0) := by
  unfold fnX9_missing
  refine sr_iconst (v := (0 : Int32)) (q := 1) C (show decode cX9_missing 0 = .ok (.iconst 0, 1) from by decide +kernel) (by decide) rfl ?_
  refine sr_istore_n (i := 1) (L' := [some (xad κ v0), some (.int (0 : Int32)), none]) (q := 2) C (show decode cX9_missing 1 = .ok (.istore_n 1, 1) from by decide +kernel) rfl (by decide) rfl rfl ?_
  refine sr_iconst (v := (0 : Int32)) (q := 3) C (show decode cX9_missing 2 = .ok (.iconst 0, 1) from by decide +kernel) (by decide) rfl ?_
  refine sr_istore_n (i := 2) (L' := [some (xad κ v0), some (.int (0 : Int32)), some (.int (0 : Int32))]) (q := 4) C (show decode cX9_missing 3 = .ok (.istore_n 2, 1) from by decide +kernel) rfl (by decide) rfl rfl ?_
  exact slX9_missing_L4 C 4096 v0 (0 : Int32) (0 : Int32) hv0
theorem cnX9_missing (ω : sm_O) (v0 : Nat) (hv0 : kd v0 = 9) : sm_Mt 3 yX9_missing cX9_missing 3 (some .int) ω [.ref (ω.1 + v0)] (fun a => some (.int a)) (fnX9_missing v0) := by
  refine sm_conI (r := fun a => a) (by decide) (fun _ => rfl) (Nat.le_of_ble_eq_true rfl) ?_
  intro κ hκ C
  subst hκ
  exact slX9_missing C v0 hv0
def fnX11_over (v0 : Nat) (v1 : Int32) (v2 : Int32) : sm_M Int32 := m_bnd (fnX11_isWay v0 v1) fun x2 => m_br ((bI x2) = 0)
    (m_ret (-2 : Int32))
    (m_br (v2 < 0)
    (m_ret (-2 : Int32))
    (m_br (v2 ≤ (3 : Int32))
    (m_bnd (fnX11_overInThought v0 v1) fun x22 => m_br (v2 = (0 : Int32))
    (m_bnd (fnJ6_bitCount_0f7a4 x22) fun x53 => m_ret x53)
    (m_br (v2 = (1 : Int32))
    (m_bnd (fnX7_worthOf (lk v0 5) x22) fun x62 => m_ret x62)
    (m_br (v2 = (2 : Int32))
    (m_ret x22)
    (m_bnd (fnX9_missing (lk v0 7)) fun x72 => m_ret x72))))
    (m_ret (-2 : Int32))))
set_option maxHeartbeats 4000000 in
set_option maxRecDepth 100000 in
theorem slX11_over {κ : sm_X} (C : sm_C κ RX11 cX11_over 4 8) (v0 : Nat) (v1 : Int32) (v2 : Int32) (hv0 : kd v0 = 11) : sm_S κ (fun r : Int32 => .inr (some (.int r))) (.inl (0, [some (xad κ v0), some (.int v1), some (.int v2), none], [])) (fnX11_over v0 v1 v2) := by
  unfold fnX11_over
  refine sr_aload_n (i := 0) (q := 1) C (show decode cX11_over 0 = .ok (.aload_n 0, 1) from by decide +kernel) rfl rfl rfl ?_
  refine sr_iload_n (i := 1) (q := 2) C (show decode cX11_over 1 = .ok (.iload_n 1, 1) from by decide +kernel) rfl rfl rfl ?_
  refine sr_cVz (As := [.int v1]) (st := []) (b := v0) (q := 5) C yvX11_isWay ml_X11_214 (cnX11_isWay (xo κ) v0 v1 hv0) hv0 (by decide) rfl rfl rfl (by decide) (by decide) (Nat.le_of_ble_eq_true rfl) rfl (show decode cX11_over 2 = .ok (.invokevirtual 214, 3) from by decide +kernel) rfl (fun x2 => ?_)
  refine sr_if_eq (q := 8) C 17 (show decode cX11_over 5 = .ok (.ifCond .eq 12, 3) from by decide +kernel) (by decide) rfl ?_ ?_
  · refine sr_bipush (v := (-2 : Int32)) (q := 19) C (show decode cX11_over 17 = .ok (.bipush (-2), 2) from by decide +kernel) (by decide) rfl ?_
    exact sr_ireturn C _ rfl (show decode cX11_over 19 = .ok (.ireturn, 1) from by decide +kernel)
  · refine sr_iload_n (i := 2) (q := 9) C (show decode cX11_over 8 = .ok (.iload_n 2, 1) from by decide +kernel) rfl rfl rfl ?_
    refine sr_if_lt (q := 12) C 17 (show decode cX11_over 9 = .ok (.ifCond .lt 8, 3) from by decide +kernel) (by decide) rfl ?_ ?_
    · refine sr_bipush (v := (-2 : Int32)) (q := 19) C (show decode cX11_over 17 = .ok (.bipush (-2), 2) from by decide +kernel) (by decide) rfl ?_
      exact sr_ireturn C _ rfl (show decode cX11_over 19 = .ok (.ireturn, 1) from by decide +kernel)
    · refine sr_iload_n (i := 2) (q := 13) C (show decode cX11_over 12 = .ok (.iload_n 2, 1) from by decide +kernel) rfl rfl rfl ?_
      refine sr_iconst (v := (3 : Int32)) (q := 14) C (show decode cX11_over 13 = .ok (.iconst 3, 1) from by decide +kernel) (by decide) rfl ?_
      refine sr_icmp_le (q := 17) C 20 (show decode cX11_over 14 = .ok (.if_icmp .le 6, 3) from by decide +kernel) (by decide) rfl ?_ ?_
      · refine sr_aload_n (i := 0) (q := 21) C (show decode cX11_over 20 = .ok (.aload_n 0, 1) from by decide +kernel) rfl rfl rfl ?_
        refine sr_iload_n (i := 1) (q := 22) C (show decode cX11_over 21 = .ok (.iload_n 1, 1) from by decide +kernel) rfl rfl rfl ?_
        refine sr_cVi (As := [.int v1]) (st := []) (b := v0) (q := 25) C yvX11_overInThought ml_X11_265 (cnX11_overInThought (xo κ) v0 v1 hv0) hv0 (by decide) rfl rfl rfl (by decide) (by decide) (Nat.le_of_ble_eq_true rfl) rfl (show decode cX11_over 22 = .ok (.invokevirtual 265, 3) from by decide +kernel) rfl (fun x22 => ?_)
        refine sr_istore_n (i := 3) (L' := [some (xad κ v0), some (.int v1), some (.int v2), some (.int x22)]) (q := 26) C (show decode cX11_over 25 = .ok (.istore_n 3, 1) from by decide +kernel) rfl (by decide) rfl rfl ?_
        refine sr_iload_n (i := 2) (q := 27) C (show decode cX11_over 26 = .ok (.iload_n 2, 1) from by decide +kernel) rfl rfl rfl ?_
        refine sr_case (fun hw0 => ?_) (fun hw0 => ?_)
        · refine sr_tabIn (q := 52) C hw0 (show decode cX11_over 27 = .ok (.tableswitch 41 0 2 #[25, 30, 39], 25) from by decide +kernel) (by decide) (by decide) rfl (by decide) ?_
          refine sr_iload_n (i := 3) (q := 53) C (show decode cX11_over 52 = .ok (.iload_n 3, 1) from by decide +kernel) rfl rfl rfl ?_
          refine sr_cSi (As := [.int x22]) (st := []) (q := 56) C ysJ6_bitCount_0f7a4 ml_X11_268 (cnJ6_bitCount_0f7a4 (xo κ) x22) rfl (by decide) (by decide) (Nat.le_of_ble_eq_true rfl) rfl (show decode cX11_over 53 = .ok (.invokestatic 268, 3) from by decide +kernel) rfl (fun x53 => ?_)
          exact sr_ireturn C _ rfl (show decode cX11_over 56 = .ok (.ireturn, 1) from by decide +kernel)
        · refine sr_case (fun hw1 => ?_) (fun hw1 => ?_)
          · refine sr_tabIn (q := 57) C hw1 (show decode cX11_over 27 = .ok (.tableswitch 41 0 2 #[25, 30, 39], 25) from by decide +kernel) (by decide) (by decide) rfl (by decide) ?_
            refine sr_aload_n (i := 0) (q := 58) C (show decode cX11_over 57 = .ok (.aload_n 0, 1) from by decide +kernel) rfl rfl rfl ?_
            refine sr_getr (q := 61) C fl_X11_27 hv0 (show decode cX11_over 58 = .ok (.getfield 27, 3) from by decide +kernel) rfl ?_
            refine sr_iload_n (i := 3) (q := 62) C (show decode cX11_over 61 = .ok (.iload_n 3, 1) from by decide +kernel) rfl rfl rfl ?_
            refine sr_cVi (As := [.int x22]) (st := []) (b := lk v0 5) (q := 65) C yvX7_worthOf ml_X11_273 (cnX7_worthOf (xo κ) (lk v0 5) x22 (kt hv0 kp_11_5)) (kt hv0 kp_11_5) (by decide) rfl rfl rfl (by decide) (by decide) (Nat.le_of_ble_eq_true rfl) rfl (show decode cX11_over 62 = .ok (.invokevirtual 273, 3) from by decide +kernel) rfl (fun x62 => ?_)
            exact sr_ireturn C _ rfl (show decode cX11_over 65 = .ok (.ireturn, 1) from by decide +kernel)
          · refine sr_case (fun hw2 => ?_) (fun hw2 => ?_)
            · refine sr_tabIn (q := 66) C hw2 (show decode cX11_over 27 = .ok (.tableswitch 41 0 2 #[25, 30, 39], 25) from by decide +kernel) (by decide) (by decide) rfl (by decide) ?_
              refine sr_iload_n (i := 3) (q := 67) C (show decode cX11_over 66 = .ok (.iload_n 3, 1) from by decide +kernel) rfl rfl rfl ?_
              exact sr_ireturn C _ rfl (show decode cX11_over 67 = .ok (.ireturn, 1) from by decide +kernel)
            · refine sr_tabOut (q := 68) C (sw3_out hw0 hw1 hw2) (show decode cX11_over 27 = .ok (.tableswitch 41 0 2 #[25, 30, 39], 25) from by decide +kernel) (by decide) ?_
              refine sr_aload_n (i := 0) (q := 69) C (show decode cX11_over 68 = .ok (.aload_n 0, 1) from by decide +kernel) rfl rfl rfl ?_
              refine sr_getr (q := 72) C fl_X11_40 hv0 (show decode cX11_over 69 = .ok (.getfield 40, 3) from by decide +kernel) rfl ?_
              refine sr_cVi (As := []) (st := []) (b := lk v0 7) (q := 75) C yvX9_missing ml_X11_276 (cnX9_missing (xo κ) (lk v0 7) (kt hv0 kp_11_7)) (kt hv0 kp_11_7) (by decide) rfl rfl rfl (by decide) (by decide) (Nat.le_of_ble_eq_true rfl) rfl (show decode cX11_over 72 = .ok (.invokevirtual 276, 3) from by decide +kernel) rfl (fun x72 => ?_)
              exact sr_ireturn C _ rfl (show decode cX11_over 75 = .ok (.ireturn, 1) from by decide +kernel)
      · refine sr_bipush (v := (-2 : Int32)) (q := 19) C (show decode cX11_over 17 = .ok (.bipush (-2), 2) from by decide +kernel) (by decide) rfl ?_
        exact sr_ireturn C _ rfl (show decode cX11_over 19 = .ok (.ireturn, 1) from by decide +kernel)
theorem cnX11_over (ω : sm_O) (v0 : Nat) (v1 : Int32) (v2 : Int32) (hv0 : kd v0 = 11) : sm_Mt 8 yX11_over cX11_over 4 (some .int) ω [.ref (ω.1 + v0), .int v1, .int v2] (fun a => some (.int a)) (fnX11_over v0 v1 v2) := by
  refine sm_conI (r := fun a => a) (by decide) (fun _ => rfl) (Nat.le_of_ble_eq_true rfl) ?_
  intro κ hκ C
  subst hκ
  exact slX11_over C v0 v1 v2 hv0
def fnX8_has (v0 : Nat) (v1 : Int32) (v2 : Int32) : sm_M Bool := m_br (v1 < 0)
    (m_ret false)
    (m_br (v2 < 0)
    (m_ret false)
    (m_gi v0 2 fun x14 => m_br (0 < (lg_cmp (v1.toInt64 + v2.toInt64) x14.toInt64))
    (m_ret false)
    (m_ret true)))
set_option maxHeartbeats 4000000 in
set_option maxRecDepth 100000 in
theorem slX8_has {κ : sm_X} (C : sm_C κ RX8 cX8_has 3 1) (v0 : Nat) (v1 : Int32) (v2 : Int32) (hv0 : kd v0 = 8) : sm_S κ (fun r : Bool => .inr (some (.int (bI r)))) (.inl (0, [some (xad κ v0), some (.int v1), some (.int v2)], [])) (fnX8_has v0 v1 v2) := by
  unfold fnX8_has
  refine sr_iload_n (i := 1) (q := 1) C (show decode cX8_has 0 = .ok (.iload_n 1, 1) from by decide +kernel) rfl rfl rfl ?_
  refine sr_if_lt (q := 4) C 26 (show decode cX8_has 1 = .ok (.ifCond .lt 25, 3) from by decide +kernel) (by decide) rfl ?_ ?_
  · refine sr_iconst (v := (0 : Int32)) (q := 27) C (show decode cX8_has 26 = .ok (.iconst 0, 1) from by decide +kernel) (by decide) rfl ?_
    exact sr_ireturn C false rfl (show decode cX8_has 27 = .ok (.ireturn, 1) from by decide +kernel)
  · refine sr_iload_n (i := 2) (q := 5) C (show decode cX8_has 4 = .ok (.iload_n 2, 1) from by decide +kernel) rfl rfl rfl ?_
    refine sr_if_lt (q := 8) C 26 (show decode cX8_has 5 = .ok (.ifCond .lt 21, 3) from by decide +kernel) (by decide) rfl ?_ ?_
    · refine sr_iconst (v := (0 : Int32)) (q := 27) C (show decode cX8_has 26 = .ok (.iconst 0, 1) from by decide +kernel) (by decide) rfl ?_
      exact sr_ireturn C false rfl (show decode cX8_has 27 = .ok (.ireturn, 1) from by decide +kernel)
    · refine sr_iload_n (i := 1) (q := 9) C (show decode cX8_has 8 = .ok (.iload_n 1, 1) from by decide +kernel) rfl rfl rfl ?_
      refine sr_i2l (q := 10) C (show decode cX8_has 9 = .ok (.i2l, 1) from by decide +kernel) rfl ?_
      refine sr_iload_n (i := 2) (q := 11) C (show decode cX8_has 10 = .ok (.iload_n 2, 1) from by decide +kernel) rfl rfl rfl ?_
      refine sr_i2l (q := 12) C (show decode cX8_has 11 = .ok (.i2l, 1) from by decide +kernel) rfl ?_
      refine sr_ladd (q := 13) C (show decode cX8_has 12 = .ok (.ladd, 1) from by decide +kernel) rfl ?_
      refine sr_aload_n (i := 0) (q := 14) C (show decode cX8_has 13 = .ok (.aload_n 0, 1) from by decide +kernel) rfl rfl rfl ?_
      refine sr_geti (q := 17) C fl_X8_23 (Or.inl rfl) hv0 (show decode cX8_has 14 = .ok (.getfield 23, 3) from by decide +kernel) rfl (fun x14 => ?_)
      refine sr_i2l (q := 18) C (show decode cX8_has 17 = .ok (.i2l, 1) from by decide +kernel) rfl ?_
      refine sr_lcmp (q := 19) C (show decode cX8_has 18 = .ok (.lcmp, 1) from by decide +kernel) rfl ?_
      refine sr_if_gt (q := 22) C 26 (show decode cX8_has 19 = .ok (.ifCond .gt 7, 3) from by decide +kernel) (by decide) rfl ?_ ?_
      · refine sr_iconst (v := (0 : Int32)) (q := 27) C (show decode cX8_has 26 = .ok (.iconst 0, 1) from by decide +kernel) (by decide) rfl ?_
        exact sr_ireturn C false rfl (show decode cX8_has 27 = .ok (.ireturn, 1) from by decide +kernel)
      · refine sr_iconst (v := (1 : Int32)) (q := 23) C (show decode cX8_has 22 = .ok (.iconst 1, 1) from by decide +kernel) (by decide) rfl ?_
        refine sr_goto (q := 27) C (show decode cX8_has 23 = .ok (.goto 4, 3) from by decide +kernel) (by decide) ?_
        exact sr_ireturn C true rfl (show decode cX8_has 27 = .ok (.ireturn, 1) from by decide +kernel)
theorem cnX8_has (ω : sm_O) (v0 : Nat) (v1 : Int32) (v2 : Int32) (hv0 : kd v0 = 8) : sm_Mt 1 yX8_has cX8_has 3 (some .boolean) ω [.ref (ω.1 + v0), .int v1, .int v2] (fun a => some (.int (bI a))) (fnX8_has v0 v1 v2) := by
  refine sm_conI (r := bI) (by decide) bI_nar (Nat.le_of_ble_eq_true rfl) ?_
  intro κ hκ C
  subst hκ
  exact slX8_has C v0 v1 v2 hv0
def fnX11_paste (v0 : Nat) (v1 : Int32) (v2 : Int32) (v3 : Int32) (v4 : Int32) (v5 : Int32) : sm_M Int32 := m_bnd (fnX11_isSlot v1) fun x1 => m_br ((bI x1) = 0)
    (m_ret (-2 : Int32))
    (m_bnd (fnX11_isSlot v3) fun x8 => m_br ((bI x8) = 0)
    (m_ret (-2 : Int32))
    (m_ap (lk v0 14) v1 fun x22 => m_gi x22 0 fun x23 => m_br (x23 = 0)
    (m_ret (-6 : Int32))
    (m_ap (lk v0 14) v3 fun x34 => m_gi x34 0 fun x35 => m_br (x35 = 0)
    (m_ret (-6 : Int32))
    (m_ap (lk v0 14) v1 fun x49 => m_gi x49 1 fun x50 => m_ap (lk v0 14) v3 fun x58 => m_gi x58 1 fun x59 => m_br (x50 = x59)
    (m_ap (lk v0 14) v1 fun x73 => m_bnd (fnX8_has x73 v2 v5) fun x77 => m_br ((bI x77) = 0)
    (m_ret (-7 : Int32))
    (m_ap (lk v0 14) v3 fun x88 => m_bnd (fnX8_has x88 v4 v5) fun x93 => m_br ((bI x93) = 0)
    (m_ret (-7 : Int32))
    (m_ap (lk v0 14) v1 fun x107 => m_ap (lk v0 14) v3 fun x117 => m_cpl (lk x107 3) v2 (lk x117 3) v4 v5 <| m_ret (0 : Int32))))
    (m_ret (-8 : Int32))))))
set_option maxHeartbeats 4000000 in
set_option maxRecDepth 100000 in
theorem slX11_paste {κ : sm_X} (C : sm_C κ RX11 cX11_paste 6 2) (v0 : Nat) (v1 : Int32) (v2 : Int32) (v3 : Int32) (v4 : Int32) (v5 : Int32) (hv0 : kd v0 = 11) : sm_S κ (fun r : Int32 => .inr (some (.int r))) (.inl (0, [some (xad κ v0), some (.int v1), some (.int v2), some (.int v3), some (.int v4), some (.int v5)], [])) (fnX11_paste v0 v1 v2 v3 v4 v5) := by
  unfold fnX11_paste
  refine sr_iload_n (i := 1) (q := 1) C (show decode cX11_paste 0 = .ok (.iload_n 1, 1) from by decide +kernel) rfl rfl rfl ?_
  refine sr_cSz (As := [.int v1]) (st := []) (q := 4) C ysX11_isSlot ml_X11_228 (cnX11_isSlot (xo κ) v1) rfl (by decide) (by decide) (Nat.le_of_ble_eq_true rfl) rfl (show decode cX11_paste 1 = .ok (.invokestatic 228, 3) from by decide +kernel) rfl (fun x1 => ?_)
  refine sr_if_eq (q := 7) C 14 (show decode cX11_paste 4 = .ok (.ifCond .eq 10, 3) from by decide +kernel) (by decide) rfl ?_ ?_
  · refine sr_bipush (v := (-2 : Int32)) (q := 16) C (show decode cX11_paste 14 = .ok (.bipush (-2), 2) from by decide +kernel) (by decide) rfl ?_
    exact sr_ireturn C _ rfl (show decode cX11_paste 16 = .ok (.ireturn, 1) from by decide +kernel)
  · refine sr_iload_n (i := 3) (q := 8) C (show decode cX11_paste 7 = .ok (.iload_n 3, 1) from by decide +kernel) rfl rfl rfl ?_
    refine sr_cSz (As := [.int v3]) (st := []) (q := 11) C ysX11_isSlot ml_X11_228 (cnX11_isSlot (xo κ) v3) rfl (by decide) (by decide) (Nat.le_of_ble_eq_true rfl) rfl (show decode cX11_paste 8 = .ok (.invokestatic 228, 3) from by decide +kernel) rfl (fun x8 => ?_)
    refine sr_if_ne (q := 14) C 17 (show decode cX11_paste 11 = .ok (.ifCond .ne 6, 3) from by decide +kernel) (by decide) rfl ?_ ?_
    · refine sr_aload_n (i := 0) (q := 18) C (show decode cX11_paste 17 = .ok (.aload_n 0, 1) from by decide +kernel) rfl rfl rfl ?_
      refine sr_getr (q := 21) C fl_X11_93 hv0 (show decode cX11_paste 18 = .ok (.getfield 93, 3) from by decide +kernel) rfl ?_
      refine sr_iload_n (i := 1) (q := 22) C (show decode cX11_paste 21 = .ok (.iload_n 1, 1) from by decide +kernel) rfl rfl rfl ?_
      refine sr_aaload (t0 := 5) (q := 23) C (kt hv0 kp_11_14) (Or.inr (Or.inl rfl)) rfl (show decode cX11_paste 22 = .ok (.aaload, 1) from by decide +kernel) rfl (fun x22 hx22 => ?_)
      refine sr_geti (q := 26) C fl_X11_231 (Or.inr rfl) hx22 (show decode cX11_paste 23 = .ok (.getfield 231, 3) from by decide +kernel) rfl (fun x23 => ?_)
      refine sr_if_eq (q := 29) C 41 (show decode cX11_paste 26 = .ok (.ifCond .eq 15, 3) from by decide +kernel) (by decide) rfl ?_ ?_
      · refine sr_bipush (v := (-6 : Int32)) (q := 43) C (show decode cX11_paste 41 = .ok (.bipush (-6), 2) from by decide +kernel) (by decide) rfl ?_
        exact sr_ireturn C _ rfl (show decode cX11_paste 43 = .ok (.ireturn, 1) from by decide +kernel)
      · refine sr_aload_n (i := 0) (q := 30) C (show decode cX11_paste 29 = .ok (.aload_n 0, 1) from by decide +kernel) rfl rfl rfl ?_
        refine sr_getr (q := 33) C fl_X11_93 hv0 (show decode cX11_paste 30 = .ok (.getfield 93, 3) from by decide +kernel) rfl ?_
        refine sr_iload_n (i := 3) (q := 34) C (show decode cX11_paste 33 = .ok (.iload_n 3, 1) from by decide +kernel) rfl rfl rfl ?_
        refine sr_aaload (t0 := 5) (q := 35) C (kt hv0 kp_11_14) (Or.inr (Or.inl rfl)) rfl (show decode cX11_paste 34 = .ok (.aaload, 1) from by decide +kernel) rfl (fun x34 hx34 => ?_)
        refine sr_geti (q := 38) C fl_X11_231 (Or.inr rfl) hx34 (show decode cX11_paste 35 = .ok (.getfield 231, 3) from by decide +kernel) rfl (fun x35 => ?_)
        refine sr_if_ne (q := 41) C 44 (show decode cX11_paste 38 = .ok (.ifCond .ne 6, 3) from by decide +kernel) (by decide) rfl ?_ ?_
        · refine sr_aload_n (i := 0) (q := 45) C (show decode cX11_paste 44 = .ok (.aload_n 0, 1) from by decide +kernel) rfl rfl rfl ?_
          refine sr_getr (q := 48) C fl_X11_93 hv0 (show decode cX11_paste 45 = .ok (.getfield 93, 3) from by decide +kernel) rfl ?_
          refine sr_iload_n (i := 1) (q := 49) C (show decode cX11_paste 48 = .ok (.iload_n 1, 1) from by decide +kernel) rfl rfl rfl ?_
          refine sr_aaload (t0 := 5) (q := 50) C (kt hv0 kp_11_14) (Or.inr (Or.inl rfl)) rfl (show decode cX11_paste 49 = .ok (.aaload, 1) from by decide +kernel) rfl (fun x49 hx49 => ?_)
          refine sr_geti (q := 53) C fl_X11_446 (Or.inl rfl) hx49 (show decode cX11_paste 50 = .ok (.getfield 446, 3) from by decide +kernel) rfl (fun x50 => ?_)
          refine sr_aload_n (i := 0) (q := 54) C (show decode cX11_paste 53 = .ok (.aload_n 0, 1) from by decide +kernel) rfl rfl rfl ?_
          refine sr_getr (q := 57) C fl_X11_93 hv0 (show decode cX11_paste 54 = .ok (.getfield 93, 3) from by decide +kernel) rfl ?_
          refine sr_iload_n (i := 3) (q := 58) C (show decode cX11_paste 57 = .ok (.iload_n 3, 1) from by decide +kernel) rfl rfl rfl ?_
          refine sr_aaload (t0 := 5) (q := 59) C (kt hv0 kp_11_14) (Or.inr (Or.inl rfl)) rfl (show decode cX11_paste 58 = .ok (.aaload, 1) from by decide +kernel) rfl (fun x58 hx58 => ?_)
          refine sr_geti (q := 62) C fl_X11_446 (Or.inl rfl) hx58 (show decode cX11_paste 59 = .ok (.getfield 446, 3) from by decide +kernel) rfl (fun x59 => ?_)
          refine sr_icmp_eq (q := 65) C 68 (show decode cX11_paste 62 = .ok (.if_icmp .eq 6, 3) from by decide +kernel) (by decide) rfl ?_ ?_
          · refine sr_aload_n (i := 0) (q := 69) C (show decode cX11_paste 68 = .ok (.aload_n 0, 1) from by decide +kernel) rfl rfl rfl ?_
            refine sr_getr (q := 72) C fl_X11_93 hv0 (show decode cX11_paste 69 = .ok (.getfield 93, 3) from by decide +kernel) rfl ?_
            refine sr_iload_n (i := 1) (q := 73) C (show decode cX11_paste 72 = .ok (.iload_n 1, 1) from by decide +kernel) rfl rfl rfl ?_
            refine sr_aaload (t0 := 5) (q := 74) C (kt hv0 kp_11_14) (Or.inr (Or.inl rfl)) rfl (show decode cX11_paste 73 = .ok (.aaload, 1) from by decide +kernel) rfl (fun x73 hx73 => ?_)
            refine sr_iload_n (i := 2) (q := 75) C (show decode cX11_paste 74 = .ok (.iload_n 2, 1) from by decide +kernel) rfl rfl rfl ?_
            refine sr_iload (i := 5) (q := 77) C (show decode cX11_paste 75 = .ok (.iload 5, 2) from by decide +kernel) rfl rfl ?_
            refine sr_cVz (As := [.int v2, .int v5]) (st := []) (b := x73) (q := 80) C yvX8_has ml_X11_449 (cnX8_has (xo κ) x73 v2 v5 hx73) hx73 (by decide) rfl rfl rfl (by decide) (by decide) (Nat.le_of_ble_eq_true rfl) rfl (show decode cX11_paste 77 = .ok (.invokevirtual 449, 3) from by decide +kernel) rfl (fun x77 => ?_)
            refine sr_if_eq (q := 83) C 99 (show decode cX11_paste 80 = .ok (.ifCond .eq 19, 3) from by decide +kernel) (by decide) rfl ?_ ?_
            · refine sr_bipush (v := (-7 : Int32)) (q := 101) C (show decode cX11_paste 99 = .ok (.bipush (-7), 2) from by decide +kernel) (by decide) rfl ?_
              exact sr_ireturn C _ rfl (show decode cX11_paste 101 = .ok (.ireturn, 1) from by decide +kernel)
            · refine sr_aload_n (i := 0) (q := 84) C (show decode cX11_paste 83 = .ok (.aload_n 0, 1) from by decide +kernel) rfl rfl rfl ?_
              refine sr_getr (q := 87) C fl_X11_93 hv0 (show decode cX11_paste 84 = .ok (.getfield 93, 3) from by decide +kernel) rfl ?_
              refine sr_iload_n (i := 3) (q := 88) C (show decode cX11_paste 87 = .ok (.iload_n 3, 1) from by decide +kernel) rfl rfl rfl ?_
              refine sr_aaload (t0 := 5) (q := 89) C (kt hv0 kp_11_14) (Or.inr (Or.inl rfl)) rfl (show decode cX11_paste 88 = .ok (.aaload, 1) from by decide +kernel) rfl (fun x88 hx88 => ?_)
              refine sr_iload (i := 4) (q := 91) C (show decode cX11_paste 89 = .ok (.iload 4, 2) from by decide +kernel) rfl rfl ?_
              refine sr_iload (i := 5) (q := 93) C (show decode cX11_paste 91 = .ok (.iload 5, 2) from by decide +kernel) rfl rfl ?_
              refine sr_cVz (As := [.int v4, .int v5]) (st := []) (b := x88) (q := 96) C yvX8_has ml_X11_449 (cnX8_has (xo κ) x88 v4 v5 hx88) hx88 (by decide) rfl rfl rfl (by decide) (by decide) (Nat.le_of_ble_eq_true rfl) rfl (show decode cX11_paste 93 = .ok (.invokevirtual 449, 3) from by decide +kernel) rfl (fun x93 => ?_)
              refine sr_if_ne (q := 99) C 102 (show decode cX11_paste 96 = .ok (.ifCond .ne 6, 3) from by decide +kernel) (by decide) rfl ?_ ?_
              · refine sr_aload_n (i := 0) (q := 103) C (show decode cX11_paste 102 = .ok (.aload_n 0, 1) from by decide +kernel) rfl rfl rfl ?_
                refine sr_getr (q := 106) C fl_X11_93 hv0 (show decode cX11_paste 103 = .ok (.getfield 93, 3) from by decide +kernel) rfl ?_
                refine sr_iload_n (i := 1) (q := 107) C (show decode cX11_paste 106 = .ok (.iload_n 1, 1) from by decide +kernel) rfl rfl rfl ?_
                refine sr_aaload (t0 := 5) (q := 108) C (kt hv0 kp_11_14) (Or.inr (Or.inl rfl)) rfl (show decode cX11_paste 107 = .ok (.aaload, 1) from by decide +kernel) rfl (fun x107 hx107 => ?_)
                refine sr_getr (q := 111) C fl_X11_245 hx107 (show decode cX11_paste 108 = .ok (.getfield 245, 3) from by decide +kernel) rfl ?_
                refine sr_iload_n (i := 2) (q := 112) C (show decode cX11_paste 111 = .ok (.iload_n 2, 1) from by decide +kernel) rfl rfl rfl ?_
                refine sr_aload_n (i := 0) (q := 113) C (show decode cX11_paste 112 = .ok (.aload_n 0, 1) from by decide +kernel) rfl rfl rfl ?_
                refine sr_getr (q := 116) C fl_X11_93 hv0 (show decode cX11_paste 113 = .ok (.getfield 93, 3) from by decide +kernel) rfl ?_
                refine sr_iload_n (i := 3) (q := 117) C (show decode cX11_paste 116 = .ok (.iload_n 3, 1) from by decide +kernel) rfl rfl rfl ?_
                refine sr_aaload (t0 := 5) (q := 118) C (kt hv0 kp_11_14) (Or.inr (Or.inl rfl)) rfl (show decode cX11_paste 117 = .ok (.aaload, 1) from by decide +kernel) rfl (fun x117 hx117 => ?_)
                refine sr_getr (q := 121) C fl_X11_245 hx117 (show decode cX11_paste 118 = .ok (.getfield 245, 3) from by decide +kernel) rfl ?_
                refine sr_iload (i := 4) (q := 123) C (show decode cX11_paste 121 = .ok (.iload 4, 2) from by decide +kernel) rfl rfl ?_
                refine sr_iload (i := 5) (q := 125) C (show decode cX11_paste 123 = .ok (.iload 5, 2) from by decide +kernel) rfl rfl ?_
                refine sr_copyl (st := []) (q := 128) C ml_X11_452 (kt hx107 kp_8_3) (kt hx117 kp_8_3) (by decide) (by decide) (show decode cX11_paste 125 = .ok (.invokestatic 452, 3) from by decide +kernel) rfl ?_
                refine sr_iconst (v := (0 : Int32)) (q := 129) C (show decode cX11_paste 128 = .ok (.iconst 0, 1) from by decide +kernel) (by decide) rfl ?_
                exact sr_ireturn C _ rfl (show decode cX11_paste 129 = .ok (.ireturn, 1) from by decide +kernel)
              · refine sr_bipush (v := (-7 : Int32)) (q := 101) C (show decode cX11_paste 99 = .ok (.bipush (-7), 2) from by decide +kernel) (by decide) rfl ?_
                exact sr_ireturn C _ rfl (show decode cX11_paste 101 = .ok (.ireturn, 1) from by decide +kernel)
          · refine sr_bipush (v := (-8 : Int32)) (q := 67) C (show decode cX11_paste 65 = .ok (.bipush (-8), 2) from by decide +kernel) (by decide) rfl ?_
            exact sr_ireturn C _ rfl (show decode cX11_paste 67 = .ok (.ireturn, 1) from by decide +kernel)
        · refine sr_bipush (v := (-6 : Int32)) (q := 43) C (show decode cX11_paste 41 = .ok (.bipush (-6), 2) from by decide +kernel) (by decide) rfl ?_
          exact sr_ireturn C _ rfl (show decode cX11_paste 43 = .ok (.ireturn, 1) from by decide +kernel)
    · refine sr_bipush (v := (-2 : Int32)) (q := 16) C (show decode cX11_paste 14 = .ok (.bipush (-2), 2) from by decide +kernel) (by decide) rfl ?_
      exact sr_ireturn C _ rfl (show decode cX11_paste 16 = .ok (.ireturn, 1) from by decide +kernel)
theorem cnX11_paste (ω : sm_O) (v0 : Nat) (v1 : Int32) (v2 : Int32) (v3 : Int32) (v4 : Int32) (v5 : Int32) (hv0 : kd v0 = 11) : sm_Mt 2 yX11_paste cX11_paste 6 (some .int) ω [.ref (ω.1 + v0), .int v1, .int v2, .int v3, .int v4, .int v5] (fun a => some (.int a)) (fnX11_paste v0 v1 v2 v3 v4 v5) := by
  refine sm_conI (r := fun a => a) (by decide) (fun _ => rfl) (Nat.le_of_ble_eq_true rfl) ?_
  intro κ hκ C
  subst hκ
  exact slX11_paste C v0 v1 v2 v3 v4 v5 hv0
def fnX11_path (v0 : Nat) (v1 : Int32) (v2 : Int32) (v3 : Int32) (v4 : Int32) : sm_M Int32 := m_bnd (fnX11_isStride v0 v1) fun x2 => m_br ((bI x2) = 0)
    (m_ret (-2 : Int32))
    (m_bnd (fnX11_isWeight v2) fun x9 => m_br ((bI x9) = 0)
    (m_ret (-2 : Int32))
    (m_bnd (fnX11_isWay v0 v3) fun x17 => m_br ((bI x17) = 0)
    (m_ret (-2 : Int32))
    (m_bnd (fnX10_seek (lk v0 9) (lk v0 6) v1 v2 v3 (98 : Int32)) fun x39 => m_br (v4 < 0)
    (m_ret (-1 : Int32))
    (m_br (x39 ≤ v4)
    (m_ret (-1 : Int32))
    (m_br ((24 : Int32) ≤ v4)
    (m_ret (-1 : Int32))
    (m_ai (lk (lk v0 9) 0) v4 fun x72 => m_ret x72))))))
set_option maxHeartbeats 4000000 in
set_option maxRecDepth 100000 in
theorem slX11_path {κ : sm_X} (C : sm_C κ RX11 cX11_path 6 5) (v0 : Nat) (v1 : Int32) (v2 : Int32) (v3 : Int32) (v4 : Int32) (hv0 : kd v0 = 11) : sm_S κ (fun r : Int32 => .inr (some (.int r))) (.inl (0, [some (xad κ v0), some (.int v1), some (.int v2), some (.int v3), some (.int v4), none], [])) (fnX11_path v0 v1 v2 v3 v4) := by
  unfold fnX11_path
  refine sr_aload_n (i := 0) (q := 1) C (show decode cX11_path 0 = .ok (.aload_n 0, 1) from by decide +kernel) rfl rfl rfl ?_
  refine sr_iload_n (i := 1) (q := 2) C (show decode cX11_path 1 = .ok (.iload_n 1, 1) from by decide +kernel) rfl rfl rfl ?_
  refine sr_cVz (As := [.int v1]) (st := []) (b := v0) (q := 5) C yvX11_isStride ml_X11_187 (cnX11_isStride (xo κ) v0 v1 hv0) hv0 (by decide) rfl rfl rfl (by decide) (by decide) (Nat.le_of_ble_eq_true rfl) rfl (show decode cX11_path 2 = .ok (.invokevirtual 187, 3) from by decide +kernel) rfl (fun x2 => ?_)
  refine sr_if_eq (q := 8) C 23 (show decode cX11_path 5 = .ok (.ifCond .eq 18, 3) from by decide +kernel) (by decide) rfl ?_ ?_
  · refine sr_bipush (v := (-2 : Int32)) (q := 25) C (show decode cX11_path 23 = .ok (.bipush (-2), 2) from by decide +kernel) (by decide) rfl ?_
    exact sr_ireturn C _ rfl (show decode cX11_path 25 = .ok (.ireturn, 1) from by decide +kernel)
  · refine sr_iload_n (i := 2) (q := 9) C (show decode cX11_path 8 = .ok (.iload_n 2, 1) from by decide +kernel) rfl rfl rfl ?_
    refine sr_cSz (As := [.int v2]) (st := []) (q := 12) C ysX11_isWeight ml_X11_211 (cnX11_isWeight (xo κ) v2) rfl (by decide) (by decide) (Nat.le_of_ble_eq_true rfl) rfl (show decode cX11_path 9 = .ok (.invokestatic 211, 3) from by decide +kernel) rfl (fun x9 => ?_)
    refine sr_if_eq (q := 15) C 23 (show decode cX11_path 12 = .ok (.ifCond .eq 11, 3) from by decide +kernel) (by decide) rfl ?_ ?_
    · refine sr_bipush (v := (-2 : Int32)) (q := 25) C (show decode cX11_path 23 = .ok (.bipush (-2), 2) from by decide +kernel) (by decide) rfl ?_
      exact sr_ireturn C _ rfl (show decode cX11_path 25 = .ok (.ireturn, 1) from by decide +kernel)
    · refine sr_aload_n (i := 0) (q := 16) C (show decode cX11_path 15 = .ok (.aload_n 0, 1) from by decide +kernel) rfl rfl rfl ?_
      refine sr_iload_n (i := 3) (q := 17) C (show decode cX11_path 16 = .ok (.iload_n 3, 1) from by decide +kernel) rfl rfl rfl ?_
      refine sr_cVz (As := [.int v3]) (st := []) (b := v0) (q := 20) C yvX11_isWay ml_X11_214 (cnX11_isWay (xo κ) v0 v3 hv0) hv0 (by decide) rfl rfl rfl (by decide) (by decide) (Nat.le_of_ble_eq_true rfl) rfl (show decode cX11_path 17 = .ok (.invokevirtual 214, 3) from by decide +kernel) rfl (fun x17 => ?_)
      refine sr_if_ne (q := 23) C 26 (show decode cX11_path 20 = .ok (.ifCond .ne 6, 3) from by decide +kernel) (by decide) rfl ?_ ?_
      · refine sr_aload_n (i := 0) (q := 27) C (show decode cX11_path 26 = .ok (.aload_n 0, 1) from by decide +kernel) rfl rfl rfl ?_
        refine sr_getr (q := 30) C fl_X11_55 hv0 (show decode cX11_path 27 = .ok (.getfield 55, 3) from by decide +kernel) rfl ?_
        refine sr_aload_n (i := 0) (q := 31) C (show decode cX11_path 30 = .ok (.aload_n 0, 1) from by decide +kernel) rfl rfl rfl ?_
        refine sr_getr (q := 34) C fl_X11_36 hv0 (show decode cX11_path 31 = .ok (.getfield 36, 3) from by decide +kernel) rfl ?_
        refine sr_iload_n (i := 1) (q := 35) C (show decode cX11_path 34 = .ok (.iload_n 1, 1) from by decide +kernel) rfl rfl rfl ?_
        refine sr_iload_n (i := 2) (q := 36) C (show decode cX11_path 35 = .ok (.iload_n 2, 1) from by decide +kernel) rfl rfl rfl ?_
        refine sr_iload_n (i := 3) (q := 37) C (show decode cX11_path 36 = .ok (.iload_n 3, 1) from by decide +kernel) rfl rfl rfl ?_
        refine sr_bipush (v := (98 : Int32)) (q := 39) C (show decode cX11_path 37 = .ok (.bipush 98, 2) from by decide +kernel) (by decide) rfl ?_
        refine sr_cVi (As := [xad κ (lk v0 6), .int v1, .int v2, .int v3, .int (98 : Int32)]) (st := []) (b := lk v0 9) (q := 42) C yvX10_seek ml_X11_217 (cnX10_seek (xo κ) (lk v0 9) (lk v0 6) v1 v2 v3 (98 : Int32) (kt hv0 kp_11_9) (kt hv0 kp_11_6)) (kt hv0 kp_11_9) (by decide) rfl rfl rfl (by decide) (by decide) (Nat.le_of_ble_eq_true rfl) rfl (show decode cX11_path 39 = .ok (.invokevirtual 217, 3) from by decide +kernel) rfl (fun x39 => ?_)
        refine sr_istore (i := 5) (L' := [some (xad κ v0), some (.int v1), some (.int v2), some (.int v3), some (.int v4), some (.int x39)]) (q := 44) C (show decode cX11_path 42 = .ok (.istore 5, 2) from by decide +kernel) (by decide) rfl rfl ?_
        refine sr_iload (i := 4) (q := 46) C (show decode cX11_path 44 = .ok (.iload 4, 2) from by decide +kernel) rfl rfl ?_
        refine sr_if_lt (q := 49) C 76 (show decode cX11_path 46 = .ok (.ifCond .lt 30, 3) from by decide +kernel) (by decide) rfl ?_ ?_
        · refine sr_iconst (v := (-1 : Int32)) (q := 77) C (show decode cX11_path 76 = .ok (.iconst (-1), 1) from by decide +kernel) (by decide) rfl ?_
          exact sr_ireturn C _ rfl (show decode cX11_path 77 = .ok (.ireturn, 1) from by decide +kernel)
        · refine sr_iload (i := 4) (q := 51) C (show decode cX11_path 49 = .ok (.iload 4, 2) from by decide +kernel) rfl rfl ?_
          refine sr_iload (i := 5) (q := 53) C (show decode cX11_path 51 = .ok (.iload 5, 2) from by decide +kernel) rfl rfl ?_
          refine sr_icmp_ge (q := 56) C 76 (show decode cX11_path 53 = .ok (.if_icmp .ge 23, 3) from by decide +kernel) (by decide) rfl ?_ ?_
          · refine sr_iconst (v := (-1 : Int32)) (q := 77) C (show decode cX11_path 76 = .ok (.iconst (-1), 1) from by decide +kernel) (by decide) rfl ?_
            exact sr_ireturn C _ rfl (show decode cX11_path 77 = .ok (.ireturn, 1) from by decide +kernel)
          · refine sr_iload (i := 4) (q := 58) C (show decode cX11_path 56 = .ok (.iload 4, 2) from by decide +kernel) rfl rfl ?_
            refine sr_bipush (v := (24 : Int32)) (q := 60) C (show decode cX11_path 58 = .ok (.bipush 24, 2) from by decide +kernel) (by decide) rfl ?_
            refine sr_icmp_ge (q := 63) C 76 (show decode cX11_path 60 = .ok (.if_icmp .ge 16, 3) from by decide +kernel) (by decide) rfl ?_ ?_
            · refine sr_iconst (v := (-1 : Int32)) (q := 77) C (show decode cX11_path 76 = .ok (.iconst (-1), 1) from by decide +kernel) (by decide) rfl ?_
              exact sr_ireturn C _ rfl (show decode cX11_path 77 = .ok (.ireturn, 1) from by decide +kernel)
            · refine sr_aload_n (i := 0) (q := 64) C (show decode cX11_path 63 = .ok (.aload_n 0, 1) from by decide +kernel) rfl rfl rfl ?_
              refine sr_getr (q := 67) C fl_X11_55 hv0 (show decode cX11_path 64 = .ok (.getfield 55, 3) from by decide +kernel) rfl ?_
              refine sr_getr (q := 70) C fl_X11_221 (kt hv0 kp_11_9) (show decode cX11_path 67 = .ok (.getfield 221, 3) from by decide +kernel) rfl ?_
              refine sr_iload (i := 4) (q := 72) C (show decode cX11_path 70 = .ok (.iload 4, 2) from by decide +kernel) rfl rfl ?_
              refine sr_iaload (q := 73) C (kt (kt hv0 kp_11_9) kp_10_0) (show decode cX11_path 72 = .ok (.iaload, 1) from by decide +kernel) rfl (fun x72 => ?_)
              refine sr_goto (q := 77) C (show decode cX11_path 73 = .ok (.goto 4, 3) from by decide +kernel) (by decide) ?_
              exact sr_ireturn C _ rfl (show decode cX11_path 77 = .ok (.ireturn, 1) from by decide +kernel)
      · refine sr_bipush (v := (-2 : Int32)) (q := 25) C (show decode cX11_path 23 = .ok (.bipush (-2), 2) from by decide +kernel) (by decide) rfl ?_
        exact sr_ireturn C _ rfl (show decode cX11_path 25 = .ok (.ireturn, 1) from by decide +kernel)
theorem cnX11_path (ω : sm_O) (v0 : Nat) (v1 : Int32) (v2 : Int32) (v3 : Int32) (v4 : Int32) (hv0 : kd v0 = 11) : sm_Mt 5 yX11_path cX11_path 6 (some .int) ω [.ref (ω.1 + v0), .int v1, .int v2, .int v3, .int v4] (fun a => some (.int a)) (fnX11_path v0 v1 v2 v3 v4) := by
  refine sm_conI (r := fun a => a) (by decide) (fun _ => rfl) (Nat.le_of_ble_eq_true rfl) ?_
  intro κ hκ C
  subst hκ
  exact slX11_path C v0 v1 v2 v3 v4 hv0
def fnX9_drawn_J77 (k9 : Nat → Int64 → Int32 → Int32 → sm_M Int32) (v0 : Nat) (v2 : Int64) (v4 : Int32) (v5 : Int32) : sm_M Int32 := k9 v0 v2 v4 (v5 + (1 : Int32))
set_option maxHeartbeats 4000000 in
set_option maxRecDepth 100000 in
theorem slX9_drawn_J77 {κ : sm_X} (C : sm_C κ RX9 cX9_drawn 6 2) {k9 : Nat → Int64 → Int32 → Int32 → sm_M Int32} (K9 : ∀ (v0 : Nat) (v2 : Int64) (v4 : Int32) (v5 : Int32) (hv0 : kd v0 = 9), sm_S κ (fun r : Int32 => .inr (some (.int r))) (.inl (9, [some (xad κ v0), none, some (.long v2), none, some (.int v4), some (.int v5)], [])) (k9 v0 v2 v4 v5)) (v0 : Nat) (v2 : Int64) (v4 : Int32) (v5 : Int32) (hv0 : kd v0 = 9) : sm_S κ (fun r : Int32 => .inr (some (.int r))) (.inl (77, [some (xad κ v0), none, some (.long v2), none, some (.int v4), some (.int v5)], [])) (fnX9_drawn_J77 k9 v0 v2 v4 v5) := by
  unfold fnX9_drawn_J77
  refine sr_iinc (v := v5 + (1 : Int32)) (L' := [some (xad κ v0), none, some (.long v2), none, some (.int v4), some (.int (v5 + (1 : Int32)))]) (q := 80) C (show decode cX9_drawn 77 = .ok (.iinc 5 1, 3) from by decide +kernel) rfl rfl (by decide) rfl rfl ?_
  refine sr_goto (q := 9) C (show decode cX9_drawn 80 = .ok (.goto (-71), 3) from by decide +kernel) (by decide) ?_
  exact K9 v0 v2 v4 (v5 + (1 : Int32)) hv0
def fnX9_drawn_L9 : Nat → Nat → Int64 → Int32 → Int32 → sm_M Int32
  | 0, _, _, _, _ => m_fail
  | n + 1, v0, v2, v4, v5 => m_gi (lk v0 0) 4 fun x15 => m_br (x15 ≤ v5)
    (m_ret v4)
    (m_bnd (fnX9_inDoubt v0 v5) fun x24 => m_br ((bI x24) = 0)
    (fnX9_drawn_J77 (fnX9_drawn_L9 n) v0 v2 v4 v5)
    (m_gd (¬ (2147483648 : Int64) = 0) <| m_nm ((((1103515245 : Int64) * v2) + (12345 : Int64)) - (((1103515245 : Int64) * v2) + (12345 : Int64)) / (2147483648 : Int64) * (2147483648 : Int64)) fun y43 => m_gd (¬ (65536 : Int64) = 0) <| m_gd (¬ (100 : Int64) = 0) <| m_ai (lk (lk v0 0) 12) v5 fun x62 => m_br (0 ≤ (lg_cmp ((y43 / (65536 : Int64)) - (y43 / (65536 : Int64)) / (100 : Int64) * (100 : Int64)) x62.toInt64))
    (fnX9_drawn_J77 (fnX9_drawn_L9 n) v0 y43 v4 v5)
    (m_nm (v4 ||| ((1 : Int32) <<< (v5 &&& 31))) fun y75 => fnX9_drawn_J77 (fnX9_drawn_L9 n) v0 y43 y75 v5)))
set_option maxHeartbeats 4000000 in
set_option maxRecDepth 100000 in
theorem slX9_drawn_L9 {κ : sm_X} (C : sm_C κ RX9 cX9_drawn 6 2) : ∀ (n : Nat) (v0 : Nat) (v2 : Int64) (v4 : Int32) (v5 : Int32) (hv0 : kd v0 = 9), sm_S κ (fun r : Int32 => .inr (some (.int r))) (.inl (9, [some (xad κ v0), none, some (.long v2), none, some (.int v4), some (.int v5)], [])) (fnX9_drawn_L9 n v0 v2 v4 v5) := by
  intro n
  induction n with
  | zero =>
    intros
    exact sr_fail
  | succ n K9 =>
    intro v0 v2 v4 v5 hv0
    unfold fnX9_drawn_L9
    refine sr_iload (i := 5) (q := 11) C (show decode cX9_drawn 9 = .ok (.iload 5, 2) from by decide +kernel) rfl rfl ?_
    refine sr_aload_n (i := 0) (q := 12) C (show decode cX9_drawn 11 = .ok (.aload_n 0, 1) from by decide +kernel) rfl rfl rfl ?_
    refine sr_getr (q := 15) C fl_X9_21 hv0 (show decode cX9_drawn 12 = .ok (.getfield 21, 3) from by decide +kernel) rfl ?_
    refine sr_geti (q := 18) C fl_X9_49 (Or.inl rfl) (kt hv0 kp_9_0) (show decode cX9_drawn 15 = .ok (.getfield 49, 3) from by decide +kernel) rfl (fun x15 => ?_)
    refine sr_icmp_ge (q := 21) C 83 (show decode cX9_drawn 18 = .ok (.if_icmp .ge 65, 3) from by decide +kernel) (by decide) rfl ?_ ?_
    · refine sr_iload (i := 4) (q := 85) C (show decode cX9_drawn 83 = .ok (.iload 4, 2) from by decide +kernel) rfl rfl ?_
      exact sr_ireturn C _ rfl (show decode cX9_drawn 85 = .ok (.ireturn, 1) from by decide +kernel)
    · refine sr_aload_n (i := 0) (q := 22) C (show decode cX9_drawn 21 = .ok (.aload_n 0, 1) from by decide +kernel) rfl rfl rfl ?_
      refine sr_iload (i := 5) (q := 24) C (show decode cX9_drawn 22 = .ok (.iload 5, 2) from by decide +kernel) rfl rfl ?_
      refine sr_cVz (As := [.int v5]) (st := []) (b := v0) (q := 27) C yvX9_inDoubt ml_X9_59 (cnX9_inDoubt (xo κ) v0 v5 hv0) hv0 (by decide) rfl rfl rfl (by decide) (by decide) (Nat.le_of_ble_eq_true rfl) rfl (show decode cX9_drawn 24 = .ok (.invokevirtual 59, 3) from by decide +kernel) rfl (fun x24 => ?_)
      refine sr_if_eq (q := 30) C 77 (show decode cX9_drawn 27 = .ok (.ifCond .eq 50, 3) from by decide +kernel) (by decide) rfl ?_ ?_
      · exact slX9_drawn_J77 C K9 v0 v2 v4 v5 hv0
      · refine sr_ldc2 (q := 33) C co_X9_63 (show decode cX9_drawn 30 = .ok (.ldc2_w 63, 3) from by decide +kernel) rfl ?_
        refine sr_lload_n (i := 2) (q := 34) C (show decode cX9_drawn 33 = .ok (.lload_n 2, 1) from by decide +kernel) rfl rfl rfl ?_
        refine sr_lmul (q := 35) C (show decode cX9_drawn 34 = .ok (.lmul, 1) from by decide +kernel) rfl ?_
        refine sr_ldc2 (q := 38) C co_X9_65 (show decode cX9_drawn 35 = .ok (.ldc2_w 65, 3) from by decide +kernel) rfl ?_
        refine sr_ladd (q := 39) C (show decode cX9_drawn 38 = .ok (.ladd, 1) from by decide +kernel) rfl ?_
        refine sr_ldc2 (q := 42) C co_X9_67 (show decode cX9_drawn 39 = .ok (.ldc2_w 67, 3) from by decide +kernel) rfl ?_
        refine sr_lrem (q := 43) C (show decode cX9_drawn 42 = .ok (.lrem, 1) from by decide +kernel) rfl ?_
        refine sr_nml (fun y43 => ?_)
        refine sr_lstore_n (i := 2) (L' := [some (xad κ v0), none, some (.long y43), none, some (.int v4), some (.int v5)]) (q := 44) C (show decode cX9_drawn 43 = .ok (.lstore_n 2, 1) from by decide +kernel) rfl (by decide) rfl rfl ?_
        refine sr_lload_n (i := 2) (q := 45) C (show decode cX9_drawn 44 = .ok (.lload_n 2, 1) from by decide +kernel) rfl rfl rfl ?_
        refine sr_ldc2 (q := 48) C co_X9_69 (show decode cX9_drawn 45 = .ok (.ldc2_w 69, 3) from by decide +kernel) rfl ?_
        refine sr_ldiv (q := 49) C (show decode cX9_drawn 48 = .ok (.ldiv, 1) from by decide +kernel) rfl ?_
        refine sr_ldc2 (q := 52) C co_X9_71 (show decode cX9_drawn 49 = .ok (.ldc2_w 71, 3) from by decide +kernel) rfl ?_
        refine sr_lrem (q := 53) C (show decode cX9_drawn 52 = .ok (.lrem, 1) from by decide +kernel) rfl ?_
        refine sr_aload_n (i := 0) (q := 54) C (show decode cX9_drawn 53 = .ok (.aload_n 0, 1) from by decide +kernel) rfl rfl rfl ?_
        refine sr_getr (q := 57) C fl_X9_21 hv0 (show decode cX9_drawn 54 = .ok (.getfield 21, 3) from by decide +kernel) rfl ?_
        refine sr_getr (q := 60) C fl_X9_56 (kt hv0 kp_9_0) (show decode cX9_drawn 57 = .ok (.getfield 56, 3) from by decide +kernel) rfl ?_
        refine sr_iload (i := 5) (q := 62) C (show decode cX9_drawn 60 = .ok (.iload 5, 2) from by decide +kernel) rfl rfl ?_
        refine sr_iaload (q := 63) C (kt (kt hv0 kp_9_0) kp_7_12) (show decode cX9_drawn 62 = .ok (.iaload, 1) from by decide +kernel) rfl (fun x62 => ?_)
        refine sr_i2l (q := 64) C (show decode cX9_drawn 63 = .ok (.i2l, 1) from by decide +kernel) rfl ?_
        refine sr_lcmp (q := 65) C (show decode cX9_drawn 64 = .ok (.lcmp, 1) from by decide +kernel) rfl ?_
        refine sr_if_ge (q := 68) C 77 (show decode cX9_drawn 65 = .ok (.ifCond .ge 12, 3) from by decide +kernel) (by decide) rfl ?_ ?_
        · exact slX9_drawn_J77 C K9 v0 y43 v4 v5 hv0
        · refine sr_iload (i := 4) (q := 70) C (show decode cX9_drawn 68 = .ok (.iload 4, 2) from by decide +kernel) rfl rfl ?_
          refine sr_iconst (v := (1 : Int32)) (q := 71) C (show decode cX9_drawn 70 = .ok (.iconst 1, 1) from by decide +kernel) (by decide) rfl ?_
          refine sr_iload (i := 5) (q := 73) C (show decode cX9_drawn 71 = .ok (.iload 5, 2) from by decide +kernel) rfl rfl ?_
          refine sr_ishl (q := 74) C (show decode cX9_drawn 73 = .ok (.ishl, 1) from by decide +kernel) rfl ?_
          refine sr_ior (q := 75) C (show decode cX9_drawn 74 = .ok (.ior, 1) from by decide +kernel) rfl ?_
          refine sr_nmi (fun y75 => ?_)
          refine sr_istore (i := 4) (L' := [some (xad κ v0), none, some (.long y43), none, some (.int y75), some (.int v5)]) (q := 77) C (show decode cX9_drawn 75 = .ok (.istore 4, 2) from by decide +kernel) (by decide) rfl rfl ?_
          exact slX9_drawn_J77 C K9 v0 y43 y75 v5 hv0
def fnX9_drawn (v0 : Nat) (v1 : Int32) : sm_M Int32 := fnX9_drawn_L9 4096 v0 v1.toInt64 (0 : Int32) (0 : Int32)
set_option maxHeartbeats 4000000 in
set_option maxRecDepth 100000 in
theorem slX9_drawn {κ : sm_X} (C : sm_C κ RX9 cX9_drawn 6 2) (v0 : Nat) (v1 : Int32) (hv0 : kd v0 = 9) : sm_S κ (fun r : Int32 => .inr (some (.int r))) (.inl (0, [some (xad κ v0), some (.int v1), none, none, none, none], [])) (fnX9_drawn v0 v1) := by
  unfold fnX9_drawn
  refine sr_iload_n (i := 1) (q := 1) C (show decode cX9_drawn 0 = .ok (.iload_n 1, 1) from by decide +kernel) rfl rfl rfl ?_
  refine sr_i2l (q := 2) C (show decode cX9_drawn 1 = .ok (.i2l, 1) from by decide +kernel) rfl ?_
  refine sr_lstore_n (i := 2) (L' := [some (xad κ v0), some (.int v1), some (.long v1.toInt64), none, none, none]) (q := 3) C (show decode cX9_drawn 2 = .ok (.lstore_n 2, 1) from by decide +kernel) rfl (by decide) rfl rfl ?_
  refine sr_iconst (v := (0 : Int32)) (q := 4) C (show decode cX9_drawn 3 = .ok (.iconst 0, 1) from by decide +kernel) (by decide) rfl ?_
  refine sr_istore (i := 4) (L' := [some (xad κ v0), some (.int v1), some (.long v1.toInt64), none, some (.int (0 : Int32)), none]) (q := 6) C (show decode cX9_drawn 4 = .ok (.istore 4, 2) from by decide +kernel) (by decide) rfl rfl ?_
  refine sr_iconst (v := (0 : Int32)) (q := 7) C (show decode cX9_drawn 6 = .ok (.iconst 0, 1) from by decide +kernel) (by decide) rfl ?_
  refine sr_istore (i := 5) (L' := [some (xad κ v0), some (.int v1), some (.long v1.toInt64), none, some (.int (0 : Int32)), some (.int (0 : Int32))]) (q := 9) C (show decode cX9_drawn 7 = .ok (.istore 5, 2) from by decide +kernel) (by decide) rfl rfl ?_
  refine sr_weak (L' := [some (xad κ v0), none, some (.long v1.toInt64), none, some (.int (0 : Int32)), some (.int (0 : Int32))]) ⟨rfl, rfl, rfl, rfl, trivial⟩ ?_
  exact slX9_drawn_L9 C 4096 v0 v1.toInt64 (0 : Int32) (0 : Int32) hv0
theorem cnX9_drawn (ω : sm_O) (v0 : Nat) (v1 : Int32) (hv0 : kd v0 = 9) : sm_Mt 2 yX9_drawn cX9_drawn 6 (some .int) ω [.ref (ω.1 + v0), .int v1] (fun a => some (.int a)) (fnX9_drawn v0 v1) := by
  refine sm_conI (r := fun a => a) (by decide) (fun _ => rfl) (Nat.le_of_ble_eq_true rfl) ?_
  intro κ hκ C
  subst hκ
  exact slX9_drawn C v0 v1 hv0
def fnX11_peopleOnDay (v0 : Nat) (v1 : Int32) (v2 : Int32) : sm_M Int32 := m_bnd (fnX9_takeFrom (lk v0 7) (lk v0 6)) fun _ => m_bnd (fnX9_drawn (lk v0 6) v1) fun x25 => m_bnd (fnX0_wadeOver (lk v0 10) (lk v0 7) v2 x25) fun x28 => m_bnd (fnJ6_bitCount_0f7a4 x28) fun x31 => m_ret x31
set_option maxHeartbeats 4000000 in
set_option maxRecDepth 100000 in
theorem slX11_peopleOnDay {κ : sm_X} (C : sm_C κ RX11 cX11_peopleOnDay 3 7) (v0 : Nat) (v1 : Int32) (v2 : Int32) (hv0 : kd v0 = 11) : sm_S κ (fun r : Int32 => .inr (some (.int r))) (.inl (0, [some (xad κ v0), some (.int v1), some (.int v2)], [])) (fnX11_peopleOnDay v0 v1 v2) := by
  unfold fnX11_peopleOnDay
  refine sr_aload_n (i := 0) (q := 1) C (show decode cX11_peopleOnDay 0 = .ok (.aload_n 0, 1) from by decide +kernel) rfl rfl rfl ?_
  refine sr_getr (q := 4) C fl_X11_40 hv0 (show decode cX11_peopleOnDay 1 = .ok (.getfield 40, 3) from by decide +kernel) rfl ?_
  refine sr_aload_n (i := 0) (q := 5) C (show decode cX11_peopleOnDay 4 = .ok (.aload_n 0, 1) from by decide +kernel) rfl rfl rfl ?_
  refine sr_getr (q := 8) C fl_X11_36 hv0 (show decode cX11_peopleOnDay 5 = .ok (.getfield 36, 3) from by decide +kernel) rfl ?_
  refine sr_cVv (As := [xad κ (lk v0 6)]) (st := []) (b := lk v0 7) (q := 11) C yvX9_takeFrom ml_X11_239 (cnX9_takeFrom (xo κ) (lk v0 7) (lk v0 6) (kt hv0 kp_11_7) (kt hv0 kp_11_6)) (kt hv0 kp_11_7) (by decide) rfl rfl rfl (by decide) (by decide) (Nat.le_of_ble_eq_true rfl) rfl (show decode cX11_peopleOnDay 8 = .ok (.invokevirtual 239, 3) from by decide +kernel) rfl (fun _ => ?_)
  refine sr_aload_n (i := 0) (q := 12) C (show decode cX11_peopleOnDay 11 = .ok (.aload_n 0, 1) from by decide +kernel) rfl rfl rfl ?_
  refine sr_getr (q := 15) C fl_X11_64 hv0 (show decode cX11_peopleOnDay 12 = .ok (.getfield 64, 3) from by decide +kernel) rfl ?_
  refine sr_aload_n (i := 0) (q := 16) C (show decode cX11_peopleOnDay 15 = .ok (.aload_n 0, 1) from by decide +kernel) rfl rfl rfl ?_
  refine sr_getr (q := 19) C fl_X11_40 hv0 (show decode cX11_peopleOnDay 16 = .ok (.getfield 40, 3) from by decide +kernel) rfl ?_
  refine sr_iload_n (i := 2) (q := 20) C (show decode cX11_peopleOnDay 19 = .ok (.iload_n 2, 1) from by decide +kernel) rfl rfl rfl ?_
  refine sr_aload_n (i := 0) (q := 21) C (show decode cX11_peopleOnDay 20 = .ok (.aload_n 0, 1) from by decide +kernel) rfl rfl rfl ?_
  refine sr_getr (q := 24) C fl_X11_36 hv0 (show decode cX11_peopleOnDay 21 = .ok (.getfield 36, 3) from by decide +kernel) rfl ?_
  refine sr_iload_n (i := 1) (q := 25) C (show decode cX11_peopleOnDay 24 = .ok (.iload_n 1, 1) from by decide +kernel) rfl rfl rfl ?_
  refine sr_cVi (As := [.int v1]) (st := [.int v2, xad κ (lk v0 7), xad κ (lk v0 10)]) (b := lk v0 6) (q := 28) C yvX9_drawn ml_X11_425 (cnX9_drawn (xo κ) (lk v0 6) v1 (kt hv0 kp_11_6)) (kt hv0 kp_11_6) (by decide) rfl rfl rfl (by decide) (by decide) (Nat.le_of_ble_eq_true rfl) rfl (show decode cX11_peopleOnDay 25 = .ok (.invokevirtual 425, 3) from by decide +kernel) rfl (fun x25 => ?_)
  refine sr_cVi (As := [xad κ (lk v0 7), .int v2, .int x25]) (st := []) (b := lk v0 10) (q := 31) C yvX0_wadeOver ml_X11_428 (cnX0_wadeOver (xo κ) (lk v0 10) (lk v0 7) v2 x25 (kt hv0 kp_11_10) (kt hv0 kp_11_7)) (kt hv0 kp_11_10) (by decide) rfl rfl rfl (by decide) (by decide) (Nat.le_of_ble_eq_true rfl) rfl (show decode cX11_peopleOnDay 28 = .ok (.invokevirtual 428, 3) from by decide +kernel) rfl (fun x28 => ?_)
  refine sr_cSi (As := [.int x28]) (st := []) (q := 34) C ysJ6_bitCount_0f7a4 ml_X11_268 (cnJ6_bitCount_0f7a4 (xo κ) x28) rfl (by decide) (by decide) (Nat.le_of_ble_eq_true rfl) rfl (show decode cX11_peopleOnDay 31 = .ok (.invokestatic 268, 3) from by decide +kernel) rfl (fun x31 => ?_)
  exact sr_ireturn C _ rfl (show decode cX11_peopleOnDay 34 = .ok (.ireturn, 1) from by decide +kernel)
theorem cnX11_peopleOnDay (ω : sm_O) (v0 : Nat) (v1 : Int32) (v2 : Int32) (hv0 : kd v0 = 11) : sm_Mt 7 yX11_peopleOnDay cX11_peopleOnDay 3 (some .int) ω [.ref (ω.1 + v0), .int v1, .int v2] (fun a => some (.int a)) (fnX11_peopleOnDay v0 v1 v2) := by
  refine sm_conI (r := fun a => a) (by decide) (fun _ => rfl) (Nat.le_of_ble_eq_true rfl) ?_
  intro κ hκ C
  subst hκ
  exact slX11_peopleOnDay C v0 v1 v2 hv0
def fnX7_unitOf (v0 : Nat) (v1 : Int32) : sm_M Int32 := m_ai (lk v0 16) v1 fun x5 => m_br (x5 = (-1 : Int32))
    (m_ret v1)
    (m_ai (lk v0 16) v1 fun x20 => m_ret (jmin v1 x20))
set_option maxHeartbeats 4000000 in
set_option maxRecDepth 100000 in
theorem slX7_unitOf {κ : sm_X} (C : sm_C κ RX7 cX7_unitOf 2 1) (v0 : Nat) (v1 : Int32) (hv0 : kd v0 = 7) : sm_S κ (fun r : Int32 => .inr (some (.int r))) (.inl (0, [some (xad κ v0), some (.int v1)], [])) (fnX7_unitOf v0 v1) := by
  unfold fnX7_unitOf
  refine sr_aload_n (i := 0) (q := 1) C (show decode cX7_unitOf 0 = .ok (.aload_n 0, 1) from by decide +kernel) rfl rfl rfl ?_
  refine sr_getr (q := 4) C fl_X7_36 hv0 (show decode cX7_unitOf 1 = .ok (.getfield 36, 3) from by decide +kernel) rfl ?_
  refine sr_iload_n (i := 1) (q := 5) C (show decode cX7_unitOf 4 = .ok (.iload_n 1, 1) from by decide +kernel) rfl rfl rfl ?_
  refine sr_iaload (q := 6) C (kt hv0 kp_7_16) (show decode cX7_unitOf 5 = .ok (.iaload, 1) from by decide +kernel) rfl (fun x5 => ?_)
  refine sr_iconst (v := (-1 : Int32)) (q := 7) C (show decode cX7_unitOf 6 = .ok (.iconst (-1), 1) from by decide +kernel) (by decide) rfl ?_
  refine sr_icmp_ne (q := 10) C 14 (show decode cX7_unitOf 7 = .ok (.if_icmp .ne 7, 3) from by decide +kernel) (by decide) rfl ?_ ?_
  · refine sr_iload_n (i := 1) (q := 15) C (show decode cX7_unitOf 14 = .ok (.iload_n 1, 1) from by decide +kernel) rfl rfl rfl ?_
    refine sr_aload_n (i := 0) (q := 16) C (show decode cX7_unitOf 15 = .ok (.aload_n 0, 1) from by decide +kernel) rfl rfl rfl ?_
    refine sr_getr (q := 19) C fl_X7_36 hv0 (show decode cX7_unitOf 16 = .ok (.getfield 36, 3) from by decide +kernel) rfl ?_
    refine sr_iload_n (i := 1) (q := 20) C (show decode cX7_unitOf 19 = .ok (.iload_n 1, 1) from by decide +kernel) rfl rfl rfl ?_
    refine sr_iaload (q := 21) C (kt hv0 kp_7_16) (show decode cX7_unitOf 20 = .ok (.iaload, 1) from by decide +kernel) rfl (fun x20 => ?_)
    refine sr_jmin (st := []) (q := 24) C ml_X7_78 (by decide) (Nat.le_of_ble_eq_true rfl) (show decode cX7_unitOf 21 = .ok (.invokestatic 78, 3) from by decide +kernel) rfl ?_
    exact sr_ireturn C _ rfl (show decode cX7_unitOf 24 = .ok (.ireturn, 1) from by decide +kernel)
  · refine sr_iload_n (i := 1) (q := 11) C (show decode cX7_unitOf 10 = .ok (.iload_n 1, 1) from by decide +kernel) rfl rfl rfl ?_
    refine sr_goto (q := 24) C (show decode cX7_unitOf 11 = .ok (.goto 13, 3) from by decide +kernel) (by decide) ?_
    exact sr_ireturn C _ rfl (show decode cX7_unitOf 24 = .ok (.ireturn, 1) from by decide +kernel)
theorem cnX7_unitOf (ω : sm_O) (v0 : Nat) (v1 : Int32) (hv0 : kd v0 = 7) : sm_Mt 1 yX7_unitOf cX7_unitOf 2 (some .int) ω [.ref (ω.1 + v0), .int v1] (fun a => some (.int a)) (fnX7_unitOf v0 v1) := by
  refine sm_conI (r := fun a => a) (by decide) (fun _ => rfl) (Nat.le_of_ble_eq_true rfl) ?_
  intro κ hκ C
  subst hκ
  exact slX7_unitOf C v0 v1 hv0
def fnX11_person (v0 : Nat) (v1 : Int32) (v2 : Int32) : sm_M Int32 := m_bnd (fnX11_isPerson v0 v1) fun x2 => m_br ((bI x2) = 0)
    (m_ret (-2 : Int32))
    (m_br (v2 = (0 : Int32))
    (m_ai (lk (lk v0 6) 4) v1 fun x48 => m_ret x48)
    (m_br (v2 = (1 : Int32))
    (m_ai (lk (lk v0 5) 16) v1 fun x58 => m_ret x58)
    (m_br (v2 = (2 : Int32))
    (m_bnd (fnX7_unitOf (lk v0 5) v1) fun x65 => m_ret x65)
    (m_ret (-2 : Int32)))))
set_option maxHeartbeats 4000000 in
set_option maxRecDepth 100000 in
theorem slX11_person {κ : sm_X} (C : sm_C κ RX11 cX11_person 3 2) (v0 : Nat) (v1 : Int32) (v2 : Int32) (hv0 : kd v0 = 11) : sm_S κ (fun r : Int32 => .inr (some (.int r))) (.inl (0, [some (xad κ v0), some (.int v1), some (.int v2)], [])) (fnX11_person v0 v1 v2) := by
  unfold fnX11_person
  refine sr_aload_n (i := 0) (q := 1) C (show decode cX11_person 0 = .ok (.aload_n 0, 1) from by decide +kernel) rfl rfl rfl ?_
  refine sr_iload_n (i := 1) (q := 2) C (show decode cX11_person 1 = .ok (.iload_n 1, 1) from by decide +kernel) rfl rfl rfl ?_
  refine sr_cVz (As := [.int v1]) (st := []) (b := v0) (q := 5) C yvX11_isPerson ml_X11_173 (cnX11_isPerson (xo κ) v0 v1 hv0) hv0 (by decide) rfl rfl rfl (by decide) (by decide) (Nat.le_of_ble_eq_true rfl) rfl (show decode cX11_person 2 = .ok (.invokevirtual 173, 3) from by decide +kernel) rfl (fun x2 => ?_)
  refine sr_if_ne (q := 8) C 11 (show decode cX11_person 5 = .ok (.ifCond .ne 6, 3) from by decide +kernel) (by decide) rfl ?_ ?_
  · refine sr_iload_n (i := 2) (q := 12) C (show decode cX11_person 11 = .ok (.iload_n 2, 1) from by decide +kernel) rfl rfl rfl ?_
    refine sr_case (fun hw0 => ?_) (fun hw0 => ?_)
    · refine sr_tabIn (q := 40) C hw0 (show decode cX11_person 12 = .ok (.tableswitch 57 0 2 #[28, 38, 48], 28) from by decide +kernel) (by decide) (by decide) rfl (by decide) ?_
      refine sr_aload_n (i := 0) (q := 41) C (show decode cX11_person 40 = .ok (.aload_n 0, 1) from by decide +kernel) rfl rfl rfl ?_
      refine sr_getr (q := 44) C fl_X11_36 hv0 (show decode cX11_person 41 = .ok (.getfield 36, 3) from by decide +kernel) rfl ?_
      refine sr_getr (q := 47) C fl_X11_176 (kt hv0 kp_11_6) (show decode cX11_person 44 = .ok (.getfield 176, 3) from by decide +kernel) rfl ?_
      refine sr_iload_n (i := 1) (q := 48) C (show decode cX11_person 47 = .ok (.iload_n 1, 1) from by decide +kernel) rfl rfl rfl ?_
      refine sr_iaload (q := 49) C (kt (kt hv0 kp_11_6) kp_9_4) (show decode cX11_person 48 = .ok (.iaload, 1) from by decide +kernel) rfl (fun x48 => ?_)
      exact sr_ireturn C _ rfl (show decode cX11_person 49 = .ok (.ireturn, 1) from by decide +kernel)
    · refine sr_case (fun hw1 => ?_) (fun hw1 => ?_)
      · refine sr_tabIn (q := 50) C hw1 (show decode cX11_person 12 = .ok (.tableswitch 57 0 2 #[28, 38, 48], 28) from by decide +kernel) (by decide) (by decide) rfl (by decide) ?_
        refine sr_aload_n (i := 0) (q := 51) C (show decode cX11_person 50 = .ok (.aload_n 0, 1) from by decide +kernel) rfl rfl rfl ?_
        refine sr_getr (q := 54) C fl_X11_27 hv0 (show decode cX11_person 51 = .ok (.getfield 27, 3) from by decide +kernel) rfl ?_
        refine sr_getr (q := 57) C fl_X11_178 (kt hv0 kp_11_5) (show decode cX11_person 54 = .ok (.getfield 178, 3) from by decide +kernel) rfl ?_
        refine sr_iload_n (i := 1) (q := 58) C (show decode cX11_person 57 = .ok (.iload_n 1, 1) from by decide +kernel) rfl rfl rfl ?_
        refine sr_iaload (q := 59) C (kt (kt hv0 kp_11_5) kp_7_16) (show decode cX11_person 58 = .ok (.iaload, 1) from by decide +kernel) rfl (fun x58 => ?_)
        exact sr_ireturn C _ rfl (show decode cX11_person 59 = .ok (.ireturn, 1) from by decide +kernel)
      · refine sr_case (fun hw2 => ?_) (fun hw2 => ?_)
        · refine sr_tabIn (q := 60) C hw2 (show decode cX11_person 12 = .ok (.tableswitch 57 0 2 #[28, 38, 48], 28) from by decide +kernel) (by decide) (by decide) rfl (by decide) ?_
          refine sr_aload_n (i := 0) (q := 61) C (show decode cX11_person 60 = .ok (.aload_n 0, 1) from by decide +kernel) rfl rfl rfl ?_
          refine sr_getr (q := 64) C fl_X11_27 hv0 (show decode cX11_person 61 = .ok (.getfield 27, 3) from by decide +kernel) rfl ?_
          refine sr_iload_n (i := 1) (q := 65) C (show decode cX11_person 64 = .ok (.iload_n 1, 1) from by decide +kernel) rfl rfl rfl ?_
          refine sr_cVi (As := [.int v1]) (st := []) (b := lk v0 5) (q := 68) C yvX7_unitOf ml_X11_181 (cnX7_unitOf (xo κ) (lk v0 5) v1 (kt hv0 kp_11_5)) (kt hv0 kp_11_5) (by decide) rfl rfl rfl (by decide) (by decide) (Nat.le_of_ble_eq_true rfl) rfl (show decode cX11_person 65 = .ok (.invokevirtual 181, 3) from by decide +kernel) rfl (fun x65 => ?_)
          exact sr_ireturn C _ rfl (show decode cX11_person 68 = .ok (.ireturn, 1) from by decide +kernel)
        · refine sr_tabOut (q := 69) C (sw3_out hw0 hw1 hw2) (show decode cX11_person 12 = .ok (.tableswitch 57 0 2 #[28, 38, 48], 28) from by decide +kernel) (by decide) ?_
          refine sr_bipush (v := (-2 : Int32)) (q := 71) C (show decode cX11_person 69 = .ok (.bipush (-2), 2) from by decide +kernel) (by decide) rfl ?_
          exact sr_ireturn C _ rfl (show decode cX11_person 71 = .ok (.ireturn, 1) from by decide +kernel)
  · refine sr_bipush (v := (-2 : Int32)) (q := 10) C (show decode cX11_person 8 = .ok (.bipush (-2), 2) from by decide +kernel) (by decide) rfl ?_
    exact sr_ireturn C _ rfl (show decode cX11_person 10 = .ok (.ireturn, 1) from by decide +kernel)
theorem cnX11_person (ω : sm_O) (v0 : Nat) (v1 : Int32) (v2 : Int32) (hv0 : kd v0 = 11) : sm_Mt 2 yX11_person cX11_person 3 (some .int) ω [.ref (ω.1 + v0), .int v1, .int v2] (fun a => some (.int a)) (fnX11_person v0 v1 v2) := by
  refine sm_conI (r := fun a => a) (by decide) (fun _ => rfl) (Nat.le_of_ble_eq_true rfl) ?_
  intro κ hκ C
  subst hκ
  exact slX11_person C v0 v1 v2 hv0
