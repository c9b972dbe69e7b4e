def fnX0_sendOver_J63 (k5 : Nat → Nat → Int32 → Int32 → Int32 → sm_M Int32) (v0 : Nat) (v1 : Nat) (v2 : Int32) (v3 : Int32) (v4 : Int32) : sm_M Int32 := k5 v0 v1 v2 v3 (v4 + (1 : Int32))
set_option maxHeartbeats 4000000 in
set_option maxRecDepth 100000 in
theorem slX0_sendOver_J63 {κ : sm_X} (C : sm_C κ RX0 cX0_sendOver 5 6) {k5 : Nat → Nat → Int32 → Int32 → Int32 → sm_M Int32} (K5 : ∀ (v0 : Nat) (v1 : Nat) (v2 : Int32) (v3 : Int32) (v4 : Int32) (hv0 : kd v0 = 0) (hv1 : kd v1 = 9), sm_S κ (fun r : Int32 => .inr (some (.int r))) (.inl (5, [some (xad κ v0), some (xad κ v1), some (.int v2), some (.int v3), some (.int v4)], [])) (k5 v0 v1 v2 v3 v4)) (v0 : Nat) (v1 : Nat) (v2 : Int32) (v3 : Int32) (v4 : Int32) (hv0 : kd v0 = 0) (hv1 : kd v1 = 9) : sm_S κ (fun r : Int32 => .inr (some (.int r))) (.inl (63, [some (xad κ v0), some (xad κ v1), some (.int v2), some (.int v3), some (.int v4)], [])) (fnX0_sendOver_J63 k5 v0 v1 v2 v3 v4) := by
  unfold fnX0_sendOver_J63
  refine sr_iinc (v := v4 + (1 : Int32)) (L' := [some (xad κ v0), some (xad κ v1), some (.int v2), some (.int v3), some (.int (v4 + (1 : Int32)))]) (q := 66) C (show decode cX0_sendOver 63 = .ok (.iinc 4 1, 3) from by decide +kernel) rfl rfl (by decide) rfl rfl ?_
  refine sr_goto (q := 5) C (show decode cX0_sendOver 66 = .ok (.goto (-61), 3) from by decide +kernel) (by decide) ?_
  exact K5 v0 v1 v2 v3 (v4 + (1 : Int32)) hv0 hv1
def fnX0_sendOver_L5 : Nat → Nat → Nat → Int32 → Int32 → Int32 → sm_M Int32
  | 0, _, _, _, _, _ => m_fail
  | n + 1, v0, v1, v2, v3, v4 => m_gi (lk v1 0) 5 fun x11 => m_br (x11 ≤ v4)
    (m_ret v3)
    (m_bnd (fnX7_isUnit (lk v1 0) v4) fun x23 => m_br ((bI x23) = 0)
    (fnX0_sendOver_J63 (fnX0_sendOver_L5 n) v0 v1 v2 v3 v4)
    (m_bnd (fnX9_isAt v1 v4 (98 : Int32)) fun x34 => m_br ((bI x34) = 0)
    (fnX0_sendOver_J63 (fnX0_sendOver_L5 n) v0 v1 v2 v3 v4)
    (m_bnd (fnX0_send v0 v1 v4 v2) fun x45 => m_br (x45 < 0)
    (fnX0_sendOver_J63 (fnX0_sendOver_L5 n) v0 v1 v2 v3 v4)
    (m_bnd (fnX7_peopleOf (lk v1 0) v4) fun x58 => m_nm (v3 ||| x58) fun y62 => fnX0_sendOver_J63 (fnX0_sendOver_L5 n) v0 v1 v2 y62 v4))))
set_option maxHeartbeats 4000000 in
set_option maxRecDepth 100000 in
theorem slX0_sendOver_L5 {κ : sm_X} (C : sm_C κ RX0 cX0_sendOver 5 6) : ∀ (n : Nat) (v0 : Nat) (v1 : Nat) (v2 : Int32) (v3 : Int32) (v4 : Int32) (hv0 : kd v0 = 0) (hv1 : kd v1 = 9), sm_S κ (fun r : Int32 => .inr (some (.int r))) (.inl (5, [some (xad κ v0), some (xad κ v1), some (.int v2), some (.int v3), some (.int v4)], [])) (fnX0_sendOver_L5 n v0 v1 v2 v3 v4) := by
  intro n
  induction n with
  | zero =>
    intros
    exact sr_fail
  | succ n K5 =>
    intro v0 v1 v2 v3 v4 hv0 hv1
    unfold fnX0_sendOver_L5
    refine sr_iload (i := 4) (q := 7) C (show decode cX0_sendOver 5 = .ok (.iload 4, 2) from by decide +kernel) rfl rfl ?_
    refine sr_aload_n (i := 1) (q := 8) C (show decode cX0_sendOver 7 = .ok (.aload_n 1, 1) from by decide +kernel) rfl rfl rfl ?_
    refine sr_getr (q := 11) C fl_X0_21 hv1 (show decode cX0_sendOver 8 = .ok (.getfield 21, 3) from by decide +kernel) rfl ?_
    refine sr_geti (q := 14) C fl_X0_48 (Or.inl rfl) (kt hv1 kp_9_0) (show decode cX0_sendOver 11 = .ok (.getfield 48, 3) from by decide +kernel) rfl (fun x11 => ?_)
    refine sr_icmp_ge (q := 17) C 69 (show decode cX0_sendOver 14 = .ok (.if_icmp .ge 55, 3) from by decide +kernel) (by decide) rfl ?_ ?_
    · refine sr_iload_n (i := 3) (q := 70) C (show decode cX0_sendOver 69 = .ok (.iload_n 3, 1) from by decide +kernel) rfl rfl rfl ?_
      exact sr_ireturn C _ rfl (show decode cX0_sendOver 70 = .ok (.ireturn, 1) from by decide +kernel)
    · refine sr_aload_n (i := 1) (q := 18) C (show decode cX0_sendOver 17 = .ok (.aload_n 1, 1) from by decide +kernel) rfl rfl rfl ?_
      refine sr_getr (q := 21) C fl_X0_21 hv1 (show decode cX0_sendOver 18 = .ok (.getfield 21, 3) from by decide +kernel) rfl ?_
      refine sr_iload (i := 4) (q := 23) C (show decode cX0_sendOver 21 = .ok (.iload 4, 2) from by decide +kernel) rfl rfl ?_
      refine sr_cVz (As := [.int v4]) (st := []) (b := lk v1 0) (q := 26) C yvX7_isUnit ml_X0_52 (cnX7_isUnit (xo κ) (lk v1 0) v4 (kt hv1 kp_9_0)) (kt hv1 kp_9_0) (by decide) rfl rfl rfl (by decide) (by decide) (Nat.le_of_ble_eq_true rfl) rfl (show decode cX0_sendOver 23 = .ok (.invokevirtual 52, 3) from by decide +kernel) rfl (fun x23 => ?_)
      refine sr_if_eq (q := 29) C 63 (show decode cX0_sendOver 26 = .ok (.ifCond .eq 37, 3) from by decide +kernel) (by decide) rfl ?_ ?_
      · exact slX0_sendOver_J63 C K5 v0 v1 v2 v3 v4 hv0 hv1
      · refine sr_aload_n (i := 1) (q := 30) C (show decode cX0_sendOver 29 = .ok (.aload_n 1, 1) from by decide +kernel) rfl rfl rfl ?_
        refine sr_iload (i := 4) (q := 32) C (show decode cX0_sendOver 30 = .ok (.iload 4, 2) from by decide +kernel) rfl rfl ?_
        refine sr_bipush (v := (98 : Int32)) (q := 34) C (show decode cX0_sendOver 32 = .ok (.bipush 98, 2) from by decide +kernel) (by decide) rfl ?_
        refine sr_cVz (As := [.int v4, .int (98 : Int32)]) (st := []) (b := v1) (q := 37) C yvX9_isAt ml_X0_15 (cnX9_isAt (xo κ) v1 v4 (98 : Int32) hv1) hv1 (by decide) rfl rfl rfl (by decide) (by decide) (Nat.le_of_ble_eq_true rfl) rfl (show decode cX0_sendOver 34 = .ok (.invokevirtual 15, 3) from by decide +kernel) rfl (fun x34 => ?_)
        refine sr_if_eq (q := 40) C 63 (show decode cX0_sendOver 37 = .ok (.ifCond .eq 26, 3) from by decide +kernel) (by decide) rfl ?_ ?_
        · exact slX0_sendOver_J63 C K5 v0 v1 v2 v3 v4 hv0 hv1
        · refine sr_aload_n (i := 0) (q := 41) C (show decode cX0_sendOver 40 = .ok (.aload_n 0, 1) from by decide +kernel) rfl rfl rfl ?_
          refine sr_aload_n (i := 1) (q := 42) C (show decode cX0_sendOver 41 = .ok (.aload_n 1, 1) from by decide +kernel) rfl rfl rfl ?_
          refine sr_iload (i := 4) (q := 44) C (show decode cX0_sendOver 42 = .ok (.iload 4, 2) from by decide +kernel) rfl rfl ?_
          refine sr_iload_n (i := 2) (q := 45) C (show decode cX0_sendOver 44 = .ok (.iload_n 2, 1) from by decide +kernel) rfl rfl rfl ?_
          refine sr_cVi (As := [xad κ v1, .int v4, .int v2]) (st := []) (b := v0) (q := 48) C yvX0_send ml_X0_56 (cnX0_send (xo κ) v0 v1 v4 v2 hv0 hv1) hv0 (by decide) rfl rfl rfl (by decide) (by decide) (Nat.le_of_ble_eq_true rfl) rfl (show decode cX0_sendOver 45 = .ok (.invokevirtual 56, 3) from by decide +kernel) rfl (fun x45 => ?_)
          refine sr_if_lt (q := 51) C 63 (show decode cX0_sendOver 48 = .ok (.ifCond .lt 15, 3) from by decide +kernel) (by decide) rfl ?_ ?_
          · exact slX0_sendOver_J63 C K5 v0 v1 v2 v3 v4 hv0 hv1
          · refine sr_iload_n (i := 3) (q := 52) C (show decode cX0_sendOver 51 = .ok (.iload_n 3, 1) from by decide +kernel) rfl rfl rfl ?_
            refine sr_aload_n (i := 1) (q := 53) C (show decode cX0_sendOver 52 = .ok (.aload_n 1, 1) from by decide +kernel) rfl rfl rfl ?_
            refine sr_getr (q := 56) C fl_X0_21 hv1 (show decode cX0_sendOver 53 = .ok (.getfield 21, 3) from by decide +kernel) rfl ?_
            refine sr_iload (i := 4) (q := 58) C (show decode cX0_sendOver 56 = .ok (.iload 4, 2) from by decide +kernel) rfl rfl ?_
            refine sr_cVi (As := [.int v4]) (st := [.int v3]) (b := lk v1 0) (q := 61) C yvX7_peopleOf ml_X0_60 (cnX7_peopleOf (xo κ) (lk v1 0) v4 (kt hv1 kp_9_0)) (kt hv1 kp_9_0) (by decide) rfl rfl rfl (by decide) (by decide) (Nat.le_of_ble_eq_true rfl) rfl (show decode cX0_sendOver 58 = .ok (.invokevirtual 60, 3) from by decide +kernel) rfl (fun x58 => ?_)
            refine sr_ior (q := 62) C (show decode cX0_sendOver 61 = .ok (.ior, 1) from by decide +kernel) rfl ?_
            refine sr_nmi (fun y62 => ?_)
            refine sr_istore_n (i := 3) (L' := [some (xad κ v0), some (xad κ v1), some (.int v2), some (.int y62), some (.int v4)]) (q := 63) C (show decode cX0_sendOver 62 = .ok (.istore_n 3, 1) from by decide +kernel) rfl (by decide) rfl rfl ?_
            exact slX0_sendOver_J63 C K5 v0 v1 v2 y62 v4 hv0 hv1
def fnX0_sendOver (v0 : Nat) (v1 : Nat) (v2 : Int32) : sm_M Int32 := fnX0_sendOver_L5 4096 v0 v1 v2 (0 : Int32) (0 : Int32)
set_option maxHeartbeats 4000000 in
set_option maxRecDepth 100000 in
theorem slX0_sendOver {κ : sm_X} (C : sm_C κ RX0 cX0_sendOver 5 6) (v0 : Nat) (v1 : Nat) (v2 : Int32) (hv0 : kd v0 = 0) (hv1 : kd v1 = 9) : sm_S κ (fun r : Int32 => .inr (some (.int r))) (.inl (0, [some (xad κ v0), some (xad κ v1), some (.int v2), none, none], [])) (fnX0_sendOver v0 v1 v2) := by
  unfold fnX0_sendOver
  refine sr_iconst (v := (0 : Int32)) (q := 1) C (show decode cX0_sendOver 0 = .ok (.iconst 0, 1) from by decide +kernel) (by decide) rfl ?_
  refine sr_istore_n (i := 3) (L' := [some (xad κ v0), some (xad κ v1), some (.int v2), some (.int (0 : Int32)), none]) (q := 2) C (show decode cX0_sendOver 1 = .ok (.istore_n 3, 1) from by decide +kernel) rfl (by decide) rfl rfl ?_
  refine sr_iconst (v := (0 : Int32)) (q := 3) C (show decode cX0_sendOver 2 = .ok (.iconst 0, 1) from by decide +kernel) (by decide) rfl ?_
  refine sr_istore (i := 4) (L' := [some (xad κ v0), some (xad κ v1), some (.int v2), some (.int (0 : Int32)), some (.int (0 : Int32))]) (q := 5) C (show decode cX0_sendOver 3 = .ok (.istore 4, 2) from by decide +kernel) (by decide) rfl rfl ?_
  exact slX0_sendOver_L5 C 4096 v0 v1 v2 (0 : Int32) (0 : Int32) hv0 hv1
theorem cnX0_sendOver (ω : sm_O) (v0 : Nat) (v1 : Nat) (v2 : Int32) (hv0 : kd v0 = 0) (hv1 : kd v1 = 9) : sm_Mt 6 yX0_sendOver cX0_sendOver 5 (some .int) ω [.ref (ω.1 + v0), .ref (ω.1 + v1), .int v2] (fun a => some (.int a)) (fnX0_sendOver v0 v1 v2) := by
  refine sm_conI (r := fun a => a) (by decide) (fun _ => rfl) (Nat.le_of_ble_eq_true rfl) ?_
  intro κ hκ C
  subst hκ
  exact slX0_sendOver C v0 v1 v2 hv0 hv1
def fnX0_wade_J123 (v1 : Nat) (v2 : Int32) : sm_M Bool := m_bnd (fnX9_settle v1 v2 (99 : Int32)) fun _ => m_ret true
set_option maxHeartbeats 4000000 in
set_option maxRecDepth 100000 in
theorem slX0_wade_J123 {κ : sm_X} (C : sm_C κ RX0 cX0_wade 9 5) (v1 : Nat) (v2 : Int32) (hv1 : kd v1 = 9) : sm_S κ (fun r : Bool => .inr (some (.int (bI r)))) (.inl (123, [none, some (xad κ v1), some (.int v2), none, none, none, none, none, none], [])) (fnX0_wade_J123 v1 v2) := by
  unfold fnX0_wade_J123
  refine sr_aload_n (i := 1) (q := 124) C (show decode cX0_wade 123 = .ok (.aload_n 1, 1) from by decide +kernel) rfl rfl rfl ?_
  refine sr_iload_n (i := 2) (q := 125) C (show decode cX0_wade 124 = .ok (.iload_n 2, 1) from by decide +kernel) rfl rfl rfl ?_
  refine sr_bipush (v := (99 : Int32)) (q := 127) C (show decode cX0_wade 125 = .ok (.bipush 99, 2) from by decide +kernel) (by decide) rfl ?_
  refine sr_cVv (As := [.int v2, .int (99 : Int32)]) (st := []) (b := v1) (q := 130) C yvX9_settle ml_X0_44 (cnX9_settle (xo κ) v1 v2 (99 : Int32) hv1) hv1 (by decide) rfl rfl rfl (by decide) (by decide) (Nat.le_of_ble_eq_true rfl) rfl (show decode cX0_wade 127 = .ok (.invokevirtual 44, 3) from by decide +kernel) rfl (fun _ => ?_)
  refine sr_iconst (v := (1 : Int32)) (q := 131) C (show decode cX0_wade 130 = .ok (.iconst 1, 1) from by decide +kernel) (by decide) rfl ?_
  exact sr_ireturn C true rfl (show decode cX0_wade 131 = .ok (.ireturn, 1) from by decide +kernel)
def fnX0_wade_J105 (k43 : Nat → Nat → Int32 → Int32 → Int32 → Int32 → Int32 → sm_M Bool) (v0 : Nat) (v1 : Nat) (v2 : Int32) (v4 : Int32) (v5 : Int32) (v6 : Int32) (v7 : Int32) (v8 : Int32) : sm_M Bool := m_ai (lk v1 2) v8 fun x112 => m_sai (lk v1 2) v8 (x112 + v5) <| k43 v0 v1 v2 v4 v5 v6 (v7 + (1 : Int32))
set_option maxHeartbeats 4000000 in
set_option maxRecDepth 100000 in
theorem slX0_wade_J105 {κ : sm_X} (C : sm_C κ RX0 cX0_wade 9 5) {k43 : Nat → Nat → Int32 → Int32 → Int32 → Int32 → Int32 → sm_M Bool} (K43 : ∀ (v0 : Nat) (v1 : Nat) (v2 : Int32) (v4 : Int32) (v5 : Int32) (v6 : Int32) (v7 : Int32) (hv0 : kd v0 = 0) (hv1 : kd v1 = 9), sm_S κ (fun r : Bool => .inr (some (.int (bI r)))) (.inl (43, [some (xad κ v0), some (xad κ v1), some (.int v2), none, some (.int v4), some (.int v5), some (.int v6), some (.int v7), none], [])) (k43 v0 v1 v2 v4 v5 v6 v7)) (v0 : Nat) (v1 : Nat) (v2 : Int32) (v4 : Int32) (v5 : Int32) (v6 : Int32) (v7 : Int32) (v8 : Int32) (hv0 : kd v0 = 0) (hv1 : kd v1 = 9) : sm_S κ (fun r : Bool => .inr (some (.int (bI r)))) (.inl (105, [some (xad κ v0), some (xad κ v1), some (.int v2), none, some (.int v4), some (.int v5), some (.int v6), some (.int v7), some (.int v8)], [])) (fnX0_wade_J105 k43 v0 v1 v2 v4 v5 v6 v7 v8) := by
  unfold fnX0_wade_J105
  refine sr_aload_n (i := 1) (q := 106) C (show decode cX0_wade 105 = .ok (.aload_n 1, 1) from by decide +kernel) rfl rfl rfl ?_
  refine sr_getr (q := 109) C fl_X0_74 hv1 (show decode cX0_wade 106 = .ok (.getfield 74, 3) from by decide +kernel) rfl ?_
  refine sr_iload (i := 8) (q := 111) C (show decode cX0_wade 109 = .ok (.iload 8, 2) from by decide +kernel) rfl rfl ?_
  refine sr_dup2 (q := 112) C (show decode cX0_wade 111 = .ok (.dup2, 1) from by decide +kernel) rfl rfl rfl ?_
  refine sr_iaload (q := 113) C (kt hv1 kp_9_2) (show decode cX0_wade 112 = .ok (.iaload, 1) from by decide +kernel) rfl (fun x112 => ?_)
  refine sr_iload (i := 5) (q := 115) C (show decode cX0_wade 113 = .ok (.iload 5, 2) from by decide +kernel) rfl rfl ?_
  refine sr_iadd (q := 116) C (show decode cX0_wade 115 = .ok (.iadd, 1) from by decide +kernel) rfl ?_
  refine sr_iastore (q := 117) C (kt hv1 kp_9_2) (show decode cX0_wade 116 = .ok (.iastore, 1) from by decide +kernel) rfl ?_
  refine sr_iinc (v := v7 + (1 : Int32)) (L' := [some (xad κ v0), some (xad κ v1), some (.int v2), none, some (.int v4), some (.int v5), some (.int v6), some (.int (v7 + (1 : Int32))), some (.int v8)]) (q := 120) C (show decode cX0_wade 117 = .ok (.iinc 7 1, 3) from by decide +kernel) rfl rfl (by decide) rfl rfl ?_
  refine sr_goto (q := 43) C (show decode cX0_wade 120 = .ok (.goto (-77), 3) from by decide +kernel) (by decide) ?_
  refine sr_weak (L' := [some (xad κ v0), some (xad κ v1), some (.int v2), none, some (.int v4), some (.int v5), some (.int v6), some (.int (v7 + (1 : Int32))), none]) ⟨rfl, rfl, rfl, rfl, rfl, rfl, rfl, trivial⟩ ?_
  exact K43 v0 v1 v2 v4 v5 v6 (v7 + (1 : Int32)) hv0 hv1
def fnX0_wade_J86 (v1 : Nat) (v8 : Int32) : sm_M Bool := m_ai (lk (lk v1 0) 10) v8 fun x101 => m_sai (lk v1 2) v8 x101 <| m_ret false
set_option maxHeartbeats 4000000 in
set_option maxRecDepth 100000 in
theorem slX0_wade_J86 {κ : sm_X} (C : sm_C κ RX0 cX0_wade 9 5) (v1 : Nat) (v8 : Int32) (hv1 : kd v1 = 9) : sm_S κ (fun r : Bool => .inr (some (.int (bI r)))) (.inl (86, [none, some (xad κ v1), none, none, none, none, none, none, some (.int v8)], [])) (fnX0_wade_J86 v1 v8) := by
  unfold fnX0_wade_J86
  refine sr_aload_n (i := 1) (q := 87) C (show decode cX0_wade 86 = .ok (.aload_n 1, 1) from by decide +kernel) rfl rfl rfl ?_
  refine sr_getr (q := 90) C fl_X0_74 hv1 (show decode cX0_wade 87 = .ok (.getfield 74, 3) from by decide +kernel) rfl ?_
  refine sr_iload (i := 8) (q := 92) C (show decode cX0_wade 90 = .ok (.iload 8, 2) from by decide +kernel) rfl rfl ?_
  refine sr_aload_n (i := 1) (q := 93) C (show decode cX0_wade 92 = .ok (.aload_n 1, 1) from by decide +kernel) rfl rfl rfl ?_
  refine sr_getr (q := 96) C fl_X0_21 hv1 (show decode cX0_wade 93 = .ok (.getfield 21, 3) from by decide +kernel) rfl ?_
  refine sr_getr (q := 99) C fl_X0_77 (kt hv1 kp_9_0) (show decode cX0_wade 96 = .ok (.getfield 77, 3) from by decide +kernel) rfl ?_
  refine sr_iload (i := 8) (q := 101) C (show decode cX0_wade 99 = .ok (.iload 8, 2) from by decide +kernel) rfl rfl ?_
  refine sr_iaload (q := 102) C (kt (kt hv1 kp_9_0) kp_7_10) (show decode cX0_wade 101 = .ok (.iaload, 1) from by decide +kernel) rfl (fun x101 => ?_)
  refine sr_iastore (q := 103) C (kt hv1 kp_9_2) (show decode cX0_wade 102 = .ok (.iastore, 1) from by decide +kernel) rfl ?_
  refine sr_iconst (v := (0 : Int32)) (q := 104) C (show decode cX0_wade 103 = .ok (.iconst 0, 1) from by decide +kernel) (by decide) rfl ?_
  exact sr_ireturn C false rfl (show decode cX0_wade 104 = .ok (.ireturn, 1) from by decide +kernel)
def fnX0_wade_L43 : Nat → Nat → Nat → Int32 → Int32 → Int32 → Int32 → Int32 → sm_M Bool
  | 0, _, _, _, _, _, _, _ => m_fail
  | n + 1, v0, v1, v2, v4, v5, v6, v7 => m_br (v6 ≤ v7)
    (fnX0_wade_J123 v1 v2)
    (m_ai (lk (lk v0 0) 0) v7 fun x59 => m_br (((v4 >>> (x59 &&& 31)) &&& (1 : Int32)) = 0)
    (fnX0_wade_J105 (fnX0_wade_L43 n) v0 v1 v2 v4 v5 v6 v7 x59)
    (m_ai (lk v1 2) x59 fun x78 => m_br ((x78 + v5) ≤ (1 : Int32))
    (fnX0_wade_J105 (fnX0_wade_L43 n) v0 v1 v2 v4 v5 v6 v7 x59)
    (fnX0_wade_J86 v1 x59)))
set_option maxHeartbeats 4000000 in
set_option maxRecDepth 100000 in
theorem slX0_wade_L43 {κ : sm_X} (C : sm_C κ RX0 cX0_wade 9 5) : ∀ (n : Nat) (v0 : Nat) (v1 : Nat) (v2 : Int32) (v4 : Int32) (v5 : Int32) (v6 : Int32) (v7 : Int32) (hv0 : kd v0 = 0) (hv1 : kd v1 = 9), sm_S κ (fun r : Bool => .inr (some (.int (bI r)))) (.inl (43, [some (xad κ v0), some (xad κ v1), some (.int v2), none, some (.int v4), some (.int v5), some (.int v6), some (.int v7), none], [])) (fnX0_wade_L43 n v0 v1 v2 v4 v5 v6 v7) := by
  intro n
  induction n with
  | zero =>
    intros
    exact sr_fail
  | succ n K43 =>
    intro v0 v1 v2 v4 v5 v6 v7 hv0 hv1
    unfold fnX0_wade_L43
    refine sr_iload (i := 7) (q := 45) C (show decode cX0_wade 43 = .ok (.iload 7, 2) from by decide +kernel) rfl rfl ?_
    refine sr_iload (i := 6) (q := 47) C (show decode cX0_wade 45 = .ok (.iload 6, 2) from by decide +kernel) rfl rfl ?_
    refine sr_icmp_ge (q := 50) C 123 (show decode cX0_wade 47 = .ok (.if_icmp .ge 76, 3) from by decide +kernel) (by decide) rfl ?_ ?_
    · refine sr_weak (L' := [none, some (xad κ v1), some (.int v2), none, none, none, none, none, none]) ⟨rfl, rfl, trivial⟩ ?_
      exact slX0_wade_J123 C v1 v2 hv1
    · refine sr_aload_n (i := 0) (q := 51) C (show decode cX0_wade 50 = .ok (.aload_n 0, 1) from by decide +kernel) rfl rfl rfl ?_
      refine sr_getr (q := 54) C fl_X0_9 hv0 (show decode cX0_wade 51 = .ok (.getfield 9, 3) from by decide +kernel) rfl ?_
      refine sr_getr (q := 57) C fl_X0_70 (kt hv0 kp_0_0) (show decode cX0_wade 54 = .ok (.getfield 70, 3) from by decide +kernel) rfl ?_
      refine sr_iload (i := 7) (q := 59) C (show decode cX0_wade 57 = .ok (.iload 7, 2) from by decide +kernel) rfl rfl ?_
      refine sr_iaload (q := 60) C (kt (kt hv0 kp_0_0) kp_10_0) (show decode cX0_wade 59 = .ok (.iaload, 1) from by decide +kernel) rfl (fun x59 => ?_)
      refine sr_istore (i := 8) (L' := [some (xad κ v0), some (xad κ v1), some (.int v2), none, some (.int v4), some (.int v5), some (.int v6), some (.int v7), some (.int x59)]) (q := 62) C (show decode cX0_wade 60 = .ok (.istore 8, 2) from by decide +kernel) (by decide) rfl rfl ?_
      refine sr_iload (i := 4) (q := 64) C (show decode cX0_wade 62 = .ok (.iload 4, 2) from by decide +kernel) rfl rfl ?_
      refine sr_iload (i := 8) (q := 66) C (show decode cX0_wade 64 = .ok (.iload 8, 2) from by decide +kernel) rfl rfl ?_
      refine sr_ishr (q := 67) C (show decode cX0_wade 66 = .ok (.ishr, 1) from by decide +kernel) rfl ?_
      refine sr_iconst (v := (1 : Int32)) (q := 68) C (show decode cX0_wade 67 = .ok (.iconst 1, 1) from by decide +kernel) (by decide) rfl ?_
      refine sr_iand (q := 69) C (show decode cX0_wade 68 = .ok (.iand, 1) from by decide +kernel) rfl ?_
      refine sr_if_eq (q := 72) C 105 (show decode cX0_wade 69 = .ok (.ifCond .eq 36, 3) from by decide +kernel) (by decide) rfl ?_ ?_
      · exact slX0_wade_J105 C K43 v0 v1 v2 v4 v5 v6 v7 x59 hv0 hv1
      · refine sr_aload_n (i := 1) (q := 73) C (show decode cX0_wade 72 = .ok (.aload_n 1, 1) from by decide +kernel) rfl rfl rfl ?_
        refine sr_getr (q := 76) C fl_X0_74 hv1 (show decode cX0_wade 73 = .ok (.getfield 74, 3) from by decide +kernel) rfl ?_
        refine sr_iload (i := 8) (q := 78) C (show decode cX0_wade 76 = .ok (.iload 8, 2) from by decide +kernel) rfl rfl ?_
        refine sr_iaload (q := 79) C (kt hv1 kp_9_2) (show decode cX0_wade 78 = .ok (.iaload, 1) from by decide +kernel) rfl (fun x78 => ?_)
        refine sr_iload (i := 5) (q := 81) C (show decode cX0_wade 79 = .ok (.iload 5, 2) from by decide +kernel) rfl rfl ?_
        refine sr_iadd (q := 82) C (show decode cX0_wade 81 = .ok (.iadd, 1) from by decide +kernel) rfl ?_
        refine sr_iconst (v := (1 : Int32)) (q := 83) C (show decode cX0_wade 82 = .ok (.iconst 1, 1) from by decide +kernel) (by decide) rfl ?_
        refine sr_icmp_le (q := 86) C 105 (show decode cX0_wade 83 = .ok (.if_icmp .le 22, 3) from by decide +kernel) (by decide) rfl ?_ ?_
        · exact slX0_wade_J105 C K43 v0 v1 v2 v4 v5 v6 v7 x59 hv0 hv1
        · refine sr_weak (L' := [none, some (xad κ v1), none, none, none, none, none, none, some (.int x59)]) ⟨rfl, rfl, trivial⟩ ?_
          exact slX0_wade_J86 C v1 x59 hv1
def fnX0_wade (v0 : Nat) (v1 : Nat) (v2 : Int32) (v3 : Int32) (v4 : Int32) : sm_M Bool := m_bnd (fnX7_weightOf (lk v1 0) v2) fun x5 => m_bnd (fnX7_strideOf (lk v1 0) v2) fun x20 => m_bnd (fnX10_seek (lk v0 0) v1 x20 x5 v3 (98 : Int32)) fun x28 => m_br (0 ≤ x28)
    (fnX0_wade_L43 4096 v0 v1 v2 v4 x5 x28 (0 : Int32))
    (m_ret false)
set_option maxHeartbeats 4000000 in
set_option maxRecDepth 100000 in
theorem slX0_wade {κ : sm_X} (C : sm_C κ RX0 cX0_wade 9 5) (v0 : Nat) (v1 : Nat) (v2 : Int32) (v3 : Int32) (v4 : Int32) (hv0 : kd v0 = 0) (hv1 : kd v1 = 9) : sm_S κ (fun r : Bool => .inr (some (.int (bI r)))) (.inl (0, [some (xad κ v0), some (xad κ v1), some (.int v2), some (.int v3), some (.int v4), none, none, none, none], [])) (fnX0_wade v0 v1 v2 v3 v4) := by
  unfold fnX0_wade
  refine sr_aload_n (i := 1) (q := 1) C (show decode cX0_wade 0 = .ok (.aload_n 1, 1) from by decide +kernel) rfl rfl rfl ?_
  refine sr_getr (q := 4) C fl_X0_21 hv1 (show decode cX0_wade 1 = .ok (.getfield 21, 3) from by decide +kernel) rfl ?_
  refine sr_iload_n (i := 2) (q := 5) C (show decode cX0_wade 4 = .ok (.iload_n 2, 1) from by decide +kernel) rfl rfl rfl ?_
  refine sr_cVi (As := [.int v2]) (st := []) (b := lk v1 0) (q := 8) C yvX7_weightOf ml_X0_25 (cnX7_weightOf (xo κ) (lk v1 0) v2 (kt hv1 kp_9_0)) (kt hv1 kp_9_0) (by decide) rfl rfl rfl (by decide) (by decide) (Nat.le_of_ble_eq_true rfl) rfl (show decode cX0_wade 5 = .ok (.invokevirtual 25, 3) from by decide +kernel) rfl (fun x5 => ?_)
  refine sr_istore (i := 5) (L' := [some (xad κ v0), some (xad κ v1), some (.int v2), some (.int v3), some (.int v4), some (.int x5), none, none, none]) (q := 10) C (show decode cX0_wade 8 = .ok (.istore 5, 2) from by decide +kernel) (by decide) rfl rfl ?_
  refine sr_aload_n (i := 0) (q := 11) C (show decode cX0_wade 10 = .ok (.aload_n 0, 1) from by decide +kernel) rfl rfl rfl ?_
  refine sr_getr (q := 14) C fl_X0_9 hv0 (show decode cX0_wade 11 = .ok (.getfield 9, 3) from by decide +kernel) rfl ?_
  refine sr_aload_n (i := 1) (q := 15) C (show decode cX0_wade 14 = .ok (.aload_n 1, 1) from by decide +kernel) rfl rfl rfl ?_
  refine sr_aload_n (i := 1) (q := 16) C (show decode cX0_wade 15 = .ok (.aload_n 1, 1) from by decide +kernel) rfl rfl rfl ?_
  refine sr_getr (q := 19) C fl_X0_21 hv1 (show decode cX0_wade 16 = .ok (.getfield 21, 3) from by decide +kernel) rfl ?_
  refine sr_iload_n (i := 2) (q := 20) C (show decode cX0_wade 19 = .ok (.iload_n 2, 1) from by decide +kernel) rfl rfl rfl ?_
  refine sr_cVi (As := [.int v2]) (st := [xad κ v1, xad κ (lk v0 0)]) (b := lk v1 0) (q := 23) C yvX7_strideOf ml_X0_31 (cnX7_strideOf (xo κ) (lk v1 0) v2 (kt hv1 kp_9_0)) (kt hv1 kp_9_0) (by decide) rfl rfl rfl (by decide) (by decide) (Nat.le_of_ble_eq_true rfl) rfl (show decode cX0_wade 20 = .ok (.invokevirtual 31, 3) from by decide +kernel) rfl (fun x20 => ?_)
  refine sr_iload (i := 5) (q := 25) C (show decode cX0_wade 23 = .ok (.iload 5, 2) from by decide +kernel) rfl rfl ?_
  refine sr_iload_n (i := 3) (q := 26) C (show decode cX0_wade 25 = .ok (.iload_n 3, 1) from by decide +kernel) rfl rfl rfl ?_
  refine sr_bipush (v := (98 : Int32)) (q := 28) C (show decode cX0_wade 26 = .ok (.bipush 98, 2) from by decide +kernel) (by decide) rfl ?_
  refine sr_cVi (As := [xad κ v1, .int x20, .int x5, .int v3, .int (98 : Int32)]) (st := []) (b := lk v0 0) (q := 31) C yvX10_seek ml_X0_34 (cnX10_seek (xo κ) (lk v0 0) v1 x20 x5 v3 (98 : Int32) (kt hv0 kp_0_0) hv1) (kt hv0 kp_0_0) (by decide) rfl rfl rfl (by decide) (by decide) (Nat.le_of_ble_eq_true rfl) rfl (show decode cX0_wade 28 = .ok (.invokevirtual 34, 3) from by decide +kernel) rfl (fun x28 => ?_)
  refine sr_istore (i := 6) (L' := [some (xad κ v0), some (xad κ v1), some (.int v2), some (.int v3), some (.int v4), some (.int x5), some (.int x28), none, none]) (q := 33) C (show decode cX0_wade 31 = .ok (.istore 6, 2) from by decide +kernel) (by decide) rfl rfl ?_
  refine sr_iload (i := 6) (q := 35) C (show decode cX0_wade 33 = .ok (.iload 6, 2) from by decide +kernel) rfl rfl ?_
  refine sr_if_ge (q := 38) C 40 (show decode cX0_wade 35 = .ok (.ifCond .ge 5, 3) from by decide +kernel) (by decide) rfl ?_ ?_
  · refine sr_iconst (v := (0 : Int32)) (q := 41) C (show decode cX0_wade 40 = .ok (.iconst 0, 1) from by decide +kernel) (by decide) rfl ?_
    refine sr_istore (i := 7) (L' := [some (xad κ v0), some (xad κ v1), some (.int v2), some (.int v3), some (.int v4), some (.int x5), some (.int x28), some (.int (0 : Int32)), none]) (q := 43) C (show decode cX0_wade 41 = .ok (.istore 7, 2) from by decide +kernel) (by decide) rfl rfl ?_
    refine sr_weak (L' := [some (xad κ v0), some (xad κ v1), some (.int v2), none, some (.int v4), some (.int x5), some (.int x28), some (.int (0 : Int32)), none]) ⟨rfl, rfl, rfl, rfl, rfl, rfl, rfl, trivial⟩ ?_
    exact slX0_wade_L43 C 4096 v0 v1 v2 v4 x5 x28 (0 : Int32) hv0 hv1
  · refine sr_iconst (v := (0 : Int32)) (q := 39) C (show decode cX0_wade 38 = .ok (.iconst 0, 1) from by decide +kernel) (by decide) rfl ?_
    exact sr_ireturn C false rfl (show decode cX0_wade 39 = .ok (.ireturn, 1) from by decide +kernel)
theorem cnX0_wade (ω : sm_O) (v0 : Nat) (v1 : Nat) (v2 : Int32) (v3 : Int32) (v4 : Int32) (hv0 : kd v0 = 0) (hv1 : kd v1 = 9) : sm_Mt 5 yX0_wade cX0_wade 9 (some .boolean) ω [.ref (ω.1 + v0), .ref (ω.1 + v1), .int v2, .int v3, .int v4] (fun a => some (.int (bI a))) (fnX0_wade v0 v1 v2 v3 v4) := by
  refine sm_conI (r := bI) (by decide) bI_nar (Nat.le_of_ble_eq_true rfl) ?_
  intro κ hκ C
  subst hκ
  exact slX0_wade C v0 v1 v2 v3 v4 hv0 hv1
def fnX0_wadeOver_J67 (k6 : Nat → Nat → Int32 → Int32 → Int32 → Int32 → sm_M Int32) (v0 : Nat) (v1 : Nat) (v2 : Int32) (v3 : Int32) (v4 : Int32) (v5 : Int32) : sm_M Int32 := k6 v0 v1 v2 v3 v4 (v5 + (1 : Int32))
set_option maxHeartbeats 4000000 in
set_option maxRecDepth 100000 in
theorem slX0_wadeOver_J67 {κ : sm_X} (C : sm_C κ RX0 cX0_wadeOver 6 6) {k6 : Nat → Nat → Int32 → Int32 → Int32 → Int32 → sm_M Int32} (K6 : ∀ (v0 : Nat) (v1 : Nat) (v2 : Int32) (v3 : Int32) (v4 : Int32) (v5 : Int32) (hv0 : kd v0 = 0) (hv1 : kd v1 = 9), sm_S κ (fun r : Int32 => .inr (some (.int r))) (.inl (6, [some (xad κ v0), some (xad κ v1), some (.int v2), some (.int v3), some (.int v4), some (.int v5)], [])) (k6 v0 v1 v2 v3 v4 v5)) (v0 : Nat) (v1 : Nat) (v2 : Int32) (v3 : Int32) (v4 : Int32) (v5 : Int32) (hv0 : kd v0 = 0) (hv1 : kd v1 = 9) : sm_S κ (fun r : Int32 => .inr (some (.int r))) (.inl (67, [some (xad κ v0), some (xad κ v1), some (.int v2), some (.int v3), some (.int v4), some (.int v5)], [])) (fnX0_wadeOver_J67 k6 v0 v1 v2 v3 v4 v5) := by
  unfold fnX0_wadeOver_J67
  refine sr_iinc (v := v5 + (1 : Int32)) (L' := [some (xad κ v0), some (xad κ v1), some (.int v2), some (.int v3), some (.int v4), some (.int (v5 + (1 : Int32)))]) (q := 70) C (show decode cX0_wadeOver 67 = .ok (.iinc 5 1, 3) from by decide +kernel) rfl rfl (by decide) rfl rfl ?_
  refine sr_goto (q := 6) C (show decode cX0_wadeOver 70 = .ok (.goto (-64), 3) from by decide +kernel) (by decide) ?_
  exact K6 v0 v1 v2 v3 v4 (v5 + (1 : Int32)) hv0 hv1
def fnX0_wadeOver_L6 : Nat → Nat → Nat → Int32 → Int32 → Int32 → Int32 → sm_M Int32
  | 0, _, _, _, _, _, _ => m_fail
  | n + 1, v0, v1, v2, v3, v4, v5 => m_gi (lk v1 0) 5 fun x12 => m_br (x12 ≤ v5)
    (m_ret v4)
    (m_bnd (fnX7_isUnit (lk v1 0) v5) fun x24 => m_br ((bI x24) = 0)
    (fnX0_wadeOver_J67 (fnX0_wadeOver_L6 n) v0 v1 v2 v3 v4 v5)
    (m_bnd (fnX9_isAt v1 v5 (98 : Int32)) fun x35 => m_br ((bI x35) = 0)
    (fnX0_wadeOver_J67 (fnX0_wadeOver_L6 n) v0 v1 v2 v3 v4 v5)
    (m_bnd (fnX0_wade v0 v1 v5 v2 v3) fun x47 => m_br ((bI x47) = 0)
    (fnX0_wadeOver_J67 (fnX0_wadeOver_L6 n) v0 v1 v2 v3 v4 v5)
    (m_bnd (fnX7_peopleOf (lk v1 0) v5) fun x61 => m_nm (v4 ||| x61) fun y65 => fnX0_wadeOver_J67 (fnX0_wadeOver_L6 n) v0 v1 v2 v3 y65 v5))))
set_option maxHeartbeats 4000000 in
set_option maxRecDepth 100000 in
theorem slX0_wadeOver_L6 {κ : sm_X} (C : sm_C κ RX0 cX0_wadeOver 6 6) : ∀ (n : Nat) (v0 : Nat) (v1 : Nat) (v2 : Int32) (v3 : Int32) (v4 : Int32) (v5 : Int32) (hv0 : kd v0 = 0) (hv1 : kd v1 = 9), sm_S κ (fun r : Int32 => .inr (some (.int r))) (.inl (6, [some (xad κ v0), some (xad κ v1), some (.int v2), some (.int v3), some (.int v4), some (.int v5)], [])) (fnX0_wadeOver_L6 n v0 v1 v2 v3 v4 v5) := by
  intro n
  induction n with
  | zero =>
    intros
    exact sr_fail
  | succ n K6 =>
    intro v0 v1 v2 v3 v4 v5 hv0 hv1
    unfold fnX0_wadeOver_L6
    refine sr_iload (i := 5) (q := 8) C (show decode cX0_wadeOver 6 = .ok (.iload 5, 2) from by decide +kernel) rfl rfl ?_
    refine sr_aload_n (i := 1) (q := 9) C (show decode cX0_wadeOver 8 = .ok (.aload_n 1, 1) from by decide +kernel) rfl rfl rfl ?_
    refine sr_getr (q := 12) C fl_X0_21 hv1 (show decode cX0_wadeOver 9 = .ok (.getfield 21, 3) from by decide +kernel) rfl ?_
    refine sr_geti (q := 15) C fl_X0_48 (Or.inl rfl) (kt hv1 kp_9_0) (show decode cX0_wadeOver 12 = .ok (.getfield 48, 3) from by decide +kernel) rfl (fun x12 => ?_)
    refine sr_icmp_ge (q := 18) C 73 (show decode cX0_wadeOver 15 = .ok (.if_icmp .ge 58, 3) from by decide +kernel) (by decide) rfl ?_ ?_
    · refine sr_iload (i := 4) (q := 75) C (show decode cX0_wadeOver 73 = .ok (.iload 4, 2) from by decide +kernel) rfl rfl ?_
      exact sr_ireturn C _ rfl (show decode cX0_wadeOver 75 = .ok (.ireturn, 1) from by decide +kernel)
    · refine sr_aload_n (i := 1) (q := 19) C (show decode cX0_wadeOver 18 = .ok (.aload_n 1, 1) from by decide +kernel) rfl rfl rfl ?_
      refine sr_getr (q := 22) C fl_X0_21 hv1 (show decode cX0_wadeOver 19 = .ok (.getfield 21, 3) from by decide +kernel) rfl ?_
      refine sr_iload (i := 5) (q := 24) C (show decode cX0_wadeOver 22 = .ok (.iload 5, 2) from by decide +kernel) rfl rfl ?_
      refine sr_cVz (As := [.int v5]) (st := []) (b := lk v1 0) (q := 27) C yvX7_isUnit ml_X0_52 (cnX7_isUnit (xo κ) (lk v1 0) v5 (kt hv1 kp_9_0)) (kt hv1 kp_9_0) (by decide) rfl rfl rfl (by decide) (by decide) (Nat.le_of_ble_eq_true rfl) rfl (show decode cX0_wadeOver 24 = .ok (.invokevirtual 52, 3) from by decide +kernel) rfl (fun x24 => ?_)
      refine sr_if_eq (q := 30) C 67 (show decode cX0_wadeOver 27 = .ok (.ifCond .eq 40, 3) from by decide +kernel) (by decide) rfl ?_ ?_
      · exact slX0_wadeOver_J67 C K6 v0 v1 v2 v3 v4 v5 hv0 hv1
      · refine sr_aload_n (i := 1) (q := 31) C (show decode cX0_wadeOver 30 = .ok (.aload_n 1, 1) from by decide +kernel) rfl rfl rfl ?_
        refine sr_iload (i := 5) (q := 33) C (show decode cX0_wadeOver 31 = .ok (.iload 5, 2) from by decide +kernel) rfl rfl ?_
        refine sr_bipush (v := (98 : Int32)) (q := 35) C (show decode cX0_wadeOver 33 = .ok (.bipush 98, 2) from by decide +kernel) (by decide) rfl ?_
        refine sr_cVz (As := [.int v5, .int (98 : Int32)]) (st := []) (b := v1) (q := 38) C yvX9_isAt ml_X0_15 (cnX9_isAt (xo κ) v1 v5 (98 : Int32) hv1) hv1 (by decide) rfl rfl rfl (by decide) (by decide) (Nat.le_of_ble_eq_true rfl) rfl (show decode cX0_wadeOver 35 = .ok (.invokevirtual 15, 3) from by decide +kernel) rfl (fun x35 => ?_)
        refine sr_if_eq (q := 41) C 67 (show decode cX0_wadeOver 38 = .ok (.ifCond .eq 29, 3) from by decide +kernel) (by decide) rfl ?_ ?_
        · exact slX0_wadeOver_J67 C K6 v0 v1 v2 v3 v4 v5 hv0 hv1
        · refine sr_aload_n (i := 0) (q := 42) C (show decode cX0_wadeOver 41 = .ok (.aload_n 0, 1) from by decide +kernel) rfl rfl rfl ?_
          refine sr_aload_n (i := 1) (q := 43) C (show decode cX0_wadeOver 42 = .ok (.aload_n 1, 1) from by decide +kernel) rfl rfl rfl ?_
          refine sr_iload (i := 5) (q := 45) C (show decode cX0_wadeOver 43 = .ok (.iload 5, 2) from by decide +kernel) rfl rfl ?_
          refine sr_iload_n (i := 2) (q := 46) C (show decode cX0_wadeOver 45 = .ok (.iload_n 2, 1) from by decide +kernel) rfl rfl rfl ?_
          refine sr_iload_n (i := 3) (q := 47) C (show decode cX0_wadeOver 46 = .ok (.iload_n 3, 1) from by decide +kernel) rfl rfl rfl ?_
          refine sr_cVz (As := [xad κ v1, .int v5, .int v2, .int v3]) (st := []) (b := v0) (q := 50) C yvX0_wade ml_X0_66 (cnX0_wade (xo κ) v0 v1 v5 v2 v3 hv0 hv1) hv0 (by decide) rfl rfl rfl (by decide) (by decide) (Nat.le_of_ble_eq_true rfl) rfl (show decode cX0_wadeOver 47 = .ok (.invokevirtual 66, 3) from by decide +kernel) rfl (fun x47 => ?_)
          refine sr_if_eq (q := 53) C 67 (show decode cX0_wadeOver 50 = .ok (.ifCond .eq 17, 3) from by decide +kernel) (by decide) rfl ?_ ?_
          · exact slX0_wadeOver_J67 C K6 v0 v1 v2 v3 v4 v5 hv0 hv1
          · refine sr_iload (i := 4) (q := 55) C (show decode cX0_wadeOver 53 = .ok (.iload 4, 2) from by decide +kernel) rfl rfl ?_
            refine sr_aload_n (i := 1) (q := 56) C (show decode cX0_wadeOver 55 = .ok (.aload_n 1, 1) from by decide +kernel) rfl rfl rfl ?_
            refine sr_getr (q := 59) C fl_X0_21 hv1 (show decode cX0_wadeOver 56 = .ok (.getfield 21, 3) from by decide +kernel) rfl ?_
            refine sr_iload (i := 5) (q := 61) C (show decode cX0_wadeOver 59 = .ok (.iload 5, 2) from by decide +kernel) rfl rfl ?_
            refine sr_cVi (As := [.int v5]) (st := [.int v4]) (b := lk v1 0) (q := 64) C yvX7_peopleOf ml_X0_60 (cnX7_peopleOf (xo κ) (lk v1 0) v5 (kt hv1 kp_9_0)) (kt hv1 kp_9_0) (by decide) rfl rfl rfl (by decide) (by decide) (Nat.le_of_ble_eq_true rfl) rfl (show decode cX0_wadeOver 61 = .ok (.invokevirtual 60, 3) from by decide +kernel) rfl (fun x61 => ?_)
            refine sr_ior (q := 65) C (show decode cX0_wadeOver 64 = .ok (.ior, 1) from by decide +kernel) rfl ?_
            refine sr_nmi (fun y65 => ?_)
            refine sr_istore (i := 4) (L' := [some (xad κ v0), some (xad κ v1), some (.int v2), some (.int v3), some (.int y65), some (.int v5)]) (q := 67) C (show decode cX0_wadeOver 65 = .ok (.istore 4, 2) from by decide +kernel) (by decide) rfl rfl ?_
            exact slX0_wadeOver_J67 C K6 v0 v1 v2 v3 y65 v5 hv0 hv1
def fnX0_wadeOver (v0 : Nat) (v1 : Nat) (v2 : Int32) (v3 : Int32) : sm_M Int32 := fnX0_wadeOver_L6 4096 v0 v1 v2 v3 (0 : Int32) (0 : Int32)
set_option maxHeartbeats 4000000 in
set_option maxRecDepth 100000 in
theorem slX0_wadeOver {κ : sm_X} (C : sm_C κ RX0 cX0_wadeOver 6 6) (v0 : Nat) (v1 : Nat) (v2 : Int32) (v3 : Int32) (hv0 : kd v0 = 0) (hv1 : kd v1 = 9) : sm_S κ (fun r : Int32 => .inr (some (.int r))) (.inl (0, [some (xad κ v0), some (xad κ v1), some (.int v2), some (.int v3), none, none], [])) (fnX0_wadeOver v0 v1 v2 v3) := by
  unfold fnX0_wadeOver
  refine sr_iconst (v := (0 : Int32)) (q := 1) C (show decode cX0_wadeOver 0 = .ok (.iconst 0, 1) from by decide +kernel) (by decide) rfl ?_
  refine sr_istore (i := 4) (L' := [some (xad κ v0), some (xad κ v1), some (.int v2), some (.int v3), some (.int (0 : Int32)), none]) (q := 3) C (show decode cX0_wadeOver 1 = .ok (.istore 4, 2) from by decide +kernel) (by decide) rfl rfl ?_
  refine sr_iconst (v := (0 : Int32)) (q := 4) C (show decode cX0_wadeOver 3 = .ok (.iconst 0, 1) from by decide +kernel) (by decide) rfl ?_
  refine sr_istore (i := 5) (L' := [some (xad κ v0), some (xad κ v1), some (.int v2), some (.int v3), some (.int (0 : Int32)), some (.int (0 : Int32))]) (q := 6) C (show decode cX0_wadeOver 4 = .ok (.istore 5, 2) from by decide +kernel) (by decide) rfl rfl ?_
  exact slX0_wadeOver_L6 C 4096 v0 v1 v2 v3 (0 : Int32) (0 : Int32) hv0 hv1
theorem cnX0_wadeOver (ω : sm_O) (v0 : Nat) (v1 : Nat) (v2 : Int32) (v3 : Int32) (hv0 : kd v0 = 0) (hv1 : kd v1 = 9) : sm_Mt 6 yX0_wadeOver cX0_wadeOver 6 (some .int) ω [.ref (ω.1 + v0), .ref (ω.1 + v1), .int v2, .int v3] (fun a => some (.int a)) (fnX0_wadeOver v0 v1 v2 v3) := by
  refine sm_conI (r := fun a => a) (by decide) (fun _ => rfl) (Nat.le_of_ble_eq_true rfl) ?_
  intro κ hκ C
  subst hκ
  exact slX0_wadeOver C v0 v1 v2 v3 hv0 hv1
def fnX11_isTold (v0 : Nat) : sm_M Bool := m_gi (lk v0 5) 0 fun x4 => m_br (x4 ≤ 0)
    (m_ret false)
    (m_ret true)
set_option maxHeartbeats 4000000 in
set_option maxRecDepth 100000 in
theorem slX11_isTold {κ : sm_X} (C : sm_C κ RX11 cX11_isTold 1 1) (v0 : Nat) (hv0 : kd v0 = 11) : sm_S κ (fun r : Bool => .inr (some (.int (bI r)))) (.inl (0, [some (xad κ v0)], [])) (fnX11_isTold v0) := by
  unfold fnX11_isTold
  refine sr_aload_n (i := 0) (q := 1) C (show decode cX11_isTold 0 = .ok (.aload_n 0, 1) from by decide +kernel) rfl rfl rfl ?_
  refine sr_getr (q := 4) C fl_X11_27 hv0 (show decode cX11_isTold 1 = .ok (.getfield 27, 3) from by decide +kernel) rfl ?_
  refine sr_geti (q := 7) C fl_X11_143 (Or.inl rfl) (kt hv0 kp_11_5) (show decode cX11_isTold 4 = .ok (.getfield 143, 3) from by decide +kernel) rfl (fun x4 => ?_)
  refine sr_if_le (q := 10) C 14 (show decode cX11_isTold 7 = .ok (.ifCond .le 7, 3) from by decide +kernel) (by decide) rfl ?_ ?_
  · refine sr_iconst (v := (0 : Int32)) (q := 15) C (show decode cX11_isTold 14 = .ok (.iconst 0, 1) from by decide +kernel) (by decide) rfl ?_
    exact sr_ireturn C false rfl (show decode cX11_isTold 15 = .ok (.ireturn, 1) from by decide +kernel)
  · refine sr_iconst (v := (1 : Int32)) (q := 11) C (show decode cX11_isTold 10 = .ok (.iconst 1, 1) from by decide +kernel) (by decide) rfl ?_
    refine sr_goto (q := 15) C (show decode cX11_isTold 11 = .ok (.goto 4, 3) from by decide +kernel) (by decide) ?_
    exact sr_ireturn C true rfl (show decode cX11_isTold 15 = .ok (.ireturn, 1) from by decide +kernel)
theorem cnX11_isTold (ω : sm_O) (v0 : Nat) (hv0 : kd v0 = 11) : sm_Mt 1 yX11_isTold cX11_isTold 1 (some .boolean) ω [.ref (ω.1 + v0)] (fun a => some (.int (bI a))) (fnX11_isTold v0) := by
  refine sm_conI (r := bI) (by decide) bI_nar (Nat.le_of_ble_eq_true rfl) ?_
  intro κ hκ C
  subst hκ
  exact slX11_isTold C v0 hv0
def fnX11_isStride (v0 : Nat) (v1 : Int32) : sm_M Bool := m_bnd (fnX11_isTold v0) fun x1 => m_br ((bI x1) = 0)
    (m_ret false)
    (m_br (v1 < (1 : Int32))
    (m_ret false)
    (m_br ((9 : Int32) < v1)
    (m_ret false)
    (m_ret true)))
set_option maxHeartbeats 4000000 in
set_option maxRecDepth 100000 in
theorem slX11_isStride {κ : sm_X} (C : sm_C κ RX11 cX11_isStride 2 2) (v0 : Nat) (v1 : Int32) (hv0 : kd v0 = 11) : sm_S κ (fun r : Bool => .inr (some (.int (bI r)))) (.inl (0, [some (xad κ v0), some (.int v1)], [])) (fnX11_isStride v0 v1) := by
  unfold fnX11_isStride
  refine sr_aload_n (i := 0) (q := 1) C (show decode cX11_isStride 0 = .ok (.aload_n 0, 1) from by decide +kernel) rfl rfl rfl ?_
  refine sr_cVz (As := []) (st := []) (b := v0) (q := 4) C yvX11_isTold ml_X11_303 (cnX11_isTold (xo κ) v0 hv0) hv0 (by decide) rfl rfl rfl (by decide) (by decide) (Nat.le_of_ble_eq_true rfl) rfl (show decode cX11_isStride 1 = .ok (.invokevirtual 303, 3) from by decide +kernel) rfl (fun x1 => ?_)
  refine sr_if_eq (q := 7) C 22 (show decode cX11_isStride 4 = .ok (.ifCond .eq 18, 3) from by decide +kernel) (by decide) rfl ?_ ?_
  · refine sr_iconst (v := (0 : Int32)) (q := 23) C (show decode cX11_isStride 22 = .ok (.iconst 0, 1) from by decide +kernel) (by decide) rfl ?_
    exact sr_ireturn C false rfl (show decode cX11_isStride 23 = .ok (.ireturn, 1) from by decide +kernel)
  · refine sr_iload_n (i := 1) (q := 8) C (show decode cX11_isStride 7 = .ok (.iload_n 1, 1) from by decide +kernel) rfl rfl rfl ?_
    refine sr_iconst (v := (1 : Int32)) (q := 9) C (show decode cX11_isStride 8 = .ok (.iconst 1, 1) from by decide +kernel) (by decide) rfl ?_
    refine sr_icmp_lt (q := 12) C 22 (show decode cX11_isStride 9 = .ok (.if_icmp .lt 13, 3) from by decide +kernel) (by decide) rfl ?_ ?_
    · refine sr_iconst (v := (0 : Int32)) (q := 23) C (show decode cX11_isStride 22 = .ok (.iconst 0, 1) from by decide +kernel) (by decide) rfl ?_
      exact sr_ireturn C false rfl (show decode cX11_isStride 23 = .ok (.ireturn, 1) from by decide +kernel)
    · refine sr_iload_n (i := 1) (q := 13) C (show decode cX11_isStride 12 = .ok (.iload_n 1, 1) from by decide +kernel) rfl rfl rfl ?_
      refine sr_bipush (v := (9 : Int32)) (q := 15) C (show decode cX11_isStride 13 = .ok (.bipush 9, 2) from by decide +kernel) (by decide) rfl ?_
      refine sr_icmp_gt (q := 18) C 22 (show decode cX11_isStride 15 = .ok (.if_icmp .gt 7, 3) from by decide +kernel) (by decide) rfl ?_ ?_
      · refine sr_iconst (v := (0 : Int32)) (q := 23) C (show decode cX11_isStride 22 = .ok (.iconst 0, 1) from by decide +kernel) (by decide) rfl ?_
        exact sr_ireturn C false rfl (show decode cX11_isStride 23 = .ok (.ireturn, 1) from by decide +kernel)
      · refine sr_iconst (v := (1 : Int32)) (q := 19) C (show decode cX11_isStride 18 = .ok (.iconst 1, 1) from by decide +kernel) (by decide) rfl ?_
        refine sr_goto (q := 23) C (show decode cX11_isStride 19 = .ok (.goto 4, 3) from by decide +kernel) (by decide) ?_
        exact sr_ireturn C true rfl (show decode cX11_isStride 23 = .ok (.ireturn, 1) from by decide +kernel)
theorem cnX11_isStride (ω : sm_O) (v0 : Nat) (v1 : Int32) (hv0 : kd v0 = 11) : sm_Mt 2 yX11_isStride cX11_isStride 2 (some .boolean) ω [.ref (ω.1 + v0), .int v1] (fun a => some (.int (bI a))) (fnX11_isStride v0 v1) := by
  refine sm_conI (r := bI) (by decide) bI_nar (Nat.le_of_ble_eq_true rfl) ?_
  intro κ hκ C
  subst hκ
  exact slX11_isStride C v0 v1 hv0
def fnX11_isWay (v0 : Nat) (v1 : Int32) : sm_M Bool := m_bnd (fnX11_isTold v0) fun x1 => m_br ((bI x1) = 0)
    (m_ret false)
    (m_br (v1 < 0)
    (m_ret false)
    (m_br ((4 : Int32) ≤ v1)
    (m_ret false)
    (m_ret true)))
set_option maxHeartbeats 4000000 in
set_option maxRecDepth 100000 in
theorem slX11_isWay {κ : sm_X} (C : sm_C κ RX11 cX11_isWay 2 2) (v0 : Nat) (v1 : Int32) (hv0 : kd v0 = 11) : sm_S κ (fun r : Bool => .inr (some (.int (bI r)))) (.inl (0, [some (xad κ v0), some (.int v1)], [])) (fnX11_isWay v0 v1) := by
  unfold fnX11_isWay
  refine sr_aload_n (i := 0) (q := 1) C (show decode cX11_isWay 0 = .ok (.aload_n 0, 1) from by decide +kernel) rfl rfl rfl ?_
  refine sr_cVz (As := []) (st := []) (b := v0) (q := 4) C yvX11_isTold ml_X11_303 (cnX11_isTold (xo κ) v0 hv0) hv0 (by decide) rfl rfl rfl (by decide) (by decide) (Nat.le_of_ble_eq_true rfl) rfl (show decode cX11_isWay 1 = .ok (.invokevirtual 303, 3) from by decide +kernel) rfl (fun x1 => ?_)
  refine sr_if_eq (q := 7) C 20 (show decode cX11_isWay 4 = .ok (.ifCond .eq 16, 3) from by decide +kernel) (by decide) rfl ?_ ?_
  · refine sr_iconst (v := (0 : Int32)) (q := 21) C (show decode cX11_isWay 20 = .ok (.iconst 0, 1) from by decide +kernel) (by decide) rfl ?_
    exact sr_ireturn C false rfl (show decode cX11_isWay 21 = .ok (.ireturn, 1) from by decide +kernel)
  · refine sr_iload_n (i := 1) (q := 8) C (show decode cX11_isWay 7 = .ok (.iload_n 1, 1) from by decide +kernel) rfl rfl rfl ?_
    refine sr_if_lt (q := 11) C 20 (show decode cX11_isWay 8 = .ok (.ifCond .lt 12, 3) from by decide +kernel) (by decide) rfl ?_ ?_
    · refine sr_iconst (v := (0 : Int32)) (q := 21) C (show decode cX11_isWay 20 = .ok (.iconst 0, 1) from by decide +kernel) (by decide) rfl ?_
      exact sr_ireturn C false rfl (show decode cX11_isWay 21 = .ok (.ireturn, 1) from by decide +kernel)
    · refine sr_iload_n (i := 1) (q := 12) C (show decode cX11_isWay 11 = .ok (.iload_n 1, 1) from by decide +kernel) rfl rfl rfl ?_
      refine sr_iconst (v := (4 : Int32)) (q := 13) C (show decode cX11_isWay 12 = .ok (.iconst 4, 1) from by decide +kernel) (by decide) rfl ?_
      refine sr_icmp_ge (q := 16) C 20 (show decode cX11_isWay 13 = .ok (.if_icmp .ge 7, 3) from by decide +kernel) (by decide) rfl ?_ ?_
      · refine sr_iconst (v := (0 : Int32)) (q := 21) C (show decode cX11_isWay 20 = .ok (.iconst 0, 1) from by decide +kernel) (by decide) rfl ?_
        exact sr_ireturn C false rfl (show decode cX11_isWay 21 = .ok (.ireturn, 1) from by decide +kernel)
      · refine sr_iconst (v := (1 : Int32)) (q := 17) C (show decode cX11_isWay 16 = .ok (.iconst 1, 1) from by decide +kernel) (by decide) rfl ?_
        refine sr_goto (q := 21) C (show decode cX11_isWay 17 = .ok (.goto 4, 3) from by decide +kernel) (by decide) ?_
        exact sr_ireturn C true rfl (show decode cX11_isWay 21 = .ok (.ireturn, 1) from by decide +kernel)
theorem cnX11_isWay (ω : sm_O) (v0 : Nat) (v1 : Int32) (hv0 : kd v0 = 11) : sm_Mt 2 yX11_isWay cX11_isWay 2 (some .boolean) ω [.ref (ω.1 + v0), .int v1] (fun a => some (.int (bI a))) (fnX11_isWay v0 v1) := by
  refine sm_conI (r := bI) (by decide) bI_nar (Nat.le_of_ble_eq_true rfl) ?_
  intro κ hκ C
  subst hκ
  exact slX11_isWay C v0 v1 hv0
def fnX11_isWeight (v0 : Int32) : sm_M Bool := m_br (v0 < (1 : Int32))
    (m_ret false)
    (m_br ((6 : Int32) < v0)
    (m_ret false)
    (m_ret true))
set_option maxHeartbeats 4000000 in
set_option maxRecDepth 100000 in
theorem slX11_isWeight {κ : sm_X} (C : sm_C κ RX11 cX11_isWeight 1 1) (v0 : Int32)  : sm_S κ (fun r : Bool => .inr (some (.int (bI r)))) (.inl (0, [some (.int v0)], [])) (fnX11_isWeight v0) := by
  unfold fnX11_isWeight
  refine sr_iload_n (i := 0) (q := 1) C (show decode cX11_isWeight 0 = .ok (.iload_n 0, 1) from by decide +kernel) rfl rfl rfl ?_
  refine sr_iconst (v := (1 : Int32)) (q := 2) C (show decode cX11_isWeight 1 = .ok (.iconst 1, 1) from by decide +kernel) (by decide) rfl ?_
  refine sr_icmp_lt (q := 5) C 15 (show decode cX11_isWeight 2 = .ok (.if_icmp .lt 13, 3) from by decide +kernel) (by decide) rfl ?_ ?_
  · refine sr_iconst (v := (0 : Int32)) (q := 16) C (show decode cX11_isWeight 15 = .ok (.iconst 0, 1) from by decide +kernel) (by decide) rfl ?_
    exact sr_ireturn C false rfl (show decode cX11_isWeight 16 = .ok (.ireturn, 1) from by decide +kernel)
  · refine sr_iload_n (i := 0) (q := 6) C (show decode cX11_isWeight 5 = .ok (.iload_n 0, 1) from by decide +kernel) rfl rfl rfl ?_
    refine sr_bipush (v := (6 : Int32)) (q := 8) C (show decode cX11_isWeight 6 = .ok (.bipush 6, 2) from by decide +kernel) (by decide) rfl ?_
    refine sr_icmp_gt (q := 11) C 15 (show decode cX11_isWeight 8 = .ok (.if_icmp .gt 7, 3) from by decide +kernel) (by decide) rfl ?_ ?_
    · refine sr_iconst (v := (0 : Int32)) (q := 16) C (show decode cX11_isWeight 15 = .ok (.iconst 0, 1) from by decide +kernel) (by decide) rfl ?_
      exact sr_ireturn C false rfl (show decode cX11_isWeight 16 = .ok (.ireturn, 1) from by decide +kernel)
    · refine sr_iconst (v := (1 : Int32)) (q := 12) C (show decode cX11_isWeight 11 = .ok (.iconst 1, 1) from by decide +kernel) (by decide) rfl ?_
      refine sr_goto (q := 16) C (show decode cX11_isWeight 12 = .ok (.goto 4, 3) from by decide +kernel) (by decide) ?_
      exact sr_ireturn C true rfl (show decode cX11_isWeight 16 = .ok (.ireturn, 1) from by decide +kernel)
theorem cnX11_isWeight (ω : sm_O) (v0 : Int32)  : sm_Mt 1 yX11_isWeight cX11_isWeight 1 (some .boolean) ω [.int v0] (fun a => some (.int (bI a))) (fnX11_isWeight v0) := by
  refine sm_conI (r := bI) (by decide) bI_nar (Nat.le_of_ble_eq_true rfl) ?_
  intro κ hκ C
  subst hκ
  exact slX11_isWeight C v0
def fnX9_takeFrom (v0 : Nat) (v1 : Nat) : sm_M Unit := m_gi v1 1 fun x2 => m_si v0 1 x2 <| m_cpi (lk v1 2) (0 : Int32) (lk v0 2) (0 : Int32) (24 : Int32) <| m_cpi (lk v1 3) (0 : Int32) (lk v0 3) (0 : Int32) (24 : Int32) <| m_cpi (lk v1 4) (0 : Int32) (lk v0 4) (0 : Int32) (8 : Int32) <| m_ret ()
set_option maxHeartbeats 4000000 in
set_option maxRecDepth 100000 in
theorem slX9_takeFrom {κ : sm_X} (C : sm_C κ RX9 cX9_takeFrom 2 1) (v0 : Nat) (v1 : Nat) (hv0 : kd v0 = 9) (hv1 : kd v1 = 9) : sm_S κ (fun _ : Unit => .inr none) (.inl (0, [some (xad κ v0), some (xad κ v1)], [])) (fnX9_takeFrom v0 v1) := by
  unfold fnX9_takeFrom
  refine sr_aload_n (i := 0) (q := 1) C (show decode cX9_takeFrom 0 = .ok (.aload_n 0, 1) from by decide +kernel) rfl rfl rfl ?_
  refine sr_aload_n (i := 1) (q := 2) C (show decode cX9_takeFrom 1 = .ok (.aload_n 1, 1) from by decide +kernel) rfl rfl rfl ?_
  refine sr_geti (q := 5) C fl_X9_31 (Or.inl rfl) hv1 (show decode cX9_takeFrom 2 = .ok (.getfield 31, 3) from by decide +kernel) rfl (fun x2 => ?_)
  refine sr_puti (q := 8) C fp_X9_31 hv0 (show decode cX9_takeFrom 5 = .ok (.putfield 31, 3) from by decide +kernel) rfl ?_
  refine sr_aload_n (i := 1) (q := 9) C (show decode cX9_takeFrom 8 = .ok (.aload_n 1, 1) from by decide +kernel) rfl rfl rfl ?_
  refine sr_getr (q := 12) C fl_X9_9 hv1 (show decode cX9_takeFrom 9 = .ok (.getfield 9, 3) from by decide +kernel) rfl ?_
  refine sr_iconst (v := (0 : Int32)) (q := 13) C (show decode cX9_takeFrom 12 = .ok (.iconst 0, 1) from by decide +kernel) (by decide) rfl ?_
  refine sr_aload_n (i := 0) (q := 14) C (show decode cX9_takeFrom 13 = .ok (.aload_n 0, 1) from by decide +kernel) rfl rfl rfl ?_
  refine sr_getr (q := 17) C fl_X9_9 hv0 (show decode cX9_takeFrom 14 = .ok (.getfield 9, 3) from by decide +kernel) rfl ?_
  refine sr_iconst (v := (0 : Int32)) (q := 18) C (show decode cX9_takeFrom 17 = .ok (.iconst 0, 1) from by decide +kernel) (by decide) rfl ?_
  refine sr_bipush (v := (24 : Int32)) (q := 20) C (show decode cX9_takeFrom 18 = .ok (.bipush 24, 2) from by decide +kernel) (by decide) rfl ?_
  refine sr_copyi (st := []) (q := 23) C ml_X9_35 (kt hv1 kp_9_2) (kt hv0 kp_9_2) (by decide) (by decide) (show decode cX9_takeFrom 20 = .ok (.invokestatic 35, 3) from by decide +kernel) rfl ?_
  refine sr_aload_n (i := 1) (q := 24) C (show decode cX9_takeFrom 23 = .ok (.aload_n 1, 1) from by decide +kernel) rfl rfl rfl ?_
  refine sr_getr (q := 27) C fl_X9_15 hv1 (show decode cX9_takeFrom 24 = .ok (.getfield 15, 3) from by decide +kernel) rfl ?_
  refine sr_iconst (v := (0 : Int32)) (q := 28) C (show decode cX9_takeFrom 27 = .ok (.iconst 0, 1) from by decide +kernel) (by decide) rfl ?_
  refine sr_aload_n (i := 0) (q := 29) C (show decode cX9_takeFrom 28 = .ok (.aload_n 0, 1) from by decide +kernel) rfl rfl rfl ?_
  refine sr_getr (q := 32) C fl_X9_15 hv0 (show decode cX9_takeFrom 29 = .ok (.getfield 15, 3) from by decide +kernel) rfl ?_
  refine sr_iconst (v := (0 : Int32)) (q := 33) C (show decode cX9_takeFrom 32 = .ok (.iconst 0, 1) from by decide +kernel) (by decide) rfl ?_
  refine sr_bipush (v := (24 : Int32)) (q := 35) C (show decode cX9_takeFrom 33 = .ok (.bipush 24, 2) from by decide +kernel) (by decide) rfl ?_
  refine sr_copyi (st := []) (q := 38) C ml_X9_35 (kt hv1 kp_9_3) (kt hv0 kp_9_3) (by decide) (by decide) (show decode cX9_takeFrom 35 = .ok (.invokestatic 35, 3) from by decide +kernel) rfl ?_
  refine sr_aload_n (i := 1) (q := 39) C (show decode cX9_takeFrom 38 = .ok (.aload_n 1, 1) from by decide +kernel) rfl rfl rfl ?_
  refine sr_getr (q := 42) C fl_X9_18 hv1 (show decode cX9_takeFrom 39 = .ok (.getfield 18, 3) from by decide +kernel) rfl ?_
  refine sr_iconst (v := (0 : Int32)) (q := 43) C (show decode cX9_takeFrom 42 = .ok (.iconst 0, 1) from by decide +kernel) (by decide) rfl ?_
  refine sr_aload_n (i := 0) (q := 44) C (show decode cX9_takeFrom 43 = .ok (.aload_n 0, 1) from by decide +kernel) rfl rfl rfl ?_
  refine sr_getr (q := 47) C fl_X9_18 hv0 (show decode cX9_takeFrom 44 = .ok (.getfield 18, 3) from by decide +kernel) rfl ?_
  refine sr_iconst (v := (0 : Int32)) (q := 48) C (show decode cX9_takeFrom 47 = .ok (.iconst 0, 1) from by decide +kernel) (by decide) rfl ?_
  refine sr_bipush (v := (8 : Int32)) (q := 50) C (show decode cX9_takeFrom 48 = .ok (.bipush 8, 2) from by decide +kernel) (by decide) rfl ?_
  refine sr_copyi (st := []) (q := 53) C ml_X9_35 (kt hv1 kp_9_4) (kt hv0 kp_9_4) (by decide) (by decide) (show decode cX9_takeFrom 50 = .ok (.invokestatic 35, 3) from by decide +kernel) rfl ?_
  exact sr_vreturn C _ rfl (show decode cX9_takeFrom 53 = .ok (.return_, 1) from by decide +kernel)
theorem cnX9_takeFrom (ω : sm_O) (v0 : Nat) (v1 : Nat) (hv0 : kd v0 = 9) (hv1 : kd v1 = 9) : sm_Mt 1 yX9_takeFrom cX9_takeFrom 2 none ω [.ref (ω.1 + v0), .ref (ω.1 + v1)] (fun _ => none) (fnX9_takeFrom v0 v1) := by
  refine sm_conV (by decide) (Nat.le_of_ble_eq_true rfl) ?_
  intro κ hκ C
  subst hκ
  exact slX9_takeFrom C v0 v1 hv0 hv1
def fnX11_alike_L55 : Nat → Nat → Int32 → Int32 → Int32 → Int32 → sm_M Int32
  | 0, _, _, _, _, _ => m_fail
  | n + 1, v0, v1, v2, v3, v4 => m_br ((999 : Int32) ≤ v4)
    (m_ret v4)
    (m_bnd (fnX10_seek (lk v0 9) (lk v0 7) v1 v2 v3 (98 : Int32)) fun x76 => m_br (x76 ≤ 0)
    (m_ret v4)
    (m_bnd (fnX10_wear (lk v0 9) (lk v0 7) v2) fun _ => (fnX11_alike_L55 n) v0 v1 v2 v3 (v4 + (1 : Int32))))
set_option maxHeartbeats 4000000 in
set_option maxRecDepth 100000 in
theorem slX11_alike_L55 {κ : sm_X} (C : sm_C κ RX11 cX11_alike 5 5) : ∀ (n : Nat) (v0 : Nat) (v1 : Int32) (v2 : Int32) (v3 : Int32) (v4 : Int32) (hv0 : kd v0 = 11), sm_S κ (fun r : Int32 => .inr (some (.int r))) (.inl (55, [some (xad κ v0), some (.int v1), some (.int v2), some (.int v3), some (.int v4)], [])) (fnX11_alike_L55 n v0 v1 v2 v3 v4) := by
  intro n
  induction n with
  | zero =>
    intros
    exact sr_fail
  | succ n K55 =>
    intro v0 v1 v2 v3 v4 hv0
    unfold fnX11_alike_L55
    refine sr_iload (i := 4) (q := 57) C (show decode cX11_alike 55 = .ok (.iload 4, 2) from by decide +kernel) rfl rfl ?_
    refine sr_sipush (v := (999 : Int32)) (q := 60) C (show decode cX11_alike 57 = .ok (.sipush 999, 3) from by decide +kernel) (by decide) rfl ?_
    refine sr_icmp_ge (q := 63) C 100 (show decode cX11_alike 60 = .ok (.if_icmp .ge 40, 3) from by decide +kernel) (by decide) rfl ?_ ?_
    · refine sr_iload (i := 4) (q := 102) C (show decode cX11_alike 100 = .ok (.iload 4, 2) from by decide +kernel) rfl rfl ?_
      exact sr_ireturn C _ rfl (show decode cX11_alike 102 = .ok (.ireturn, 1) from by decide +kernel)
    · refine sr_aload_n (i := 0) (q := 64) C (show decode cX11_alike 63 = .ok (.aload_n 0, 1) from by decide +kernel) rfl rfl rfl ?_
      refine sr_getr (q := 67) C fl_X11_55 hv0 (show decode cX11_alike 64 = .ok (.getfield 55, 3) from by decide +kernel) rfl ?_
      refine sr_aload_n (i := 0) (q := 68) C (show decode cX11_alike 67 = .ok (.aload_n 0, 1) from by decide +kernel) rfl rfl rfl ?_
      refine sr_getr (q := 71) C fl_X11_40 hv0 (show decode cX11_alike 68 = .ok (.getfield 40, 3) from by decide +kernel) rfl ?_
      refine sr_iload_n (i := 1) (q := 72) C (show decode cX11_alike 71 = .ok (.iload_n 1, 1) from by decide +kernel) rfl rfl rfl ?_
      refine sr_iload_n (i := 2) (q := 73) C (show decode cX11_alike 72 = .ok (.iload_n 2, 1) from by decide +kernel) rfl rfl rfl ?_
      refine sr_iload_n (i := 3) (q := 74) C (show decode cX11_alike 73 = .ok (.iload_n 3, 1) from by decide +kernel) rfl rfl rfl ?_
      refine sr_bipush (v := (98 : Int32)) (q := 76) C (show decode cX11_alike 74 = .ok (.bipush 98, 2) from by decide +kernel) (by decide) rfl ?_
      refine sr_cVi (As := [xad κ (lk v0 7), .int v1, .int v2, .int v3, .int (98 : Int32)]) (st := []) (b := lk v0 9) (q := 79) C yvX10_seek ml_X11_217 (cnX10_seek (xo κ) (lk v0 9) (lk v0 7) v1 v2 v3 (98 : Int32) (kt hv0 kp_11_9) (kt hv0 kp_11_7)) (kt hv0 kp_11_9) (by decide) rfl rfl rfl (by decide) (by decide) (Nat.le_of_ble_eq_true rfl) rfl (show decode cX11_alike 76 = .ok (.invokevirtual 217, 3) from by decide +kernel) rfl (fun x76 => ?_)
      refine sr_if_le (q := 82) C 100 (show decode cX11_alike 79 = .ok (.ifCond .le 21, 3) from by decide +kernel) (by decide) rfl ?_ ?_
      · refine sr_iload (i := 4) (q := 102) C (show decode cX11_alike 100 = .ok (.iload 4, 2) from by decide +kernel) rfl rfl ?_
        exact sr_ireturn C _ rfl (show decode cX11_alike 102 = .ok (.ireturn, 1) from by decide +kernel)
      · refine sr_aload_n (i := 0) (q := 83) C (show decode cX11_alike 82 = .ok (.aload_n 0, 1) from by decide +kernel) rfl rfl rfl ?_
        refine sr_getr (q := 86) C fl_X11_55 hv0 (show decode cX11_alike 83 = .ok (.getfield 55, 3) from by decide +kernel) rfl ?_
        refine sr_aload_n (i := 0) (q := 87) C (show decode cX11_alike 86 = .ok (.aload_n 0, 1) from by decide +kernel) rfl rfl rfl ?_
        refine sr_getr (q := 90) C fl_X11_40 hv0 (show decode cX11_alike 87 = .ok (.getfield 40, 3) from by decide +kernel) rfl ?_
        refine sr_iload_n (i := 2) (q := 91) C (show decode cX11_alike 90 = .ok (.iload_n 2, 1) from by decide +kernel) rfl rfl rfl ?_
        refine sr_cVv (As := [xad κ (lk v0 7), .int v2]) (st := []) (b := lk v0 9) (q := 94) C yvX10_wear ml_X11_325 (cnX10_wear (xo κ) (lk v0 9) (lk v0 7) v2 (kt hv0 kp_11_9) (kt hv0 kp_11_7)) (kt hv0 kp_11_9) (by decide) rfl rfl rfl (by decide) (by decide) (Nat.le_of_ble_eq_true rfl) rfl (show decode cX11_alike 91 = .ok (.invokevirtual 325, 3) from by decide +kernel) rfl (fun _ => ?_)
        refine sr_iinc (v := v4 + (1 : Int32)) (L' := [some (xad κ v0), some (.int v1), some (.int v2), some (.int v3), some (.int (v4 + (1 : Int32)))]) (q := 97) C (show decode cX11_alike 94 = .ok (.iinc 4 1, 3) from by decide +kernel) rfl rfl (by decide) rfl rfl ?_
        refine sr_goto (q := 55) C (show decode cX11_alike 97 = .ok (.goto (-42), 3) from by decide +kernel) (by decide) ?_
        exact K55 v0 v1 v2 v3 (v4 + (1 : Int32)) hv0
def fnX11_alike (v0 : Nat) (v1 : Int32) (v2 : Int32) (v3 : Int32) : sm_M Int32 := m_bnd (fnX11_isStride v0 v1) fun x2 => m_br ((bI x2) = 0)
    (m_ret (-2 : Int32))
    (m_bnd (fnX11_isWeight v2) fun x9 => m_br ((bI x9) = 0)
    (m_ret (-2 : Int32))
    (m_bnd (fnX11_isWay v0 v3) fun x17 => m_br ((bI x17) = 0)
    (m_ret (-2 : Int32))
    (m_gi (lk v0 5) 1 fun x31 => m_br (v1 < x31)
    (m_bnd (fnX9_takeFrom (lk v0 7) (lk v0 6)) fun _ => fnX11_alike_L55 4096 v0 v1 v2 v3 (0 : Int32))
    (m_ret (999 : Int32)))))
set_option maxHeartbeats 4000000 in
set_option maxRecDepth 100000 in
theorem slX11_alike {κ : sm_X} (C : sm_C κ RX11 cX11_alike 5 5) (v0 : Nat) (v1 : Int32) (v2 : Int32) (v3 : Int32) (hv0 : kd v0 = 11) : sm_S κ (fun r : Int32 => .inr (some (.int r))) (.inl (0, [some (xad κ v0), some (.int v1), some (.int v2), some (.int v3), none], [])) (fnX11_alike v0 v1 v2 v3) := by
  unfold fnX11_alike
  refine sr_aload_n (i := 0) (q := 1) C (show decode cX11_alike 0 = .ok (.aload_n 0, 1) from by decide +kernel) rfl rfl rfl ?_
  refine sr_iload_n (i := 1) (q := 2) C (show decode cX11_alike 1 = .ok (.iload_n 1, 1) from by decide +kernel) rfl rfl rfl ?_
  refine sr_cVz (As := [.int v1]) (st := []) (b := v0) (q := 5) C yvX11_isStride ml_X11_187 (cnX11_isStride (xo κ) v0 v1 hv0) hv0 (by decide) rfl rfl rfl (by decide) (by decide) (Nat.le_of_ble_eq_true rfl) rfl (show decode cX11_alike 2 = .ok (.invokevirtual 187, 3) from by decide +kernel) rfl (fun x2 => ?_)
  refine sr_if_eq (q := 8) C 23 (show decode cX11_alike 5 = .ok (.ifCond .eq 18, 3) from by decide +kernel) (by decide) rfl ?_ ?_
  · refine sr_bipush (v := (-2 : Int32)) (q := 25) C (show decode cX11_alike 23 = .ok (.bipush (-2), 2) from by decide +kernel) (by decide) rfl ?_
    exact sr_ireturn C _ rfl (show decode cX11_alike 25 = .ok (.ireturn, 1) from by decide +kernel)
  · refine sr_iload_n (i := 2) (q := 9) C (show decode cX11_alike 8 = .ok (.iload_n 2, 1) from by decide +kernel) rfl rfl rfl ?_
    refine sr_cSz (As := [.int v2]) (st := []) (q := 12) C ysX11_isWeight ml_X11_211 (cnX11_isWeight (xo κ) v2) rfl (by decide) (by decide) (Nat.le_of_ble_eq_true rfl) rfl (show decode cX11_alike 9 = .ok (.invokestatic 211, 3) from by decide +kernel) rfl (fun x9 => ?_)
    refine sr_if_eq (q := 15) C 23 (show decode cX11_alike 12 = .ok (.ifCond .eq 11, 3) from by decide +kernel) (by decide) rfl ?_ ?_
    · refine sr_bipush (v := (-2 : Int32)) (q := 25) C (show decode cX11_alike 23 = .ok (.bipush (-2), 2) from by decide +kernel) (by decide) rfl ?_
      exact sr_ireturn C _ rfl (show decode cX11_alike 25 = .ok (.ireturn, 1) from by decide +kernel)
    · refine sr_aload_n (i := 0) (q := 16) C (show decode cX11_alike 15 = .ok (.aload_n 0, 1) from by decide +kernel) rfl rfl rfl ?_
      refine sr_iload_n (i := 3) (q := 17) C (show decode cX11_alike 16 = .ok (.iload_n 3, 1) from by decide +kernel) rfl rfl rfl ?_
      refine sr_cVz (As := [.int v3]) (st := []) (b := v0) (q := 20) C yvX11_isWay ml_X11_214 (cnX11_isWay (xo κ) v0 v3 hv0) hv0 (by decide) rfl rfl rfl (by decide) (by decide) (Nat.le_of_ble_eq_true rfl) rfl (show decode cX11_alike 17 = .ok (.invokevirtual 214, 3) from by decide +kernel) rfl (fun x17 => ?_)
      refine sr_if_ne (q := 23) C 26 (show decode cX11_alike 20 = .ok (.ifCond .ne 6, 3) from by decide +kernel) (by decide) rfl ?_ ?_
      · refine sr_iload_n (i := 1) (q := 27) C (show decode cX11_alike 26 = .ok (.iload_n 1, 1) from by decide +kernel) rfl rfl rfl ?_
        refine sr_aload_n (i := 0) (q := 28) C (show decode cX11_alike 27 = .ok (.aload_n 0, 1) from by decide +kernel) rfl rfl rfl ?_
        refine sr_getr (q := 31) C fl_X11_27 hv0 (show decode cX11_alike 28 = .ok (.getfield 27, 3) from by decide +kernel) rfl ?_
        refine sr_geti (q := 34) C fl_X11_310 (Or.inl rfl) (kt hv0 kp_11_5) (show decode cX11_alike 31 = .ok (.getfield 310, 3) from by decide +kernel) rfl (fun x31 => ?_)
        refine sr_icmp_lt (q := 37) C 41 (show decode cX11_alike 34 = .ok (.if_icmp .lt 7, 3) from by decide +kernel) (by decide) rfl ?_ ?_
        · refine sr_aload_n (i := 0) (q := 42) C (show decode cX11_alike 41 = .ok (.aload_n 0, 1) from by decide +kernel) rfl rfl rfl ?_
          refine sr_getr (q := 45) C fl_X11_40 hv0 (show decode cX11_alike 42 = .ok (.getfield 40, 3) from by decide +kernel) rfl ?_
          refine sr_aload_n (i := 0) (q := 46) C (show decode cX11_alike 45 = .ok (.aload_n 0, 1) from by decide +kernel) rfl rfl rfl ?_
          refine sr_getr (q := 49) C fl_X11_36 hv0 (show decode cX11_alike 46 = .ok (.getfield 36, 3) from by decide +kernel) rfl ?_
          refine sr_cVv (As := [xad κ (lk v0 6)]) (st := []) (b := lk v0 7) (q := 52) C yvX9_takeFrom ml_X11_239 (cnX9_takeFrom (xo κ) (lk v0 7) (lk v0 6) (kt hv0 kp_11_7) (kt hv0 kp_11_6)) (kt hv0 kp_11_7) (by decide) rfl rfl rfl (by decide) (by decide) (Nat.le_of_ble_eq_true rfl) rfl (show decode cX11_alike 49 = .ok (.invokevirtual 239, 3) from by decide +kernel) rfl (fun _ => ?_)
          refine sr_iconst (v := (0 : Int32)) (q := 53) C (show decode cX11_alike 52 = .ok (.iconst 0, 1) from by decide +kernel) (by decide) rfl ?_
          refine sr_istore (i := 4) (L' := [some (xad κ v0), some (.int v1), some (.int v2), some (.int v3), some (.int (0 : Int32))]) (q := 55) C (show decode cX11_alike 53 = .ok (.istore 4, 2) from by decide +kernel) (by decide) rfl rfl ?_
          exact slX11_alike_L55 C 4096 v0 v1 v2 v3 (0 : Int32) hv0
        · refine sr_sipush (v := (999 : Int32)) (q := 40) C (show decode cX11_alike 37 = .ok (.sipush 999, 3) from by decide +kernel) (by decide) rfl ?_
          exact sr_ireturn C _ rfl (show decode cX11_alike 40 = .ok (.ireturn, 1) from by decide +kernel)
      · refine sr_bipush (v := (-2 : Int32)) (q := 25) C (show decode cX11_alike 23 = .ok (.bipush (-2), 2) from by decide +kernel) (by decide) rfl ?_
        exact sr_ireturn C _ rfl (show decode cX11_alike 25 = .ok (.ireturn, 1) from by decide +kernel)
theorem cnX11_alike (ω : sm_O) (v0 : Nat) (v1 : Int32) (v2 : Int32) (v3 : Int32) (hv0 : kd v0 = 11) : sm_Mt 5 yX11_alike cX11_alike 5 (some .int) ω [.ref (ω.1 + v0), .int v1, .int v2, .int v3] (fun a => some (.int a)) (fnX11_alike v0 v1 v2 v3) := by
  refine sm_conI (r := fun a => a) (by decide) (fun _ => rfl) (Nat.le_of_ble_eq_true rfl) ?_
  intro κ hκ C
  subst hκ
  exact slX11_alike C v0 v1 v2 v3 hv0
def fnX5_forget (v0 : Nat) : sm_M Unit := m_si v0 8 (-1 : Int32) <| m_ret ()
set_option maxHeartbeats 4000000 in
set_option maxRecDepth 100000 in
theorem slX5_forget {κ : sm_X} (C : sm_C κ RX5 cX5_forget 1 1) (v0 : Nat) (hv0 : kd v0 = 5) : sm_S κ (fun _ : Unit => .inr none) (.inl (0, [some (xad κ v0)], [])) (fnX5_forget v0) := by
  unfold fnX5_forget
  refine sr_aload_n (i := 0) (q := 1) C (show decode cX5_forget 0 = .ok (.aload_n 0, 1) from by decide +kernel) rfl rfl rfl ?_
  refine sr_iconst (v := (-1 : Int32)) (q := 2) C (show decode cX5_forget 1 = .ok (.iconst (-1), 1) from by decide +kernel) (by decide) rfl ?_
  refine sr_puti (q := 5) C fp_X5_24 hv0 (show decode cX5_forget 2 = .ok (.putfield 24, 3) from by decide +kernel) rfl ?_
  exact sr_vreturn C _ rfl (show decode cX5_forget 5 = .ok (.return_, 1) from by decide +kernel)
theorem cnX5_forget (ω : sm_O) (v0 : Nat) (hv0 : kd v0 = 5) : sm_Mt 1 yX5_forget cX5_forget 1 none ω [.ref (ω.1 + v0)] (fun _ => none) (fnX5_forget v0) := by
  refine sm_conV (by decide) (Nat.le_of_ble_eq_true rfl) ?_
  intro κ hκ C
  subst hκ
  exact slX5_forget C v0 hv0
def fnX11_all (v0 : Nat) (v1 : Int32) : sm_M Int32 := m_bnd (fnX11_isWay v0 v1) fun x2 => m_br ((bI x2) = 0)
    (m_ret (-2 : Int32))
    (m_bnd (fnX5_forget (lk v0 11)) fun _ => m_bnd (fnX0_sendOver (lk v0 10) (lk v0 6) v1) fun x27 => m_bnd (fnJ6_bitCount_0f7a4 x27) fun x30 => m_ret x30)
set_option maxHeartbeats 4000000 in
set_option maxRecDepth 100000 in
theorem slX11_all {κ : sm_X} (C : sm_C κ RX11 cX11_all 2 7) (v0 : Nat) (v1 : Int32) (hv0 : kd v0 = 11) : sm_S κ (fun r : Int32 => .inr (some (.int r))) (.inl (0, [some (xad κ v0), some (.int v1)], [])) (fnX11_all v0 v1) := by
  unfold fnX11_all
  refine sr_aload_n (i := 0) (q := 1) C (show decode cX11_all 0 = .ok (.aload_n 0, 1) from by decide +kernel) rfl rfl rfl ?_
  refine sr_iload_n (i := 1) (q := 2) C (show decode cX11_all 1 = .ok (.iload_n 1, 1) from by decide +kernel) rfl rfl rfl ?_
  refine sr_cVz (As := [.int v1]) (st := []) (b := v0) (q := 5) C yvX11_isWay ml_X11_214 (cnX11_isWay (xo κ) v0 v1 hv0) hv0 (by decide) rfl rfl rfl (by decide) (by decide) (Nat.le_of_ble_eq_true rfl) rfl (show decode cX11_all 2 = .ok (.invokevirtual 214, 3) from by decide +kernel) rfl (fun x2 => ?_)
  refine sr_if_ne (q := 8) C 11 (show decode cX11_all 5 = .ok (.ifCond .ne 6, 3) from by decide +kernel) (by decide) rfl ?_ ?_
  · refine sr_aload_n (i := 0) (q := 12) C (show decode cX11_all 11 = .ok (.aload_n 0, 1) from by decide +kernel) rfl rfl rfl ?_
    refine sr_getr (q := 15) C fl_X11_73 hv0 (show decode cX11_all 12 = .ok (.getfield 73, 3) from by decide +kernel) rfl ?_
    refine sr_cVv (As := []) (st := []) (b := lk v0 11) (q := 18) C yvX5_forget ml_X11_140 (cnX5_forget (xo κ) (lk v0 11) (kt hv0 kp_11_11)) (kt hv0 kp_11_11) (by decide) rfl rfl rfl (by decide) (by decide) (Nat.le_of_ble_eq_true rfl) rfl (show decode cX11_all 15 = .ok (.invokevirtual 140, 3) from by decide +kernel) rfl (fun _ => ?_)
    refine sr_aload_n (i := 0) (q := 19) C (show decode cX11_all 18 = .ok (.aload_n 0, 1) from by decide +kernel) rfl rfl rfl ?_
    refine sr_getr (q := 22) C fl_X11_64 hv0 (show decode cX11_all 19 = .ok (.getfield 64, 3) from by decide +kernel) rfl ?_
    refine sr_aload_n (i := 0) (q := 23) C (show decode cX11_all 22 = .ok (.aload_n 0, 1) from by decide +kernel) rfl rfl rfl ?_
    refine sr_getr (q := 26) C fl_X11_36 hv0 (show decode cX11_all 23 = .ok (.getfield 36, 3) from by decide +kernel) rfl ?_
    refine sr_iload_n (i := 1) (q := 27) C (show decode cX11_all 26 = .ok (.iload_n 1, 1) from by decide +kernel) rfl rfl rfl ?_
    refine sr_cVi (As := [xad κ (lk v0 6), .int v1]) (st := []) (b := lk v0 10) (q := 30) C yvX0_sendOver ml_X11_279 (cnX0_sendOver (xo κ) (lk v0 10) (lk v0 6) v1 (kt hv0 kp_11_10) (kt hv0 kp_11_6)) (kt hv0 kp_11_10) (by decide) rfl rfl rfl (by decide) (by decide) (Nat.le_of_ble_eq_true rfl) rfl (show decode cX11_all 27 = .ok (.invokevirtual 279, 3) from by decide +kernel) rfl (fun x27 => ?_)
    refine sr_cSi (As := [.int x27]) (st := []) (q := 33) C ysJ6_bitCount_0f7a4 ml_X11_268 (cnJ6_bitCount_0f7a4 (xo κ) x27) rfl (by decide) (by decide) (Nat.le_of_ble_eq_true rfl) rfl (show decode cX11_all 30 = .ok (.invokestatic 268, 3) from by decide +kernel) rfl (fun x30 => ?_)
    exact sr_ireturn C _ rfl (show decode cX11_all 33 = .ok (.ireturn, 1) from by decide +kernel)
  · refine sr_bipush (v := (-2 : Int32)) (q := 10) C (show decode cX11_all 8 = .ok (.bipush (-2), 2) from by decide +kernel) (by decide) rfl ?_
    exact sr_ireturn C _ rfl (show decode cX11_all 10 = .ok (.ireturn, 1) from by decide +kernel)
theorem cnX11_all (ω : sm_O) (v0 : Nat) (v1 : Int32) (hv0 : kd v0 = 11) : sm_Mt 7 yX11_all cX11_all 2 (some .int) ω [.ref (ω.1 + v0), .int v1] (fun a => some (.int a)) (fnX11_all v0 v1) := by
  refine sm_conI (r := fun a => a) (by decide) (fun _ => rfl) (Nat.le_of_ble_eq_true rfl) ?_
  intro κ hκ C
  subst hκ
  exact slX11_all C v0 v1 hv0
def fnX11_isImage (v0 : Int32) : sm_M Bool := m_br (v0 < 0)
    (m_ret false)
    (m_br ((3 : Int32) ≤ v0)
    (m_ret false)
    (m_ret true))
set_option maxHeartbeats 4000000 in
set_option maxRecDepth 100000 in
theorem slX11_isImage {κ : sm_X} (C : sm_C κ RX11 cX11_isImage 1 1) (v0 : Int32)  : sm_S κ (fun r : Bool => .inr (some (.int (bI r)))) (.inl (0, [some (.int v0)], [])) (fnX11_isImage v0) := by
  unfold fnX11_isImage
  refine sr_iload_n (i := 0) (q := 1) C (show decode cX11_isImage 0 = .ok (.iload_n 0, 1) from by decide +kernel) rfl rfl rfl ?_
  refine sr_if_lt (q := 4) C 13 (show decode cX11_isImage 1 = .ok (.ifCond .lt 12, 3) from by decide +kernel) (by decide) rfl ?_ ?_
  · refine sr_iconst (v := (0 : Int32)) (q := 14) C (show decode cX11_isImage 13 = .ok (.iconst 0, 1) from by decide +kernel) (by decide) rfl ?_
    exact sr_ireturn C false rfl (show decode cX11_isImage 14 = .ok (.ireturn, 1) from by decide +kernel)
  · refine sr_iload_n (i := 0) (q := 5) C (show decode cX11_isImage 4 = .ok (.iload_n 0, 1) from by decide +kernel) rfl rfl rfl ?_
    refine sr_iconst (v := (3 : Int32)) (q := 6) C (show decode cX11_isImage 5 = .ok (.iconst 3, 1) from by decide +kernel) (by decide) rfl ?_
    refine sr_icmp_ge (q := 9) C 13 (show decode cX11_isImage 6 = .ok (.if_icmp .ge 7, 3) from by decide +kernel) (by decide) rfl ?_ ?_
    · refine sr_iconst (v := (0 : Int32)) (q := 14) C (show decode cX11_isImage 13 = .ok (.iconst 0, 1) from by decide +kernel) (by decide) rfl ?_
      exact sr_ireturn C false rfl (show decode cX11_isImage 14 = .ok (.ireturn, 1) from by decide +kernel)
    · refine sr_iconst (v := (1 : Int32)) (q := 10) C (show decode cX11_isImage 9 = .ok (.iconst 1, 1) from by decide +kernel) (by decide) rfl ?_
      refine sr_goto (q := 14) C (show decode cX11_isImage 10 = .ok (.goto 4, 3) from by decide +kernel) (by decide) ?_
      exact sr_ireturn C true rfl (show decode cX11_isImage 14 = .ok (.ireturn, 1) from by decide +kernel)
theorem cnX11_isImage (ω : sm_O) (v0 : Int32)  : sm_Mt 1 yX11_isImage cX11_isImage 1 (some .boolean) ω [.int v0] (fun a => some (.int (bI a))) (fnX11_isImage v0) := by
  refine sm_conI (r := bI) (by decide) bI_nar (Nat.le_of_ble_eq_true rfl) ?_
  intro κ hκ C
  subst hκ
  exact slX11_isImage C v0
def fnX3_link_L4 : Nat → Nat → Int32 → Int32 → Int32 → Int32 → sm_M Unit
  | 0, _, _, _, _, _ => m_fail
  | n + 1, v0, v1, v2, v3, v4 => m_br (v4 ≤ 0)
    (m_ret ())
    (m_br ((v4 * v4) < v3)
    (m_ret ())
    (m_ai (lk v0 2) ((v4 * (24 : Int32)) + v1) fun x30 => m_sai (lk v0 2) ((v4 * (24 : Int32)) + v1) (x30 ||| ((1 : Int32) <<< (v2 &&& 31))) <| m_ai (lk v0 2) ((v4 * (24 : Int32)) + v2) fun x48 => m_sai (lk v0 2) ((v4 * (24 : Int32)) + v2) (x48 ||| ((1 : Int32) <<< (v1 &&& 31))) <| (fnX3_link_L4 n) v0 v1 v2 v3 (v4 + (-1 : Int32))))
set_option maxHeartbeats 4000000 in
set_option maxRecDepth 100000 in
theorem slX3_link_L4 {κ : sm_X} (C : sm_C κ RX3 cX3_link 5 1) : ∀ (n : Nat) (v0 : Nat) (v1 : Int32) (v2 : Int32) (v3 : Int32) (v4 : Int32) (hv0 : kd v0 = 3), sm_S κ (fun _ : Unit => .inr none) (.inl (4, [some (xad κ v0), some (.int v1), some (.int v2), some (.int v3), some (.int v4)], [])) (fnX3_link_L4 n v0 v1 v2 v3 v4) := by
  intro n
  induction n with
  | zero =>
    intros
    exact sr_fail
  | succ n K4 =>
    intro v0 v1 v2 v3 v4 hv0
    unfold fnX3_link_L4
    refine sr_iload (i := 4) (q := 6) C (show decode cX3_link 4 = .ok (.iload 4, 2) from by decide +kernel) rfl rfl ?_
    refine sr_if_le (q := 9) C 60 (show decode cX3_link 6 = .ok (.ifCond .le 54, 3) from by decide +kernel) (by decide) rfl ?_ ?_
    · exact sr_vreturn C _ rfl (show decode cX3_link 60 = .ok (.return_, 1) from by decide +kernel)
    · refine sr_iload (i := 4) (q := 11) C (show decode cX3_link 9 = .ok (.iload 4, 2) from by decide +kernel) rfl rfl ?_
      refine sr_iload (i := 4) (q := 13) C (show decode cX3_link 11 = .ok (.iload 4, 2) from by decide +kernel) rfl rfl ?_
      refine sr_imul (q := 14) C (show decode cX3_link 13 = .ok (.imul, 1) from by decide +kernel) rfl ?_
      refine sr_iload_n (i := 3) (q := 15) C (show decode cX3_link 14 = .ok (.iload_n 3, 1) from by decide +kernel) rfl rfl rfl ?_
      refine sr_icmp_lt (q := 18) C 60 (show decode cX3_link 15 = .ok (.if_icmp .lt 45, 3) from by decide +kernel) (by decide) rfl ?_ ?_
      · exact sr_vreturn C _ rfl (show decode cX3_link 60 = .ok (.return_, 1) from by decide +kernel)
      · refine sr_aload_n (i := 0) (q := 19) C (show decode cX3_link 18 = .ok (.aload_n 0, 1) from by decide +kernel) rfl rfl rfl ?_
        refine sr_getr (q := 22) C fl_X3_18 hv0 (show decode cX3_link 19 = .ok (.getfield 18, 3) from by decide +kernel) rfl ?_
        refine sr_iload (i := 4) (q := 24) C (show decode cX3_link 22 = .ok (.iload 4, 2) from by decide +kernel) rfl rfl ?_
        refine sr_bipush (v := (24 : Int32)) (q := 26) C (show decode cX3_link 24 = .ok (.bipush 24, 2) from by decide +kernel) (by decide) rfl ?_
        refine sr_imul (q := 27) C (show decode cX3_link 26 = .ok (.imul, 1) from by decide +kernel) rfl ?_
        refine sr_iload_n (i := 1) (q := 28) C (show decode cX3_link 27 = .ok (.iload_n 1, 1) from by decide +kernel) rfl rfl rfl ?_
        refine sr_iadd (q := 29) C (show decode cX3_link 28 = .ok (.iadd, 1) from by decide +kernel) rfl ?_
        refine sr_dup2 (q := 30) C (show decode cX3_link 29 = .ok (.dup2, 1) from by decide +kernel) rfl rfl rfl ?_
        refine sr_iaload (q := 31) C (kt hv0 kp_3_2) (show decode cX3_link 30 = .ok (.iaload, 1) from by decide +kernel) rfl (fun x30 => ?_)
        refine sr_iconst (v := (1 : Int32)) (q := 32) C (show decode cX3_link 31 = .ok (.iconst 1, 1) from by decide +kernel) (by decide) rfl ?_
        refine sr_iload_n (i := 2) (q := 33) C (show decode cX3_link 32 = .ok (.iload_n 2, 1) from by decide +kernel) rfl rfl rfl ?_
        refine sr_ishl (q := 34) C (show decode cX3_link 33 = .ok (.ishl, 1) from by decide +kernel) rfl ?_
        refine sr_ior (q := 35) C (show decode cX3_link 34 = .ok (.ior, 1) from by decide +kernel) rfl ?_
        refine sr_iastore (q := 36) C (kt hv0 kp_3_2) (show decode cX3_link 35 = .ok (.iastore, 1) from by decide +kernel) rfl ?_
        refine sr_aload_n (i := 0) (q := 37) C (show decode cX3_link 36 = .ok (.aload_n 0, 1) from by decide +kernel) rfl rfl rfl ?_
        refine sr_getr (q := 40) C fl_X3_18 hv0 (show decode cX3_link 37 = .ok (.getfield 18, 3) from by decide +kernel) rfl ?_
        refine sr_iload (i := 4) (q := 42) C (show decode cX3_link 40 = .ok (.iload 4, 2) from by decide +kernel) rfl rfl ?_
        refine sr_bipush (v := (24 : Int32)) (q := 44) C (show decode cX3_link 42 = .ok (.bipush 24, 2) from by decide +kernel) (by decide) rfl ?_
        refine sr_imul (q := 45) C (show decode cX3_link 44 = .ok (.imul, 1) from by decide +kernel) rfl ?_
        refine sr_iload_n (i := 2) (q := 46) C (show decode cX3_link 45 = .ok (.iload_n 2, 1) from by decide +kernel) rfl rfl rfl ?_
        refine sr_iadd (q := 47) C (show decode cX3_link 46 = .ok (.iadd, 1) from by decide +kernel) rfl ?_
        refine sr_dup2 (q := 48) C (show decode cX3_link 47 = .ok (.dup2, 1) from by decide +kernel) rfl rfl rfl ?_
        refine sr_iaload (q := 49) C (kt hv0 kp_3_2) (show decode cX3_link 48 = .ok (.iaload, 1) from by decide +kernel) rfl (fun x48 => ?_)
        refine sr_iconst (v := (1 : Int32)) (q := 50) C (show decode cX3_link 49 = .ok (.iconst 1, 1) from by decide +kernel) (by decide) rfl ?_
        refine sr_iload_n (i := 1) (q := 51) C (show decode cX3_link 50 = .ok (.iload_n 1, 1) from by decide +kernel) rfl rfl rfl ?_
        refine sr_ishl (q := 52) C (show decode cX3_link 51 = .ok (.ishl, 1) from by decide +kernel) rfl ?_
        refine sr_ior (q := 53) C (show decode cX3_link 52 = .ok (.ior, 1) from by decide +kernel) rfl ?_
        refine sr_iastore (q := 54) C (kt hv0 kp_3_2) (show decode cX3_link 53 = .ok (.iastore, 1) from by decide +kernel) rfl ?_
        refine sr_iinc (v := v4 + (-1 : Int32)) (L' := [some (xad κ v0), some (.int v1), some (.int v2), some (.int v3), some (.int (v4 + (-1 : Int32)))]) (q := 57) C (show decode cX3_link 54 = .ok (.iinc 4 (-1), 3) from by decide +kernel) rfl rfl (by decide) rfl rfl ?_
        refine sr_goto (q := 4) C (show decode cX3_link 57 = .ok (.goto (-53), 3) from by decide +kernel) (by decide) ?_
        exact K4 v0 v1 v2 v3 (v4 + (-1 : Int32)) hv0
def fnX3_link (v0 : Nat) (v1 : Int32) (v2 : Int32) (v3 : Int32) : sm_M Unit := fnX3_link_L4 4096 v0 v1 v2 v3 (9 : Int32)
set_option maxHeartbeats 4000000 in
set_option maxRecDepth 100000 in
theorem slX3_link {κ : sm_X} (C : sm_C κ RX3 cX3_link 5 1) (v0 : Nat) (v1 : Int32) (v2 : Int32) (v3 : Int32) (hv0 : kd v0 = 3) : sm_S κ (fun _ : Unit => .inr none) (.inl (0, [some (xad κ v0), some (.int v1), some (.int v2), some (.int v3), none], [])) (fnX3_link v0 v1 v2 v3) := by
  unfold fnX3_link
  refine sr_bipush (v := (9 : Int32)) (q := 2) C (show decode cX3_link 0 = .ok (.bipush 9, 2) from by decide +kernel) (by decide) rfl ?_
  refine sr_istore (i := 4) (L' := [some (xad κ v0), some (.int v1), some (.int v2), some (.int v3), some (.int (9 : Int32))]) (q := 4) C (show decode cX3_link 2 = .ok (.istore 4, 2) from by decide +kernel) (by decide) rfl rfl ?_
  exact slX3_link_L4 C 4096 v0 v1 v2 v3 (9 : Int32) hv0
theorem cnX3_link (ω : sm_O) (v0 : Nat) (v1 : Int32) (v2 : Int32) (v3 : Int32) (hv0 : kd v0 = 3) : sm_Mt 1 yX3_link cX3_link 5 none ω [.ref (ω.1 + v0), .int v1, .int v2, .int v3] (fun _ => none) (fnX3_link v0 v1 v2 v3) := by
  refine sm_conV (by decide) (Nat.le_of_ble_eq_true rfl) ?_
  intro κ hκ C
  subst hκ
  exact slX3_link C v0 v1 v2 v3 hv0
def fnX7_across (v0 : Nat) (v1 : Int32) : sm_M Int32 := m_br (v1 = (98 : Int32))
    (m_ret (0 : Int32))
    (m_br (v1 = (99 : Int32))
    (m_gi v0 1 fun x15 => m_ret x15)
    (m_ai (lk v0 9) v1 fun x26 => m_ret x26))
set_option maxHeartbeats 4000000 in
set_option maxRecDepth 100000 in
theorem slX7_across {κ : sm_X} (C : sm_C κ RX7 cX7_across 2 1) (v0 : Nat) (v1 : Int32) (hv0 : kd v0 = 7) : sm_S κ (fun r : Int32 => .inr (some (.int r))) (.inl (0, [some (xad κ v0), some (.int v1)], [])) (fnX7_across v0 v1) := by
  unfold fnX7_across
  refine sr_iload_n (i := 1) (q := 1) C (show decode cX7_across 0 = .ok (.iload_n 1, 1) from by decide +kernel) rfl rfl rfl ?_
  refine sr_bipush (v := (98 : Int32)) (q := 3) C (show decode cX7_across 1 = .ok (.bipush 98, 2) from by decide +kernel) (by decide) rfl ?_
  refine sr_icmp_ne (q := 6) C 8 (show decode cX7_across 3 = .ok (.if_icmp .ne 5, 3) from by decide +kernel) (by decide) rfl ?_ ?_
  · refine sr_iload_n (i := 1) (q := 9) C (show decode cX7_across 8 = .ok (.iload_n 1, 1) from by decide +kernel) rfl rfl rfl ?_
    refine sr_bipush (v := (99 : Int32)) (q := 11) C (show decode cX7_across 9 = .ok (.bipush 99, 2) from by decide +kernel) (by decide) rfl ?_
    refine sr_icmp_ne (q := 14) C 21 (show decode cX7_across 11 = .ok (.if_icmp .ne 10, 3) from by decide +kernel) (by decide) rfl ?_ ?_
    · refine sr_aload_n (i := 0) (q := 22) C (show decode cX7_across 21 = .ok (.aload_n 0, 1) from by decide +kernel) rfl rfl rfl ?_
      refine sr_getr (q := 25) C fl_X7_15 hv0 (show decode cX7_across 22 = .ok (.getfield 15, 3) from by decide +kernel) rfl ?_
      refine sr_iload_n (i := 1) (q := 26) C (show decode cX7_across 25 = .ok (.iload_n 1, 1) from by decide +kernel) rfl rfl rfl ?_
      refine sr_iaload (q := 27) C (kt hv0 kp_7_9) (show decode cX7_across 26 = .ok (.iaload, 1) from by decide +kernel) rfl (fun x26 => ?_)
      exact sr_ireturn C _ rfl (show decode cX7_across 27 = .ok (.ireturn, 1) from by decide +kernel)
    · refine sr_aload_n (i := 0) (q := 15) C (show decode cX7_across 14 = .ok (.aload_n 0, 1) from by decide +kernel) rfl rfl rfl ?_
      refine sr_geti (q := 18) C fl_X7_43 (Or.inl rfl) hv0 (show decode cX7_across 15 = .ok (.getfield 43, 3) from by decide +kernel) rfl (fun x15 => ?_)
      refine sr_goto (q := 27) C (show decode cX7_across 18 = .ok (.goto 9, 3) from by decide +kernel) (by decide) ?_
      exact sr_ireturn C _ rfl (show decode cX7_across 27 = .ok (.ireturn, 1) from by decide +kernel)
  · refine sr_iconst (v := (0 : Int32)) (q := 7) C (show decode cX7_across 6 = .ok (.iconst 0, 1) from by decide +kernel) (by decide) rfl ?_
    exact sr_ireturn C _ rfl (show decode cX7_across 7 = .ok (.ireturn, 1) from by decide +kernel)
theorem cnX7_across (ω : sm_O) (v0 : Nat) (v1 : Int32) (hv0 : kd v0 = 7) : sm_Mt 1 yX7_across cX7_across 2 (some .int) ω [.ref (ω.1 + v0), .int v1] (fun a => some (.int a)) (fnX7_across v0 v1) := by
  refine sm_conI (r := fun a => a) (by decide) (fun _ => rfl) (Nat.le_of_ble_eq_true rfl) ?_
  intro κ hκ C
  subst hκ
  exact slX7_across C v0 v1 hv0
def fnX7_square_J29 (v0 : Nat) (v1 : Int32) (v2 : Int32) (s0 : Int32) : sm_M Int32 := m_bnd (fnX7_across v0 v1) fun x32 => m_bnd (fnX7_across v0 v2) fun x37 => m_nm (x32 - x37) fun y41 => m_ret ((s0 * s0) + (y41 * y41))
set_option maxHeartbeats 4000000 in
set_option maxRecDepth 100000 in
theorem slX7_square_J29 {κ : sm_X} (C : sm_C κ RX7 cX7_square 5 2) (v0 : Nat) (v1 : Int32) (v2 : Int32) (s0 : Int32) (hv0 : kd v0 = 7) : sm_S κ (fun r : Int32 => .inr (some (.int r))) (.inl (29, [some (xad κ v0), some (.int v1), some (.int v2), none, none], [.int s0])) (fnX7_square_J29 v0 v1 v2 s0) := by
  unfold fnX7_square_J29
  refine sr_istore_n (i := 3) (L' := [some (xad κ v0), some (.int v1), some (.int v2), some (.int s0), none]) (q := 30) C (show decode cX7_square 29 = .ok (.istore_n 3, 1) from by decide +kernel) rfl (by decide) rfl rfl ?_
  refine sr_aload_n (i := 0) (q := 31) C (show decode cX7_square 30 = .ok (.aload_n 0, 1) from by decide +kernel) rfl rfl rfl ?_
  refine sr_iload_n (i := 1) (q := 32) C (show decode cX7_square 31 = .ok (.iload_n 1, 1) from by decide +kernel) rfl rfl rfl ?_
  refine sr_cVi (As := [.int v1]) (st := []) (b := v0) (q := 35) C yvX7_across ml_X7_70 (cnX7_across (xo κ) v0 v1 hv0) hv0 (by decide) rfl rfl rfl (by decide) (by decide) (Nat.le_of_ble_eq_true rfl) rfl (show decode cX7_square 32 = .ok (.invokevirtual 70, 3) from by decide +kernel) rfl (fun x32 => ?_)
  refine sr_aload_n (i := 0) (q := 36) C (show decode cX7_square 35 = .ok (.aload_n 0, 1) from by decide +kernel) rfl rfl rfl ?_
  refine sr_iload_n (i := 2) (q := 37) C (show decode cX7_square 36 = .ok (.iload_n 2, 1) from by decide +kernel) rfl rfl rfl ?_
  refine sr_cVi (As := [.int v2]) (st := [.int x32]) (b := v0) (q := 40) C yvX7_across ml_X7_70 (cnX7_across (xo κ) v0 v2 hv0) hv0 (by decide) rfl rfl rfl (by decide) (by decide) (Nat.le_of_ble_eq_true rfl) rfl (show decode cX7_square 37 = .ok (.invokevirtual 70, 3) from by decide +kernel) rfl (fun x37 => ?_)
  refine sr_isub (q := 41) C (show decode cX7_square 40 = .ok (.isub, 1) from by decide +kernel) rfl ?_
  refine sr_nmi (fun y41 => ?_)
  refine sr_istore (i := 4) (L' := [some (xad κ v0), some (.int v1), some (.int v2), some (.int s0), some (.int y41)]) (q := 43) C (show decode cX7_square 41 = .ok (.istore 4, 2) from by decide +kernel) (by decide) rfl rfl ?_
  refine sr_iload_n (i := 3) (q := 44) C (show decode cX7_square 43 = .ok (.iload_n 3, 1) from by decide +kernel) rfl rfl rfl ?_
  refine sr_iload_n (i := 3) (q := 45) C (show decode cX7_square 44 = .ok (.iload_n 3, 1) from by decide +kernel) rfl rfl rfl ?_
  refine sr_imul (q := 46) C (show decode cX7_square 45 = .ok (.imul, 1) from by decide +kernel) rfl ?_
  refine sr_iload (i := 4) (q := 48) C (show decode cX7_square 46 = .ok (.iload 4, 2) from by decide +kernel) rfl rfl ?_
  refine sr_iload (i := 4) (q := 50) C (show decode cX7_square 48 = .ok (.iload 4, 2) from by decide +kernel) rfl rfl ?_
  refine sr_imul (q := 51) C (show decode cX7_square 50 = .ok (.imul, 1) from by decide +kernel) rfl ?_
  refine sr_iadd (q := 52) C (show decode cX7_square 51 = .ok (.iadd, 1) from by decide +kernel) rfl ?_
  exact sr_ireturn C _ rfl (show decode cX7_square 52 = .ok (.ireturn, 1) from by decide +kernel)
def fnX7_square_J28 (v0 : Nat) (v1 : Int32) (v2 : Int32) : sm_M Int32 := fnX7_square_J29 v0 v1 v2 (0 : Int32)
set_option maxHeartbeats 4000000 in
set_option maxRecDepth 100000 in
theorem slX7_square_J28 {κ : sm_X} (C : sm_C κ RX7 cX7_square 5 2) (v0 : Nat) (v1 : Int32) (v2 : Int32) (hv0 : kd v0 = 7) : sm_S κ (fun r : Int32 => .inr (some (.int r))) (.inl (28, [some (xad κ v0), some (.int v1), some (.int v2), none, none], [])) (fnX7_square_J28 v0 v1 v2) := by
  unfold fnX7_square_J28
  refine sr_iconst (v := (0 : Int32)) (q := 29) C (show decode cX7_square 28 = .ok (.iconst 0, 1) from by decide +kernel) (by decide) rfl ?_
  exact slX7_square_J29 C v0 v1 v2 (0 : Int32) hv0
def fnX7_square (v0 : Nat) (v1 : Int32) (v2 : Int32) : sm_M Int32 := m_br ((24 : Int32) ≤ v1)
    (fnX7_square_J28 v0 v1 v2)
    (m_br ((24 : Int32) ≤ v2)
    (fnX7_square_J28 v0 v1 v2)
    (m_ai (lk v0 8) v1 fun x17 => m_ai (lk v0 8) v2 fun x23 => fnX7_square_J29 v0 v1 v2 (x17 - x23)))
set_option maxHeartbeats 4000000 in
set_option maxRecDepth 100000 in
theorem slX7_square {κ : sm_X} (C : sm_C κ RX7 cX7_square 5 2) (v0 : Nat) (v1 : Int32) (v2 : Int32) (hv0 : kd v0 = 7) : sm_S κ (fun r : Int32 => .inr (some (.int r))) (.inl (0, [some (xad κ v0), some (.int v1), some (.int v2), none, none], [])) (fnX7_square v0 v1 v2) := by
  unfold fnX7_square
  refine sr_iload_n (i := 1) (q := 1) C (show decode cX7_square 0 = .ok (.iload_n 1, 1) from by decide +kernel) rfl rfl rfl ?_
  refine sr_bipush (v := (24 : Int32)) (q := 3) C (show decode cX7_square 1 = .ok (.bipush 24, 2) from by decide +kernel) (by decide) rfl ?_
  refine sr_icmp_ge (q := 6) C 28 (show decode cX7_square 3 = .ok (.if_icmp .ge 25, 3) from by decide +kernel) (by decide) rfl ?_ ?_
  · exact slX7_square_J28 C v0 v1 v2 hv0
  · refine sr_iload_n (i := 2) (q := 7) C (show decode cX7_square 6 = .ok (.iload_n 2, 1) from by decide +kernel) rfl rfl rfl ?_
    refine sr_bipush (v := (24 : Int32)) (q := 9) C (show decode cX7_square 7 = .ok (.bipush 24, 2) from by decide +kernel) (by decide) rfl ?_
    refine sr_icmp_ge (q := 12) C 28 (show decode cX7_square 9 = .ok (.if_icmp .ge 19, 3) from by decide +kernel) (by decide) rfl ?_ ?_
    · exact slX7_square_J28 C v0 v1 v2 hv0
    · refine sr_aload_n (i := 0) (q := 13) C (show decode cX7_square 12 = .ok (.aload_n 0, 1) from by decide +kernel) rfl rfl rfl ?_
      refine sr_getr (q := 16) C fl_X7_9 hv0 (show decode cX7_square 13 = .ok (.getfield 9, 3) from by decide +kernel) rfl ?_
      refine sr_iload_n (i := 1) (q := 17) C (show decode cX7_square 16 = .ok (.iload_n 1, 1) from by decide +kernel) rfl rfl rfl ?_
      refine sr_iaload (q := 18) C (kt hv0 kp_7_8) (show decode cX7_square 17 = .ok (.iaload, 1) from by decide +kernel) rfl (fun x17 => ?_)
      refine sr_aload_n (i := 0) (q := 19) C (show decode cX7_square 18 = .ok (.aload_n 0, 1) from by decide +kernel) rfl rfl rfl ?_
      refine sr_getr (q := 22) C fl_X7_9 hv0 (show decode cX7_square 19 = .ok (.getfield 9, 3) from by decide +kernel) rfl ?_
      refine sr_iload_n (i := 2) (q := 23) C (show decode cX7_square 22 = .ok (.iload_n 2, 1) from by decide +kernel) rfl rfl rfl ?_
      refine sr_iaload (q := 24) C (kt hv0 kp_7_8) (show decode cX7_square 23 = .ok (.iaload, 1) from by decide +kernel) rfl (fun x23 => ?_)
      refine sr_isub (q := 25) C (show decode cX7_square 24 = .ok (.isub, 1) from by decide +kernel) rfl ?_
      refine sr_goto (q := 29) C (show decode cX7_square 25 = .ok (.goto 4, 3) from by decide +kernel) (by decide) ?_
      exact slX7_square_J29 C v0 v1 v2 (x17 - x23) hv0
theorem cnX7_square (ω : sm_O) (v0 : Nat) (v1 : Int32) (v2 : Int32) (hv0 : kd v0 = 7) : sm_Mt 2 yX7_square cX7_square 5 (some .int) ω [.ref (ω.1 + v0), .int v1, .int v2] (fun a => some (.int a)) (fnX7_square v0 v1 v2) := by
  refine sm_conI (r := fun a => a) (by decide) (fun _ => rfl) (Nat.le_of_ble_eq_true rfl) ?_
  intro κ hκ C
  subst hκ
  exact slX7_square C v0 v1 v2 hv0
def fnX3_lay_J136 (k26 : Nat → Nat → Int32 → sm_M Unit) (v0 : Nat) (v1 : Nat) (v2 : Int32) : sm_M Unit := k26 v0 v1 (v2 + (1 : Int32))
set_option maxHeartbeats 4000000 in
set_option maxRecDepth 100000 in
theorem slX3_lay_J136 {κ : sm_X} (C : sm_C κ RX3 cX3_lay 5 3) {k26 : Nat → Nat → Int32 → sm_M Unit} (K26 : ∀ (v0 : Nat) (v1 : Nat) (v2 : Int32) (hv0 : kd v0 = 3) (hv1 : kd v1 = 7), sm_S κ (fun _ : Unit => .inr none) (.inl (26, [some (xad κ v0), some (xad κ v1), some (.int v2), none, none], [])) (k26 v0 v1 v2)) (v0 : Nat) (v1 : Nat) (v2 : Int32) (hv0 : kd v0 = 3) (hv1 : kd v1 = 7) : sm_S κ (fun _ : Unit => .inr none) (.inl (136, [some (xad κ v0), some (xad κ v1), some (.int v2), none, none], [])) (fnX3_lay_J136 k26 v0 v1 v2) := by
  unfold fnX3_lay_J136
  refine sr_iinc (v := v2 + (1 : Int32)) (L' := [some (xad κ v0), some (xad κ v1), some (.int (v2 + (1 : Int32))), none, none]) (q := 139) C (show decode cX3_lay 136 = .ok (.iinc 2 1, 3) from by decide +kernel) rfl rfl (by decide) rfl rfl ?_
  refine sr_goto (q := 26) C (show decode cX3_lay 139 = .ok (.goto (-113), 3) from by decide +kernel) (by decide) ?_
  exact K26 v0 v1 (v2 + (1 : Int32)) hv0 hv1
def fnX3_lay_L110 (k26 : Nat → Nat → Int32 → sm_M Unit) : Nat → Nat → Nat → Int32 → Int32 → sm_M Unit
  | 0, _, _, _, _ => m_fail
  | n + 1, v0, v1, v2, v4 => m_br (v2 ≤ v4)
    (fnX3_lay_J136 k26 v0 v1 v2)
    (m_bnd (fnX7_square v1 v2 v4) fun x124 => m_bnd (fnX3_link v0 v2 v4 x124) fun _ => (fnX3_lay_L110 k26 n) v0 v1 v2 (v4 + (1 : Int32)))
set_option maxHeartbeats 4000000 in
set_option maxRecDepth 100000 in
theorem slX3_lay_L110 {κ : sm_X} (C : sm_C κ RX3 cX3_lay 5 3) {k26 : Nat → Nat → Int32 → sm_M Unit} (K26 : ∀ (v0 : Nat) (v1 : Nat) (v2 : Int32) (hv0 : kd v0 = 3) (hv1 : kd v1 = 7), sm_S κ (fun _ : Unit => .inr none) (.inl (26, [some (xad κ v0), some (xad κ v1), some (.int v2), none, none], [])) (k26 v0 v1 v2)) : ∀ (n : Nat) (v0 : Nat) (v1 : Nat) (v2 : Int32) (v4 : Int32) (hv0 : kd v0 = 3) (hv1 : kd v1 = 7), sm_S κ (fun _ : Unit => .inr none) (.inl (110, [some (xad κ v0), some (xad κ v1), some (.int v2), none, some (.int v4)], [])) (fnX3_lay_L110 k26 n v0 v1 v2 v4) := by
  intro n
  induction n with
  | zero =>
    intros
    exact sr_fail
  | succ n K110 =>
    intro v0 v1 v2 v4 hv0 hv1
    unfold fnX3_lay_L110
    refine sr_iload (i := 4) (q := 112) C (show decode cX3_lay 110 = .ok (.iload 4, 2) from by decide +kernel) rfl rfl ?_
    refine sr_iload_n (i := 2) (q := 113) C (show decode cX3_lay 112 = .ok (.iload_n 2, 1) from by decide +kernel) rfl rfl rfl ?_
    refine sr_icmp_ge (q := 116) C 136 (show decode cX3_lay 113 = .ok (.if_icmp .ge 23, 3) from by decide +kernel) (by decide) rfl ?_ ?_
    · refine sr_weak (L' := [some (xad κ v0), some (xad κ v1), some (.int v2), none, none]) ⟨rfl, rfl, rfl, trivial⟩ ?_
      exact slX3_lay_J136 C K26 v0 v1 v2 hv0 hv1
    · refine sr_aload_n (i := 0) (q := 117) C (show decode cX3_lay 116 = .ok (.aload_n 0, 1) from by decide +kernel) rfl rfl rfl ?_
      refine sr_iload_n (i := 2) (q := 118) C (show decode cX3_lay 117 = .ok (.iload_n 2, 1) from by decide +kernel) rfl rfl rfl ?_
      refine sr_iload (i := 4) (q := 120) C (show decode cX3_lay 118 = .ok (.iload 4, 2) from by decide +kernel) rfl rfl ?_
      refine sr_aload_n (i := 1) (q := 121) C (show decode cX3_lay 120 = .ok (.aload_n 1, 1) from by decide +kernel) rfl rfl rfl ?_
      refine sr_iload_n (i := 2) (q := 122) C (show decode cX3_lay 121 = .ok (.iload_n 2, 1) from by decide +kernel) rfl rfl rfl ?_
      refine sr_iload (i := 4) (q := 124) C (show decode cX3_lay 122 = .ok (.iload 4, 2) from by decide +kernel) rfl rfl ?_
      refine sr_cVi (As := [.int v2, .int v4]) (st := [.int v4, .int v2, xad κ v0]) (b := v1) (q := 127) C yvX7_square ml_X3_39 (cnX7_square (xo κ) v1 v2 v4 hv1) hv1 (by decide) rfl rfl rfl (by decide) (by decide) (Nat.le_of_ble_eq_true rfl) rfl (show decode cX3_lay 124 = .ok (.invokevirtual 39, 3) from by decide +kernel) rfl (fun x124 => ?_)
      refine sr_cVv (As := [.int v2, .int v4, .int x124]) (st := []) (b := v0) (q := 130) C yvX3_link ml_X3_43 (cnX3_link (xo κ) v0 v2 v4 x124 hv0) hv0 (by decide) rfl rfl rfl (by decide) (by decide) (Nat.le_of_ble_eq_true rfl) rfl (show decode cX3_lay 127 = .ok (.invokevirtual 43, 3) from by decide +kernel) rfl (fun _ => ?_)
      refine sr_iinc (v := v4 + (1 : Int32)) (L' := [some (xad κ v0), some (xad κ v1), some (.int v2), none, some (.int (v4 + (1 : Int32)))]) (q := 133) C (show decode cX3_lay 130 = .ok (.iinc 4 1, 3) from by decide +kernel) rfl rfl (by decide) rfl rfl ?_
      refine sr_goto (q := 110) C (show decode cX3_lay 133 = .ok (.goto (-23), 3) from by decide +kernel) (by decide) ?_
      exact K110 v0 v1 v2 (v4 + (1 : Int32)) hv0 hv1
def fnX3_lay_J107 (k26 : Nat → Nat → Int32 → sm_M Unit) (v0 : Nat) (v1 : Nat) (v2 : Int32) : sm_M Unit := fnX3_lay_L110 k26 4096 v0 v1 v2 (0 : Int32)
set_option maxHeartbeats 4000000 in
set_option maxRecDepth 100000 in
theorem slX3_lay_J107 {κ : sm_X} (C : sm_C κ RX3 cX3_lay 5 3) {k26 : Nat → Nat → Int32 → sm_M Unit} (K26 : ∀ (v0 : Nat) (v1 : Nat) (v2 : Int32) (hv0 : kd v0 = 3) (hv1 : kd v1 = 7), sm_S κ (fun _ : Unit => .inr none) (.inl (26, [some (xad κ v0), some (xad κ v1), some (.int v2), none, none], [])) (k26 v0 v1 v2)) (v0 : Nat) (v1 : Nat) (v2 : Int32) (hv0 : kd v0 = 3) (hv1 : kd v1 = 7) : sm_S κ (fun _ : Unit => .inr none) (.inl (107, [some (xad κ v0), some (xad κ v1), some (.int v2), none, none], [])) (fnX3_lay_J107 k26 v0 v1 v2) := by
  unfold fnX3_lay_J107
  refine sr_iconst (v := (0 : Int32)) (q := 108) C (show decode cX3_lay 107 = .ok (.iconst 0, 1) from by decide +kernel) (by decide) rfl ?_
  refine sr_istore (i := 4) (L' := [some (xad κ v0), some (xad κ v1), some (.int v2), none, some (.int (0 : Int32))]) (q := 110) C (show decode cX3_lay 108 = .ok (.istore 4, 2) from by decide +kernel) (by decide) rfl rfl ?_
  exact slX3_lay_L110 C K26 4096 v0 v1 v2 (0 : Int32) hv0 hv1
def fnX3_lay_L83 (k26 : Nat → Nat → Int32 → sm_M Unit) : Nat → Nat → Nat → Int32 → Int32 → Int32 → sm_M Unit
  | 0, _, _, _, _, _ => m_fail
  | n + 1, v0, v1, v2, v3, v4 => m_br ((9 : Int32) < v4)
    (fnX3_lay_J107 k26 v0 v1 v2)
    (m_ai (lk v0 1) v4 fun x97 => m_sai (lk v0 1) v4 (x97 ||| v3) <| (fnX3_lay_L83 k26 n) v0 v1 v2 v3 (v4 + (1 : Int32)))
set_option maxHeartbeats 4000000 in
set_option maxRecDepth 100000 in
theorem slX3_lay_L83 {κ : sm_X} (C : sm_C κ RX3 cX3_lay 5 3) {k26 : Nat → Nat → Int32 → sm_M Unit} (K26 : ∀ (v0 : Nat) (v1 : Nat) (v2 : Int32) (hv0 : kd v0 = 3) (hv1 : kd v1 = 7), sm_S κ (fun _ : Unit => .inr none) (.inl (26, [some (xad κ v0), some (xad κ v1), some (.int v2), none, none], [])) (k26 v0 v1 v2)) : ∀ (n : Nat) (v0 : Nat) (v1 : Nat) (v2 : Int32) (v3 : Int32) (v4 : Int32) (hv0 : kd v0 = 3) (hv1 : kd v1 = 7), sm_S κ (fun _ : Unit => .inr none) (.inl (83, [some (xad κ v0), some (xad κ v1), some (.int v2), some (.int v3), some (.int v4)], [])) (fnX3_lay_L83 k26 n v0 v1 v2 v3 v4) := by
  intro n
  induction n with
  | zero =>
    intros
    exact sr_fail
  | succ n K83 =>
    intro v0 v1 v2 v3 v4 hv0 hv1
    unfold fnX3_lay_L83
    refine sr_iload (i := 4) (q := 85) C (show decode cX3_lay 83 = .ok (.iload 4, 2) from by decide +kernel) rfl rfl ?_
    refine sr_bipush (v := (9 : Int32)) (q := 87) C (show decode cX3_lay 85 = .ok (.bipush 9, 2) from by decide +kernel) (by decide) rfl ?_
    refine sr_icmp_gt (q := 90) C 107 (show decode cX3_lay 87 = .ok (.if_icmp .gt 20, 3) from by decide +kernel) (by decide) rfl ?_ ?_
    · refine sr_weak (L' := [some (xad κ v0), some (xad κ v1), some (.int v2), none, none]) ⟨rfl, rfl, rfl, trivial⟩ ?_
      exact slX3_lay_J107 C K26 v0 v1 v2 hv0 hv1
    · refine sr_aload_n (i := 0) (q := 91) C (show decode cX3_lay 90 = .ok (.aload_n 0, 1) from by decide +kernel) rfl rfl rfl ?_
      refine sr_getr (q := 94) C fl_X3_15 hv0 (show decode cX3_lay 91 = .ok (.getfield 15, 3) from by decide +kernel) rfl ?_
      refine sr_iload (i := 4) (q := 96) C (show decode cX3_lay 94 = .ok (.iload 4, 2) from by decide +kernel) rfl rfl ?_
      refine sr_dup2 (q := 97) C (show decode cX3_lay 96 = .ok (.dup2, 1) from by decide +kernel) rfl rfl rfl ?_
      refine sr_iaload (q := 98) C (kt hv0 kp_3_1) (show decode cX3_lay 97 = .ok (.iaload, 1) from by decide +kernel) rfl (fun x97 => ?_)
      refine sr_iload_n (i := 3) (q := 99) C (show decode cX3_lay 98 = .ok (.iload_n 3, 1) from by decide +kernel) rfl rfl rfl ?_
      refine sr_ior (q := 100) C (show decode cX3_lay 99 = .ok (.ior, 1) from by decide +kernel) rfl ?_
      refine sr_iastore (q := 101) C (kt hv0 kp_3_1) (show decode cX3_lay 100 = .ok (.iastore, 1) from by decide +kernel) rfl ?_
      refine sr_iinc (v := v4 + (1 : Int32)) (L' := [some (xad κ v0), some (xad κ v1), some (.int v2), some (.int v3), some (.int (v4 + (1 : Int32)))]) (q := 104) C (show decode cX3_lay 101 = .ok (.iinc 4 1, 3) from by decide +kernel) rfl rfl (by decide) rfl rfl ?_
      refine sr_goto (q := 83) C (show decode cX3_lay 104 = .ok (.goto (-21), 3) from by decide +kernel) (by decide) ?_
      exact K83 v0 v1 v2 v3 (v4 + (1 : Int32)) hv0 hv1
def fnX3_lay_J70 (k26 : Nat → Nat → Int32 → sm_M Unit) (v0 : Nat) (v1 : Nat) (v2 : Int32) (v3 : Int32) : sm_M Unit := m_gi v1 1 fun x71 => m_ai (lk v1 9) v2 fun x79 => m_nm (x71 - x79) fun y81 => fnX3_lay_L83 k26 4096 v0 v1 v2 v3 y81
set_option maxHeartbeats 4000000 in
set_option maxRecDepth 100000 in
theorem slX3_lay_J70 {κ : sm_X} (C : sm_C κ RX3 cX3_lay 5 3) {k26 : Nat → Nat → Int32 → sm_M Unit} (K26 : ∀ (v0 : Nat) (v1 : Nat) (v2 : Int32) (hv0 : kd v0 = 3) (hv1 : kd v1 = 7), sm_S κ (fun _ : Unit => .inr none) (.inl (26, [some (xad κ v0), some (xad κ v1), some (.int v2), none, none], [])) (k26 v0 v1 v2)) (v0 : Nat) (v1 : Nat) (v2 : Int32) (v3 : Int32) (hv0 : kd v0 = 3) (hv1 : kd v1 = 7) : sm_S κ (fun _ : Unit => .inr none) (.inl (70, [some (xad κ v0), some (xad κ v1), some (.int v2), some (.int v3), none], [])) (fnX3_lay_J70 k26 v0 v1 v2 v3) := by
  unfold fnX3_lay_J70
  refine sr_aload_n (i := 1) (q := 71) C (show decode cX3_lay 70 = .ok (.aload_n 1, 1) from by decide +kernel) rfl rfl rfl ?_
  refine sr_geti (q := 74) C fl_X3_36 (Or.inl rfl) hv1 (show decode cX3_lay 71 = .ok (.getfield 36, 3) from by decide +kernel) rfl (fun x71 => ?_)
  refine sr_aload_n (i := 1) (q := 75) C (show decode cX3_lay 74 = .ok (.aload_n 1, 1) from by decide +kernel) rfl rfl rfl ?_
  refine sr_getr (q := 78) C fl_X3_33 hv1 (show decode cX3_lay 75 = .ok (.getfield 33, 3) from by decide +kernel) rfl ?_
  refine sr_iload_n (i := 2) (q := 79) C (show decode cX3_lay 78 = .ok (.iload_n 2, 1) from by decide +kernel) rfl rfl rfl ?_
  refine sr_iaload (q := 80) C (kt hv1 kp_7_9) (show decode cX3_lay 79 = .ok (.iaload, 1) from by decide +kernel) rfl (fun x79 => ?_)
  refine sr_isub (q := 81) C (show decode cX3_lay 80 = .ok (.isub, 1) from by decide +kernel) rfl ?_
  refine sr_nmi (fun y81 => ?_)
  refine sr_istore (i := 4) (L' := [some (xad κ v0), some (xad κ v1), some (.int v2), some (.int v3), some (.int y81)]) (q := 83) C (show decode cX3_lay 81 = .ok (.istore 4, 2) from by decide +kernel) (by decide) rfl rfl ?_
  exact slX3_lay_L83 C K26 4096 v0 v1 v2 v3 y81 hv0 hv1
def fnX3_lay_L46 (k26 : Nat → Nat → Int32 → sm_M Unit) : Nat → Nat → Nat → Int32 → Int32 → Int32 → sm_M Unit
  | 0, _, _, _, _, _ => m_fail
  | n + 1, v0, v1, v2, v3, v4 => m_br ((9 : Int32) < v4)
    (fnX3_lay_J70 k26 v0 v1 v2 v3)
    (m_ai (lk v0 0) v4 fun x60 => m_sai (lk v0 0) v4 (x60 ||| v3) <| (fnX3_lay_L46 k26 n) v0 v1 v2 v3 (v4 + (1 : Int32)))
set_option maxHeartbeats 4000000 in
set_option maxRecDepth 100000 in
theorem slX3_lay_L46 {κ : sm_X} (C : sm_C κ RX3 cX3_lay 5 3) {k26 : Nat → Nat → Int32 → sm_M Unit} (K26 : ∀ (v0 : Nat) (v1 : Nat) (v2 : Int32) (hv0 : kd v0 = 3) (hv1 : kd v1 = 7), sm_S κ (fun _ : Unit => .inr none) (.inl (26, [some (xad κ v0), some (xad κ v1), some (.int v2), none, none], [])) (k26 v0 v1 v2)) : ∀ (n : Nat) (v0 : Nat) (v1 : Nat) (v2 : Int32) (v3 : Int32) (v4 : Int32) (hv0 : kd v0 = 3) (hv1 : kd v1 = 7), sm_S κ (fun _ : Unit => .inr none) (.inl (46, [some (xad κ v0), some (xad κ v1), some (.int v2), some (.int v3), some (.int v4)], [])) (fnX3_lay_L46 k26 n v0 v1 v2 v3 v4) := by
  intro n
  induction n with
  | zero =>
    intros
    exact sr_fail
  | succ n K46 =>
    intro v0 v1 v2 v3 v4 hv0 hv1
    unfold fnX3_lay_L46
    refine sr_iload (i := 4) (q := 48) C (show decode cX3_lay 46 = .ok (.iload 4, 2) from by decide +kernel) rfl rfl ?_
    refine sr_bipush (v := (9 : Int32)) (q := 50) C (show decode cX3_lay 48 = .ok (.bipush 9, 2) from by decide +kernel) (by decide) rfl ?_
    refine sr_icmp_gt (q := 53) C 70 (show decode cX3_lay 50 = .ok (.if_icmp .gt 20, 3) from by decide +kernel) (by decide) rfl ?_ ?_
    · refine sr_weak (L' := [some (xad κ v0), some (xad κ v1), some (.int v2), some (.int v3), none]) ⟨rfl, rfl, rfl, rfl, trivial⟩ ?_
      exact slX3_lay_J70 C K26 v0 v1 v2 v3 hv0 hv1
    · refine sr_aload_n (i := 0) (q := 54) C (show decode cX3_lay 53 = .ok (.aload_n 0, 1) from by decide +kernel) rfl rfl rfl ?_
      refine sr_getr (q := 57) C fl_X3_9 hv0 (show decode cX3_lay 54 = .ok (.getfield 9, 3) from by decide +kernel) rfl ?_
      refine sr_iload (i := 4) (q := 59) C (show decode cX3_lay 57 = .ok (.iload 4, 2) from by decide +kernel) rfl rfl ?_
      refine sr_dup2 (q := 60) C (show decode cX3_lay 59 = .ok (.dup2, 1) from by decide +kernel) rfl rfl rfl ?_
      refine sr_iaload (q := 61) C (kt hv0 kp_3_0) (show decode cX3_lay 60 = .ok (.iaload, 1) from by decide +kernel) rfl (fun x60 => ?_)
      refine sr_iload_n (i := 3) (q := 62) C (show decode cX3_lay 61 = .ok (.iload_n 3, 1) from by decide +kernel) rfl rfl rfl ?_
      refine sr_ior (q := 63) C (show decode cX3_lay 62 = .ok (.ior, 1) from by decide +kernel) rfl ?_
      refine sr_iastore (q := 64) C (kt hv0 kp_3_0) (show decode cX3_lay 63 = .ok (.iastore, 1) from by decide +kernel) rfl ?_
      refine sr_iinc (v := v4 + (1 : Int32)) (L' := [some (xad κ v0), some (xad κ v1), some (.int v2), some (.int v3), some (.int (v4 + (1 : Int32)))]) (q := 67) C (show decode cX3_lay 64 = .ok (.iinc 4 1, 3) from by decide +kernel) rfl rfl (by decide) rfl rfl ?_
      refine sr_goto (q := 46) C (show decode cX3_lay 67 = .ok (.goto (-21), 3) from by decide +kernel) (by decide) ?_
      exact K46 v0 v1 v2 v3 (v4 + (1 : Int32)) hv0 hv1
def fnX3_lay_L26 : Nat → Nat → Nat → Int32 → sm_M Unit
  | 0, _, _, _ => m_fail
  | n + 1, v0, v1, v2 => m_gi v1 4 fun x28 => m_br (x28 ≤ v2)
    (m_ret ())
    (m_nm ((1 : Int32) <<< (v2 &&& 31)) fun y37 => m_ai (lk v1 9) v2 fun x43 => fnX3_lay_L46 (fnX3_lay_L26 n) 4096 v0 v1 v2 y37 x43)
set_option maxHeartbeats 4000000 in
set_option maxRecDepth 100000 in
theorem slX3_lay_L26 {κ : sm_X} (C : sm_C κ RX3 cX3_lay 5 3) : ∀ (n : Nat) (v0 : Nat) (v1 : Nat) (v2 : Int32) (hv0 : kd v0 = 3) (hv1 : kd v1 = 7), sm_S κ (fun _ : Unit => .inr none) (.inl (26, [some (xad κ v0), some (xad κ v1), some (.int v2), none, none], [])) (fnX3_lay_L26 n v0 v1 v2) := by
  intro n
  induction n with
  | zero =>
    intros
    exact sr_fail
  | succ n K26 =>
    intro v0 v1 v2 hv0 hv1
    unfold fnX3_lay_L26
    refine sr_iload_n (i := 2) (q := 27) C (show decode cX3_lay 26 = .ok (.iload_n 2, 1) from by decide +kernel) rfl rfl rfl ?_
    refine sr_aload_n (i := 1) (q := 28) C (show decode cX3_lay 27 = .ok (.aload_n 1, 1) from by decide +kernel) rfl rfl rfl ?_
    refine sr_geti (q := 31) C fl_X3_27 (Or.inl rfl) hv1 (show decode cX3_lay 28 = .ok (.getfield 27, 3) from by decide +kernel) rfl (fun x28 => ?_)
    refine sr_icmp_ge (q := 34) C 142 (show decode cX3_lay 31 = .ok (.if_icmp .ge 111, 3) from by decide +kernel) (by decide) rfl ?_ ?_
    · exact sr_vreturn C _ rfl (show decode cX3_lay 142 = .ok (.return_, 1) from by decide +kernel)
    · refine sr_iconst (v := (1 : Int32)) (q := 35) C (show decode cX3_lay 34 = .ok (.iconst 1, 1) from by decide +kernel) (by decide) rfl ?_
      refine sr_iload_n (i := 2) (q := 36) C (show decode cX3_lay 35 = .ok (.iload_n 2, 1) from by decide +kernel) rfl rfl rfl ?_
      refine sr_ishl (q := 37) C (show decode cX3_lay 36 = .ok (.ishl, 1) from by decide +kernel) rfl ?_
      refine sr_nmi (fun y37 => ?_)
      refine sr_istore_n (i := 3) (L' := [some (xad κ v0), some (xad κ v1), some (.int v2), some (.int y37), none]) (q := 38) C (show decode cX3_lay 37 = .ok (.istore_n 3, 1) from by decide +kernel) rfl (by decide) rfl rfl ?_
      refine sr_aload_n (i := 1) (q := 39) C (show decode cX3_lay 38 = .ok (.aload_n 1, 1) from by decide +kernel) rfl rfl rfl ?_
      refine sr_getr (q := 42) C fl_X3_33 hv1 (show decode cX3_lay 39 = .ok (.getfield 33, 3) from by decide +kernel) rfl ?_
      refine sr_iload_n (i := 2) (q := 43) C (show decode cX3_lay 42 = .ok (.iload_n 2, 1) from by decide +kernel) rfl rfl rfl ?_
      refine sr_iaload (q := 44) C (kt hv1 kp_7_9) (show decode cX3_lay 43 = .ok (.iaload, 1) from by decide +kernel) rfl (fun x43 => ?_)
      refine sr_istore (i := 4) (L' := [some (xad κ v0), some (xad κ v1), some (.int v2), some (.int y37), some (.int x43)]) (q := 46) C (show decode cX3_lay 44 = .ok (.istore 4, 2) from by decide +kernel) (by decide) rfl rfl ?_
      exact slX3_lay_L46 C K26 4096 v0 v1 v2 y37 x43 hv0 hv1
def fnX3_lay (v0 : Nat) (v1 : Nat) : sm_M Unit := m_bnd (fnJ7_fill_53178 (lk v0 0) (0 : Int32)) fun _ => m_bnd (fnJ7_fill_53178 (lk v0 1) (0 : Int32)) fun _ => m_bnd (fnJ7_fill_53178 (lk v0 2) (0 : Int32)) fun _ => fnX3_lay_L26 4096 v0 v1 (0 : Int32)
set_option maxHeartbeats 4000000 in
set_option maxRecDepth 100000 in
theorem slX3_lay {κ : sm_X} (C : sm_C κ RX3 cX3_lay 5 3) (v0 : Nat) (v1 : Nat) (hv0 : kd v0 = 3) (hv1 : kd v1 = 7) : sm_S κ (fun _ : Unit => .inr none) (.inl (0, [some (xad κ v0), some (xad κ v1), none, none, none], [])) (fnX3_lay v0 v1) := by
  unfold fnX3_lay
  refine sr_aload_n (i := 0) (q := 1) C (show decode cX3_lay 0 = .ok (.aload_n 0, 1) from by decide +kernel) rfl rfl rfl ?_
  refine sr_getr (q := 4) C fl_X3_9 hv0 (show decode cX3_lay 1 = .ok (.getfield 9, 3) from by decide +kernel) rfl ?_
  refine sr_iconst (v := (0 : Int32)) (q := 5) C (show decode cX3_lay 4 = .ok (.iconst 0, 1) from by decide +kernel) (by decide) rfl ?_
  refine sr_cSv (As := [xad κ (lk v0 0), .int (0 : Int32)]) (st := []) (q := 8) C ysJ7_fill_53178 ml_X3_21 (cnJ7_fill_53178 (xo κ) (lk v0 0) (0 : Int32) (kt hv0 kp_3_0)) rfl (by decide) (by decide) (Nat.le_of_ble_eq_true rfl) rfl (show decode cX3_lay 5 = .ok (.invokestatic 21, 3) from by decide +kernel) rfl (fun _ => ?_)
  refine sr_aload_n (i := 0) (q := 9) C (show decode cX3_lay 8 = .ok (.aload_n 0, 1) from by decide +kernel) rfl rfl rfl ?_
  refine sr_getr (q := 12) C fl_X3_15 hv0 (show decode cX3_lay 9 = .ok (.getfield 15, 3) from by decide +kernel) rfl ?_
  refine sr_iconst (v := (0 : Int32)) (q := 13) C (show decode cX3_lay 12 = .ok (.iconst 0, 1) from by decide +kernel) (by decide) rfl ?_
  refine sr_cSv (As := [xad κ (lk v0 1), .int (0 : Int32)]) (st := []) (q := 16) C ysJ7_fill_53178 ml_X3_21 (cnJ7_fill_53178 (xo κ) (lk v0 1) (0 : Int32) (kt hv0 kp_3_1)) rfl (by decide) (by decide) (Nat.le_of_ble_eq_true rfl) rfl (show decode cX3_lay 13 = .ok (.invokestatic 21, 3) from by decide +kernel) rfl (fun _ => ?_)
  refine sr_aload_n (i := 0) (q := 17) C (show decode cX3_lay 16 = .ok (.aload_n 0, 1) from by decide +kernel) rfl rfl rfl ?_
  refine sr_getr (q := 20) C fl_X3_18 hv0 (show decode cX3_lay 17 = .ok (.getfield 18, 3) from by decide +kernel) rfl ?_
  refine sr_iconst (v := (0 : Int32)) (q := 21) C (show decode cX3_lay 20 = .ok (.iconst 0, 1) from by decide +kernel) (by decide) rfl ?_
  refine sr_cSv (As := [xad κ (lk v0 2), .int (0 : Int32)]) (st := []) (q := 24) C ysJ7_fill_53178 ml_X3_21 (cnJ7_fill_53178 (xo κ) (lk v0 2) (0 : Int32) (kt hv0 kp_3_2)) rfl (by decide) (by decide) (Nat.le_of_ble_eq_true rfl) rfl (show decode cX3_lay 21 = .ok (.invokestatic 21, 3) from by decide +kernel) rfl (fun _ => ?_)
  refine sr_iconst (v := (0 : Int32)) (q := 25) C (show decode cX3_lay 24 = .ok (.iconst 0, 1) from by decide +kernel) (by decide) rfl ?_
  refine sr_istore_n (i := 2) (L' := [some (xad κ v0), some (xad κ v1), some (.int (0 : Int32)), none, none]) (q := 26) C (show decode cX3_lay 25 = .ok (.istore_n 2, 1) from by decide +kernel) rfl (by decide) rfl rfl ?_
  exact slX3_lay_L26 C 4096 v0 v1 (0 : Int32) hv0 hv1
theorem cnX3_lay (ω : sm_O) (v0 : Nat) (v1 : Nat) (hv0 : kd v0 = 3) (hv1 : kd v1 = 7) : sm_Mt 3 yX3_lay cX3_lay 5 none ω [.ref (ω.1 + v0), .ref (ω.1 + v1)] (fun _ => none) (fnX3_lay v0 v1) := by
  refine sm_conV (by decide) (Nat.le_of_ble_eq_true rfl) ?_
  intro κ hκ C
  subst hκ
  exact slX3_lay C v0 v1 hv0 hv1
