def fnX5_find_J63 (v0 : Nat) (v1 : Nat) (v2 : Int32) (v3 : Int32) : sm_M Bool := m_bnd (fnJ6_bitCount_0f7a4 v3) fun x65 => m_si v0 7 x65 <| m_gi v0 7 fun x72 => m_br (x72 ≤ (6 : Int32))
    (m_si v0 0 (-1 : Int32) <| m_si v0 1 (-1 : Int32) <| m_ap (lk v0 4) (0 : Int32) fun x97 => m_bnd (fnX9_takeFrom x97 v1) fun _ => m_bnd (fnX5_extend 8 v0 (0 : Int32) v3 v2 (0 : Int32) (0 : Int32)) fun _ => m_si v0 8 v2 <| m_ret true)
    (m_ret false)
set_option maxHeartbeats 4000000 in
set_option maxRecDepth 100000 in
theorem slX5_find_J63 {κ : sm_X} (C : sm_C κ RX5 cX5_find 5 14) (v0 : Nat) (v1 : Nat) (v2 : Int32) (v3 : Int32) (hv0 : kd v0 = 5) (hv1 : kd v1 = 9) : sm_S κ (fun r : Bool => .inr (some (.int (bI r)))) (.inl (63, [some (xad κ v0), some (xad κ v1), some (.int v2), some (.int v3), none], [])) (fnX5_find_J63 v0 v1 v2 v3) := by
  unfold fnX5_find_J63
  refine sr_aload_n (i := 0) (q := 64) C (show decode cX5_find 63 = .ok (.aload_n 0, 1) from by decide +kernel) rfl rfl rfl ?_
  refine sr_iload_n (i := 3) (q := 65) C (show decode cX5_find 64 = .ok (.iload_n 3, 1) from by decide +kernel) rfl rfl rfl ?_
  refine sr_cSi (As := [.int v3]) (st := [xad κ v0]) (q := 68) C ysJ6_bitCount_0f7a4 ml_X5_52 (cnJ6_bitCount_0f7a4 (xo κ) v3) rfl (by decide) (by decide) (Nat.le_of_ble_eq_true rfl) rfl (show decode cX5_find 65 = .ok (.invokestatic 52, 3) from by decide +kernel) rfl (fun x65 => ?_)
  refine sr_puti (q := 71) C fp_X5_58 hv0 (show decode cX5_find 68 = .ok (.putfield 58, 3) from by decide +kernel) rfl ?_
  refine sr_aload_n (i := 0) (q := 72) C (show decode cX5_find 71 = .ok (.aload_n 0, 1) from by decide +kernel) rfl rfl rfl ?_
  refine sr_geti (q := 75) C fl_X5_58 (Or.inl rfl) hv0 (show decode cX5_find 72 = .ok (.getfield 58, 3) from by decide +kernel) rfl (fun x72 => ?_)
  refine sr_bipush (v := (6 : Int32)) (q := 77) C (show decode cX5_find 75 = .ok (.bipush 6, 2) from by decide +kernel) (by decide) rfl ?_
  refine sr_icmp_le (q := 80) C 82 (show decode cX5_find 77 = .ok (.if_icmp .le 5, 3) from by decide +kernel) (by decide) rfl ?_ ?_
  · refine sr_aload_n (i := 0) (q := 83) C (show decode cX5_find 82 = .ok (.aload_n 0, 1) from by decide +kernel) rfl rfl rfl ?_
    refine sr_iconst (v := (-1 : Int32)) (q := 84) C (show decode cX5_find 83 = .ok (.iconst (-1), 1) from by decide +kernel) (by decide) rfl ?_
    refine sr_puti (q := 87) C fp_X5_61 hv0 (show decode cX5_find 84 = .ok (.putfield 61, 3) from by decide +kernel) rfl ?_
    refine sr_aload_n (i := 0) (q := 88) C (show decode cX5_find 87 = .ok (.aload_n 0, 1) from by decide +kernel) rfl rfl rfl ?_
    refine sr_iconst (v := (-1 : Int32)) (q := 89) C (show decode cX5_find 88 = .ok (.iconst (-1), 1) from by decide +kernel) (by decide) rfl ?_
    refine sr_puti (q := 92) C fp_X5_64 hv0 (show decode cX5_find 89 = .ok (.putfield 64, 3) from by decide +kernel) rfl ?_
    refine sr_aload_n (i := 0) (q := 93) C (show decode cX5_find 92 = .ok (.aload_n 0, 1) from by decide +kernel) rfl rfl rfl ?_
    refine sr_getr (q := 96) C fl_X5_13 hv0 (show decode cX5_find 93 = .ok (.getfield 13, 3) from by decide +kernel) rfl ?_
    refine sr_iconst (v := (0 : Int32)) (q := 97) C (show decode cX5_find 96 = .ok (.iconst 0, 1) from by decide +kernel) (by decide) rfl ?_
    refine sr_aaload (t0 := 4) (q := 98) C (kt hv0 kp_5_4) (Or.inl rfl) rfl (show decode cX5_find 97 = .ok (.aaload, 1) from by decide +kernel) rfl (fun x97 hx97 => ?_)
    refine sr_aload_n (i := 1) (q := 99) C (show decode cX5_find 98 = .ok (.aload_n 1, 1) from by decide +kernel) rfl rfl rfl ?_
    refine sr_cVv (As := [xad κ v1]) (st := []) (b := x97) (q := 102) C yvX9_takeFrom ml_X5_67 (cnX9_takeFrom (xo κ) x97 v1 hx97 hv1) hx97 (by decide) rfl rfl rfl (by decide) (by decide) (Nat.le_of_ble_eq_true rfl) rfl (show decode cX5_find 99 = .ok (.invokevirtual 67, 3) from by decide +kernel) rfl (fun _ => ?_)
    refine sr_aload_n (i := 0) (q := 103) C (show decode cX5_find 102 = .ok (.aload_n 0, 1) from by decide +kernel) rfl rfl rfl ?_
    refine sr_iconst (v := (0 : Int32)) (q := 104) C (show decode cX5_find 103 = .ok (.iconst 0, 1) from by decide +kernel) (by decide) rfl ?_
    refine sr_iload_n (i := 3) (q := 105) C (show decode cX5_find 104 = .ok (.iload_n 3, 1) from by decide +kernel) rfl rfl rfl ?_
    refine sr_iload_n (i := 2) (q := 106) C (show decode cX5_find 105 = .ok (.iload_n 2, 1) from by decide +kernel) rfl rfl rfl ?_
    refine sr_iconst (v := (0 : Int32)) (q := 107) C (show decode cX5_find 106 = .ok (.iconst 0, 1) from by decide +kernel) (by decide) rfl ?_
    refine sr_iconst (v := (0 : Int32)) (q := 108) C (show decode cX5_find 107 = .ok (.iconst 0, 1) from by decide +kernel) (by decide) rfl ?_
    refine sr_cVv (As := [.int (0 : Int32), .int v3, .int v2, .int (0 : Int32), .int (0 : Int32)]) (st := []) (b := v0) (q := 111) C yvX5_extend ml_X5_71 (cnX5_extend (xo κ) 8 v0 (0 : Int32) v3 v2 (0 : Int32) (0 : Int32) hv0) hv0 (by decide) rfl rfl rfl (by decide) (by decide) (Nat.le_of_ble_eq_true rfl) rfl (show decode cX5_find 108 = .ok (.invokevirtual 71, 3) from by decide +kernel) rfl (fun _ => ?_)
    refine sr_aload_n (i := 0) (q := 112) C (show decode cX5_find 111 = .ok (.aload_n 0, 1) from by decide +kernel) rfl rfl rfl ?_
    refine sr_iload_n (i := 2) (q := 113) C (show decode cX5_find 112 = .ok (.iload_n 2, 1) from by decide +kernel) rfl rfl rfl ?_
    refine sr_puti (q := 116) C fp_X5_24 hv0 (show decode cX5_find 113 = .ok (.putfield 24, 3) from by decide +kernel) rfl ?_
    refine sr_iconst (v := (1 : Int32)) (q := 117) C (show decode cX5_find 116 = .ok (.iconst 1, 1) from by decide +kernel) (by decide) rfl ?_
    exact sr_ireturn C true rfl (show decode cX5_find 117 = .ok (.ireturn, 1) from by decide +kernel)
  · refine sr_iconst (v := (0 : Int32)) (q := 81) C (show decode cX5_find 80 = .ok (.iconst 0, 1) from by decide +kernel) (by decide) rfl ?_
    exact sr_ireturn C false rfl (show decode cX5_find 81 = .ok (.ireturn, 1) from by decide +kernel)
def fnX5_find_J57 (k15 : Nat → Nat → Int32 → Int32 → Int32 → sm_M Bool) (v0 : Nat) (v1 : Nat) (v2 : Int32) (v3 : Int32) (v4 : Int32) : sm_M Bool := k15 v0 v1 v2 v3 (v4 + (1 : Int32))
set_option maxHeartbeats 4000000 in
set_option maxRecDepth 100000 in
theorem slX5_find_J57 {κ : sm_X} (C : sm_C κ RX5 cX5_find 5 14) {k15 : Nat → Nat → Int32 → Int32 → Int32 → sm_M Bool} (K15 : ∀ (v0 : Nat) (v1 : Nat) (v2 : Int32) (v3 : Int32) (v4 : Int32) (hv0 : kd v0 = 5) (hv1 : kd v1 = 9), sm_S κ (fun r : Bool => .inr (some (.int (bI r)))) (.inl (15, [some (xad κ v0), some (xad κ v1), some (.int v2), some (.int v3), some (.int v4)], [])) (k15 v0 v1 v2 v3 v4)) (v0 : Nat) (v1 : Nat) (v2 : Int32) (v3 : Int32) (v4 : Int32) (hv0 : kd v0 = 5) (hv1 : kd v1 = 9) : sm_S κ (fun r : Bool => .inr (some (.int (bI r)))) (.inl (57, [some (xad κ v0), some (xad κ v1), some (.int v2), some (.int v3), some (.int v4)], [])) (fnX5_find_J57 k15 v0 v1 v2 v3 v4) := by
  unfold fnX5_find_J57
  refine sr_iinc (v := v4 + (1 : Int32)) (L' := [some (xad κ v0), some (xad κ v1), some (.int v2), some (.int v3), some (.int (v4 + (1 : Int32)))]) (q := 60) C (show decode cX5_find 57 = .ok (.iinc 4 1, 3) from by decide +kernel) rfl rfl (by decide) rfl rfl ?_
  refine sr_goto (q := 15) C (show decode cX5_find 60 = .ok (.goto (-45), 3) from by decide +kernel) (by decide) ?_
  exact K15 v0 v1 v2 v3 (v4 + (1 : Int32)) hv0 hv1
def fnX5_find_L15 : Nat → Nat → Nat → Int32 → Int32 → Int32 → sm_M Bool
  | 0, _, _, _, _, _ => m_fail
  | n + 1, v0, v1, v2, v3, v4 => m_gi (lk v0 2) 5 fun x21 => m_br (x21 ≤ v4)
    (fnX5_find_J63 v0 v1 v2 v3)
    (m_bnd (fnX7_isUnit (lk v0 2) v4) fun x33 => m_br ((bI x33) = 0)
    (fnX5_find_J57 (fnX5_find_L15 n) v0 v1 v2 v3 v4)
    (m_bnd (fnX9_isAt v1 v4 (98 : Int32)) fun x44 => m_br ((bI x44) = 0)
    (fnX5_find_J57 (fnX5_find_L15 n) v0 v1 v2 v3 v4)
    (m_nm (v3 ||| ((1 : Int32) <<< (v4 &&& 31))) fun y56 => fnX5_find_J57 (fnX5_find_L15 n) v0 v1 v2 y56 v4)))
set_option maxHeartbeats 4000000 in
set_option maxRecDepth 100000 in
theorem slX5_find_L15 {κ : sm_X} (C : sm_C κ RX5 cX5_find 5 14) : ∀ (n : Nat) (v0 : Nat) (v1 : Nat) (v2 : Int32) (v3 : Int32) (v4 : Int32) (hv0 : kd v0 = 5) (hv1 : kd v1 = 9), sm_S κ (fun r : Bool => .inr (some (.int (bI r)))) (.inl (15, [some (xad κ v0), some (xad κ v1), some (.int v2), some (.int v3), some (.int v4)], [])) (fnX5_find_L15 n v0 v1 v2 v3 v4) := by
  intro n
  induction n with
  | zero =>
    intros
    exact sr_fail
  | succ n K15 =>
    intro v0 v1 v2 v3 v4 hv0 hv1
    unfold fnX5_find_L15
    refine sr_iload (i := 4) (q := 17) C (show decode cX5_find 15 = .ok (.iload 4, 2) from by decide +kernel) rfl rfl ?_
    refine sr_aload_n (i := 0) (q := 18) C (show decode cX5_find 17 = .ok (.aload_n 0, 1) from by decide +kernel) rfl rfl rfl ?_
    refine sr_getr (q := 21) C fl_X5_32 hv0 (show decode cX5_find 18 = .ok (.getfield 32, 3) from by decide +kernel) rfl ?_
    refine sr_geti (q := 24) C fl_X5_39 (Or.inl rfl) (kt hv0 kp_5_2) (show decode cX5_find 21 = .ok (.getfield 39, 3) from by decide +kernel) rfl (fun x21 => ?_)
    refine sr_icmp_ge (q := 27) C 63 (show decode cX5_find 24 = .ok (.if_icmp .ge 39, 3) from by decide +kernel) (by decide) rfl ?_ ?_
    · refine sr_weak (L' := [some (xad κ v0), some (xad κ v1), some (.int v2), some (.int v3), none]) ⟨rfl, rfl, rfl, rfl, trivial⟩ ?_
      exact slX5_find_J63 C v0 v1 v2 v3 hv0 hv1
    · refine sr_aload_n (i := 0) (q := 28) C (show decode cX5_find 27 = .ok (.aload_n 0, 1) from by decide +kernel) rfl rfl rfl ?_
      refine sr_getr (q := 31) C fl_X5_32 hv0 (show decode cX5_find 28 = .ok (.getfield 32, 3) from by decide +kernel) rfl ?_
      refine sr_iload (i := 4) (q := 33) C (show decode cX5_find 31 = .ok (.iload 4, 2) from by decide +kernel) rfl rfl ?_
      refine sr_cVz (As := [.int v4]) (st := []) (b := lk v0 2) (q := 36) C yvX7_isUnit ml_X5_44 (cnX7_isUnit (xo κ) (lk v0 2) v4 (kt hv0 kp_5_2)) (kt hv0 kp_5_2) (by decide) rfl rfl rfl (by decide) (by decide) (Nat.le_of_ble_eq_true rfl) rfl (show decode cX5_find 33 = .ok (.invokevirtual 44, 3) from by decide +kernel) rfl (fun x33 => ?_)
      refine sr_if_eq (q := 39) C 57 (show decode cX5_find 36 = .ok (.ifCond .eq 21, 3) from by decide +kernel) (by decide) rfl ?_ ?_
      · exact slX5_find_J57 C K15 v0 v1 v2 v3 v4 hv0 hv1
      · refine sr_aload_n (i := 1) (q := 40) C (show decode cX5_find 39 = .ok (.aload_n 1, 1) from by decide +kernel) rfl rfl rfl ?_
        refine sr_iload (i := 4) (q := 42) C (show decode cX5_find 40 = .ok (.iload 4, 2) from by decide +kernel) rfl rfl ?_
        refine sr_bipush (v := (98 : Int32)) (q := 44) C (show decode cX5_find 42 = .ok (.bipush 98, 2) from by decide +kernel) (by decide) rfl ?_
        refine sr_cVz (As := [.int v4, .int (98 : Int32)]) (st := []) (b := v1) (q := 47) C yvX9_isAt ml_X5_48 (cnX9_isAt (xo κ) v1 v4 (98 : Int32) hv1) hv1 (by decide) rfl rfl rfl (by decide) (by decide) (Nat.le_of_ble_eq_true rfl) rfl (show decode cX5_find 44 = .ok (.invokevirtual 48, 3) from by decide +kernel) rfl (fun x44 => ?_)
        refine sr_if_eq (q := 50) C 57 (show decode cX5_find 47 = .ok (.ifCond .eq 10, 3) from by decide +kernel) (by decide) rfl ?_ ?_
        · exact slX5_find_J57 C K15 v0 v1 v2 v3 v4 hv0 hv1
        · refine sr_iload_n (i := 3) (q := 51) C (show decode cX5_find 50 = .ok (.iload_n 3, 1) from by decide +kernel) rfl rfl rfl ?_
          refine sr_iconst (v := (1 : Int32)) (q := 52) C (show decode cX5_find 51 = .ok (.iconst 1, 1) from by decide +kernel) (by decide) rfl ?_
          refine sr_iload (i := 4) (q := 54) C (show decode cX5_find 52 = .ok (.iload 4, 2) from by decide +kernel) rfl rfl ?_
          refine sr_ishl (q := 55) C (show decode cX5_find 54 = .ok (.ishl, 1) from by decide +kernel) rfl ?_
          refine sr_ior (q := 56) C (show decode cX5_find 55 = .ok (.ior, 1) from by decide +kernel) rfl ?_
          refine sr_nmi (fun y56 => ?_)
          refine sr_istore_n (i := 3) (L' := [some (xad κ v0), some (xad κ v1), some (.int v2), some (.int y56), some (.int v4)]) (q := 57) C (show decode cX5_find 56 = .ok (.istore_n 3, 1) from by decide +kernel) rfl (by decide) rfl rfl ?_
          exact slX5_find_J57 C K15 v0 v1 v2 y56 v4 hv0 hv1
def fnX5_find (v0 : Nat) (v1 : Nat) (v2 : Int32) : sm_M Bool := m_gi v0 8 fun x1 => m_br (x1 = v2)
    (m_ret true)
    (fnX5_find_L15 4096 v0 v1 v2 (0 : Int32) (0 : Int32))
set_option maxHeartbeats 4000000 in
set_option maxRecDepth 100000 in
theorem slX5_find {κ : sm_X} (C : sm_C κ RX5 cX5_find 5 14) (v0 : Nat) (v1 : Nat) (v2 : Int32) (hv0 : kd v0 = 5) (hv1 : kd v1 = 9) : sm_S κ (fun r : Bool => .inr (some (.int (bI r)))) (.inl (0, [some (xad κ v0), some (xad κ v1), some (.int v2), none, none], [])) (fnX5_find v0 v1 v2) := by
  unfold fnX5_find
  refine sr_aload_n (i := 0) (q := 1) C (show decode cX5_find 0 = .ok (.aload_n 0, 1) from by decide +kernel) rfl rfl rfl ?_
  refine sr_geti (q := 4) C fl_X5_24 (Or.inl rfl) hv0 (show decode cX5_find 1 = .ok (.getfield 24, 3) from by decide +kernel) rfl (fun x1 => ?_)
  refine sr_iload_n (i := 2) (q := 5) C (show decode cX5_find 4 = .ok (.iload_n 2, 1) from by decide +kernel) rfl rfl rfl ?_
  refine sr_icmp_ne (q := 8) C 10 (show decode cX5_find 5 = .ok (.if_icmp .ne 5, 3) from by decide +kernel) (by decide) rfl ?_ ?_
  · refine sr_iconst (v := (0 : Int32)) (q := 11) C (show decode cX5_find 10 = .ok (.iconst 0, 1) from by decide +kernel) (by decide) rfl ?_
    refine sr_istore_n (i := 3) (L' := [some (xad κ v0), some (xad κ v1), some (.int v2), some (.int (0 : Int32)), none]) (q := 12) C (show decode cX5_find 11 = .ok (.istore_n 3, 1) from by decide +kernel) rfl (by decide) rfl rfl ?_
    refine sr_iconst (v := (0 : Int32)) (q := 13) C (show decode cX5_find 12 = .ok (.iconst 0, 1) from by decide +kernel) (by decide) rfl ?_
    refine sr_istore (i := 4) (L' := [some (xad κ v0), some (xad κ v1), some (.int v2), some (.int (0 : Int32)), some (.int (0 : Int32))]) (q := 15) C (show decode cX5_find 13 = .ok (.istore 4, 2) from by decide +kernel) (by decide) rfl rfl ?_
    exact slX5_find_L15 C 4096 v0 v1 v2 (0 : Int32) (0 : Int32) hv0 hv1
  · refine sr_iconst (v := (1 : Int32)) (q := 9) C (show decode cX5_find 8 = .ok (.iconst 1, 1) from by decide +kernel) (by decide) rfl ?_
    exact sr_ireturn C true rfl (show decode cX5_find 9 = .ok (.ireturn, 1) from by decide +kernel)
theorem cnX5_find (ω : sm_O) (v0 : Nat) (v1 : Nat) (v2 : Int32) (hv0 : kd v0 = 5) (hv1 : kd v1 = 9) : sm_Mt 14 yX5_find cX5_find 5 (some .boolean) ω [.ref (ω.1 + v0), .ref (ω.1 + v1), .int v2] (fun a => some (.int (bI a))) (fnX5_find v0 v1 v2) := by
  refine sm_conI (r := bI) (by decide) bI_nar (Nat.le_of_ble_eq_true rfl) ?_
  intro κ hκ C
  subst hκ
  exact slX5_find C v0 v1 v2 hv0 hv1
def fnX11_gap (v0 : Nat) (v1 : Int32) : sm_M Int32 := m_bnd (fnX11_isWay v0 v1) fun x2 => m_br ((bI x2) = 0)
    (m_ret (-1000000 : Int32))
    (m_bnd (fnX5_find (lk v0 11) (lk v0 6) v1) fun x17 => m_br ((bI x17) = 0)
    (m_ret (-1000000 : Int32))
    (m_gi (lk v0 11) 1 fun x31 => m_bnd (fnX11_overInThought v0 v1) fun x40 => m_bnd (fnX7_worthOf (lk v0 5) x40) fun x43 => m_ret (x31 - x43)))
set_option maxHeartbeats 4000000 in
set_option maxRecDepth 100000 in
theorem slX11_gap {κ : sm_X} (C : sm_C κ RX11 cX11_gap 2 15) (v0 : Nat) (v1 : Int32) (hv0 : kd v0 = 11) : sm_S κ (fun r : Int32 => .inr (some (.int r))) (.inl (0, [some (xad κ v0), some (.int v1)], [])) (fnX11_gap v0 v1) := by
  unfold fnX11_gap
  refine sr_aload_n (i := 0) (q := 1) C (show decode cX11_gap 0 = .ok (.aload_n 0, 1) from by decide +kernel) rfl rfl rfl ?_
  refine sr_iload_n (i := 1) (q := 2) C (show decode cX11_gap 1 = .ok (.iload_n 1, 1) from by decide +kernel) rfl rfl rfl ?_
  refine sr_cVz (As := [.int v1]) (st := []) (b := v0) (q := 5) C yvX11_isWay ml_X11_214 (cnX11_isWay (xo κ) v0 v1 hv0) hv0 (by decide) rfl rfl rfl (by decide) (by decide) (Nat.le_of_ble_eq_true rfl) rfl (show decode cX11_gap 2 = .ok (.invokevirtual 214, 3) from by decide +kernel) rfl (fun x2 => ?_)
  refine sr_if_eq (q := 8) C 23 (show decode cX11_gap 5 = .ok (.ifCond .eq 18, 3) from by decide +kernel) (by decide) rfl ?_ ?_
  · refine sr_ldcw (q := 26) C co_X11_296 (show decode cX11_gap 23 = .ok (.ldc_w 296, 3) from by decide +kernel) rfl ?_
    exact sr_ireturn C _ rfl (show decode cX11_gap 26 = .ok (.ireturn, 1) from by decide +kernel)
  · refine sr_aload_n (i := 0) (q := 9) C (show decode cX11_gap 8 = .ok (.aload_n 0, 1) from by decide +kernel) rfl rfl rfl ?_
    refine sr_getr (q := 12) C fl_X11_73 hv0 (show decode cX11_gap 9 = .ok (.getfield 73, 3) from by decide +kernel) rfl ?_
    refine sr_aload_n (i := 0) (q := 13) C (show decode cX11_gap 12 = .ok (.aload_n 0, 1) from by decide +kernel) rfl rfl rfl ?_
    refine sr_getr (q := 16) C fl_X11_36 hv0 (show decode cX11_gap 13 = .ok (.getfield 36, 3) from by decide +kernel) rfl ?_
    refine sr_iload_n (i := 1) (q := 17) C (show decode cX11_gap 16 = .ok (.iload_n 1, 1) from by decide +kernel) rfl rfl rfl ?_
    refine sr_cVz (As := [xad κ (lk v0 6), .int v1]) (st := []) (b := lk v0 11) (q := 20) C yvX5_find ml_X11_283 (cnX5_find (xo κ) (lk v0 11) (lk v0 6) v1 (kt hv0 kp_11_11) (kt hv0 kp_11_6)) (kt hv0 kp_11_11) (by decide) rfl rfl rfl (by decide) (by decide) (Nat.le_of_ble_eq_true rfl) rfl (show decode cX11_gap 17 = .ok (.invokevirtual 283, 3) from by decide +kernel) rfl (fun x17 => ?_)
    refine sr_if_ne (q := 23) C 27 (show decode cX11_gap 20 = .ok (.ifCond .ne 7, 3) from by decide +kernel) (by decide) rfl ?_ ?_
    · refine sr_aload_n (i := 0) (q := 28) C (show decode cX11_gap 27 = .ok (.aload_n 0, 1) from by decide +kernel) rfl rfl rfl ?_
      refine sr_getr (q := 31) C fl_X11_73 hv0 (show decode cX11_gap 28 = .ok (.getfield 73, 3) from by decide +kernel) rfl ?_
      refine sr_geti (q := 34) C fl_X11_287 (Or.inl rfl) (kt hv0 kp_11_11) (show decode cX11_gap 31 = .ok (.getfield 287, 3) from by decide +kernel) rfl (fun x31 => ?_)
      refine sr_aload_n (i := 0) (q := 35) C (show decode cX11_gap 34 = .ok (.aload_n 0, 1) from by decide +kernel) rfl rfl rfl ?_
      refine sr_getr (q := 38) C fl_X11_27 hv0 (show decode cX11_gap 35 = .ok (.getfield 27, 3) from by decide +kernel) rfl ?_
      refine sr_aload_n (i := 0) (q := 39) C (show decode cX11_gap 38 = .ok (.aload_n 0, 1) from by decide +kernel) rfl rfl rfl ?_
      refine sr_iload_n (i := 1) (q := 40) C (show decode cX11_gap 39 = .ok (.iload_n 1, 1) from by decide +kernel) rfl rfl rfl ?_
      refine sr_cVi (As := [.int v1]) (st := [xad κ (lk v0 5), .int x31]) (b := v0) (q := 43) C yvX11_overInThought ml_X11_265 (cnX11_overInThought (xo κ) v0 v1 hv0) hv0 (by decide) rfl rfl rfl (by decide) (by decide) (Nat.le_of_ble_eq_true rfl) rfl (show decode cX11_gap 40 = .ok (.invokevirtual 265, 3) from by decide +kernel) rfl (fun x40 => ?_)
      refine sr_cVi (As := [.int x40]) (st := [.int x31]) (b := lk v0 5) (q := 46) C yvX7_worthOf ml_X11_273 (cnX7_worthOf (xo κ) (lk v0 5) x40 (kt hv0 kp_11_5)) (kt hv0 kp_11_5) (by decide) rfl rfl rfl (by decide) (by decide) (Nat.le_of_ble_eq_true rfl) rfl (show decode cX11_gap 43 = .ok (.invokevirtual 273, 3) from by decide +kernel) rfl (fun x43 => ?_)
      refine sr_isub (q := 47) C (show decode cX11_gap 46 = .ok (.isub, 1) from by decide +kernel) rfl ?_
      exact sr_ireturn C _ rfl (show decode cX11_gap 47 = .ok (.ireturn, 1) from by decide +kernel)
    · refine sr_ldcw (q := 26) C co_X11_296 (show decode cX11_gap 23 = .ok (.ldc_w 296, 3) from by decide +kernel) rfl ?_
      exact sr_ireturn C _ rfl (show decode cX11_gap 26 = .ok (.ireturn, 1) from by decide +kernel)
theorem cnX11_gap (ω : sm_O) (v0 : Nat) (v1 : Int32) (hv0 : kd v0 = 11) : sm_Mt 15 yX11_gap cX11_gap 2 (some .int) ω [.ref (ω.1 + v0), .int v1] (fun a => some (.int a)) (fnX11_gap v0 v1) := by
  refine sm_conI (r := fun a => a) (by decide) (fun _ => rfl) (Nat.le_of_ble_eq_true rfl) ?_
  intro κ hκ C
  subst hκ
  exact slX11_gap C v0 v1 hv0
def fnX11_go (v0 : Nat) (v1 : Int32) (v2 : Int32) : sm_M Int32 := m_bnd (fnX7_isUnit (lk v0 5) v1) fun x5 => m_br ((bI x5) = 0)
    (m_ret (-2 : Int32))
    (m_bnd (fnX11_isWay v0 v2) fun x13 => m_br ((bI x13) = 0)
    (m_ret (-2 : Int32))
    (m_bnd (fnX0_send (lk v0 10) (lk v0 6) v1 v2) fun x32 => m_br (0 ≤ x32)
    (m_bnd (fnX5_forget (lk v0 11)) fun _ => m_ret x32)
    (m_ret (-5 : Int32))))
set_option maxHeartbeats 4000000 in
set_option maxRecDepth 100000 in
theorem slX11_go {κ : sm_X} (C : sm_C κ RX11 cX11_go 4 6) (v0 : Nat) (v1 : Int32) (v2 : Int32) (hv0 : kd v0 = 11) : sm_S κ (fun r : Int32 => .inr (some (.int r))) (.inl (0, [some (xad κ v0), some (.int v1), some (.int v2), none], [])) (fnX11_go v0 v1 v2) := by
  unfold fnX11_go
  refine sr_aload_n (i := 0) (q := 1) C (show decode cX11_go 0 = .ok (.aload_n 0, 1) from by decide +kernel) rfl rfl rfl ?_
  refine sr_getr (q := 4) C fl_X11_27 hv0 (show decode cX11_go 1 = .ok (.getfield 27, 3) from by decide +kernel) rfl ?_
  refine sr_iload_n (i := 1) (q := 5) C (show decode cX11_go 4 = .ok (.iload_n 1, 1) from by decide +kernel) rfl rfl rfl ?_
  refine sr_cVz (As := [.int v1]) (st := []) (b := lk v0 5) (q := 8) C yvX7_isUnit ml_X11_258 (cnX7_isUnit (xo κ) (lk v0 5) v1 (kt hv0 kp_11_5)) (kt hv0 kp_11_5) (by decide) rfl rfl rfl (by decide) (by decide) (Nat.le_of_ble_eq_true rfl) rfl (show decode cX11_go 5 = .ok (.invokevirtual 258, 3) from by decide +kernel) rfl (fun x5 => ?_)
  refine sr_if_eq (q := 11) C 19 (show decode cX11_go 8 = .ok (.ifCond .eq 11, 3) from by decide +kernel) (by decide) rfl ?_ ?_
  · refine sr_bipush (v := (-2 : Int32)) (q := 21) C (show decode cX11_go 19 = .ok (.bipush (-2), 2) from by decide +kernel) (by decide) rfl ?_
    exact sr_ireturn C _ rfl (show decode cX11_go 21 = .ok (.ireturn, 1) from by decide +kernel)
  · refine sr_aload_n (i := 0) (q := 12) C (show decode cX11_go 11 = .ok (.aload_n 0, 1) from by decide +kernel) rfl rfl rfl ?_
    refine sr_iload_n (i := 2) (q := 13) C (show decode cX11_go 12 = .ok (.iload_n 2, 1) from by decide +kernel) rfl rfl rfl ?_
    refine sr_cVz (As := [.int v2]) (st := []) (b := v0) (q := 16) C yvX11_isWay ml_X11_214 (cnX11_isWay (xo κ) v0 v2 hv0) hv0 (by decide) rfl rfl rfl (by decide) (by decide) (Nat.le_of_ble_eq_true rfl) rfl (show decode cX11_go 13 = .ok (.invokevirtual 214, 3) from by decide +kernel) rfl (fun x13 => ?_)
    refine sr_if_ne (q := 19) C 22 (show decode cX11_go 16 = .ok (.ifCond .ne 6, 3) from by decide +kernel) (by decide) rfl ?_ ?_
    · refine sr_aload_n (i := 0) (q := 23) C (show decode cX11_go 22 = .ok (.aload_n 0, 1) from by decide +kernel) rfl rfl rfl ?_
      refine sr_getr (q := 26) C fl_X11_64 hv0 (show decode cX11_go 23 = .ok (.getfield 64, 3) from by decide +kernel) rfl ?_
      refine sr_aload_n (i := 0) (q := 27) C (show decode cX11_go 26 = .ok (.aload_n 0, 1) from by decide +kernel) rfl rfl rfl ?_
      refine sr_getr (q := 30) C fl_X11_36 hv0 (show decode cX11_go 27 = .ok (.getfield 36, 3) from by decide +kernel) rfl ?_
      refine sr_iload_n (i := 1) (q := 31) C (show decode cX11_go 30 = .ok (.iload_n 1, 1) from by decide +kernel) rfl rfl rfl ?_
      refine sr_iload_n (i := 2) (q := 32) C (show decode cX11_go 31 = .ok (.iload_n 2, 1) from by decide +kernel) rfl rfl rfl ?_
      refine sr_cVi (As := [xad κ (lk v0 6), .int v1, .int v2]) (st := []) (b := lk v0 10) (q := 35) C yvX0_send ml_X11_261 (cnX0_send (xo κ) (lk v0 10) (lk v0 6) v1 v2 (kt hv0 kp_11_10) (kt hv0 kp_11_6)) (kt hv0 kp_11_10) (by decide) rfl rfl rfl (by decide) (by decide) (Nat.le_of_ble_eq_true rfl) rfl (show decode cX11_go 32 = .ok (.invokevirtual 261, 3) from by decide +kernel) rfl (fun x32 => ?_)
      refine sr_istore_n (i := 3) (L' := [some (xad κ v0), some (.int v1), some (.int v2), some (.int x32)]) (q := 36) C (show decode cX11_go 35 = .ok (.istore_n 3, 1) from by decide +kernel) rfl (by decide) rfl rfl ?_
      refine sr_iload_n (i := 3) (q := 37) C (show decode cX11_go 36 = .ok (.iload_n 3, 1) from by decide +kernel) rfl rfl rfl ?_
      refine sr_if_ge (q := 40) C 43 (show decode cX11_go 37 = .ok (.ifCond .ge 6, 3) from by decide +kernel) (by decide) rfl ?_ ?_
      · refine sr_aload_n (i := 0) (q := 44) C (show decode cX11_go 43 = .ok (.aload_n 0, 1) from by decide +kernel) rfl rfl rfl ?_
        refine sr_getr (q := 47) C fl_X11_73 hv0 (show decode cX11_go 44 = .ok (.getfield 73, 3) from by decide +kernel) rfl ?_
        refine sr_cVv (As := []) (st := []) (b := lk v0 11) (q := 50) C yvX5_forget ml_X11_140 (cnX5_forget (xo κ) (lk v0 11) (kt hv0 kp_11_11)) (kt hv0 kp_11_11) (by decide) rfl rfl rfl (by decide) (by decide) (Nat.le_of_ble_eq_true rfl) rfl (show decode cX11_go 47 = .ok (.invokevirtual 140, 3) from by decide +kernel) rfl (fun _ => ?_)
        refine sr_iload_n (i := 3) (q := 51) C (show decode cX11_go 50 = .ok (.iload_n 3, 1) from by decide +kernel) rfl rfl rfl ?_
        exact sr_ireturn C _ rfl (show decode cX11_go 51 = .ok (.ireturn, 1) from by decide +kernel)
      · refine sr_bipush (v := (-5 : Int32)) (q := 42) C (show decode cX11_go 40 = .ok (.bipush (-5), 2) from by decide +kernel) (by decide) rfl ?_
        exact sr_ireturn C _ rfl (show decode cX11_go 42 = .ok (.ireturn, 1) from by decide +kernel)
    · refine sr_bipush (v := (-2 : Int32)) (q := 21) C (show decode cX11_go 19 = .ok (.bipush (-2), 2) from by decide +kernel) (by decide) rfl ?_
      exact sr_ireturn C _ rfl (show decode cX11_go 21 = .ok (.ireturn, 1) from by decide +kernel)
theorem cnX11_go (ω : sm_O) (v0 : Nat) (v1 : Int32) (v2 : Int32) (hv0 : kd v0 = 11) : sm_Mt 6 yX11_go cX11_go 4 (some .int) ω [.ref (ω.1 + v0), .int v1, .int v2] (fun a => some (.int a)) (fnX11_go v0 v1 v2) := by
  refine sm_conI (r := fun a => a) (by decide) (fun _ => rfl) (Nat.le_of_ble_eq_true rfl) ?_
  intro κ hκ C
  subst hκ
  exact slX11_go C v0 v1 v2 hv0
def fnX11_home (v0 : Nat) (v1 : Int32) : sm_M Int32 := m_bnd (fnX11_isWay v0 v1) fun x2 => m_br ((bI x2) = 0)
    (m_ret (-2 : Int32))
    (m_bnd (fnX11_overInThought v0 v1) fun x13 => m_bnd (fnX0_sendHome (lk v0 10) (lk v0 7) v1) fun x26 => m_bnd (fnJ6_bitCount_0f7a4 x26) fun x29 => m_ret x29)
set_option maxHeartbeats 4000000 in
set_option maxRecDepth 100000 in
theorem slX11_home {κ : sm_X} (C : sm_C κ RX11 cX11_home 2 8) (v0 : Nat) (v1 : Int32) (hv0 : kd v0 = 11) : sm_S κ (fun r : Int32 => .inr (some (.int r))) (.inl (0, [some (xad κ v0), some (.int v1)], [])) (fnX11_home v0 v1) := by
  unfold fnX11_home
  refine sr_aload_n (i := 0) (q := 1) C (show decode cX11_home 0 = .ok (.aload_n 0, 1) from by decide +kernel) rfl rfl rfl ?_
  refine sr_iload_n (i := 1) (q := 2) C (show decode cX11_home 1 = .ok (.iload_n 1, 1) from by decide +kernel) rfl rfl rfl ?_
  refine sr_cVz (As := [.int v1]) (st := []) (b := v0) (q := 5) C yvX11_isWay ml_X11_214 (cnX11_isWay (xo κ) v0 v1 hv0) hv0 (by decide) rfl rfl rfl (by decide) (by decide) (Nat.le_of_ble_eq_true rfl) rfl (show decode cX11_home 2 = .ok (.invokevirtual 214, 3) from by decide +kernel) rfl (fun x2 => ?_)
  refine sr_if_ne (q := 8) C 11 (show decode cX11_home 5 = .ok (.ifCond .ne 6, 3) from by decide +kernel) (by decide) rfl ?_ ?_
  · refine sr_aload_n (i := 0) (q := 12) C (show decode cX11_home 11 = .ok (.aload_n 0, 1) from by decide +kernel) rfl rfl rfl ?_
    refine sr_iload_n (i := 1) (q := 13) C (show decode cX11_home 12 = .ok (.iload_n 1, 1) from by decide +kernel) rfl rfl rfl ?_
    refine sr_cVi (As := [.int v1]) (st := []) (b := v0) (q := 16) C yvX11_overInThought ml_X11_265 (cnX11_overInThought (xo κ) v0 v1 hv0) hv0 (by decide) rfl rfl rfl (by decide) (by decide) (Nat.le_of_ble_eq_true rfl) rfl (show decode cX11_home 13 = .ok (.invokevirtual 265, 3) from by decide +kernel) rfl (fun x13 => ?_)
    refine sr_pop (q := 17) C (show decode cX11_home 16 = .ok (.pop, 1) from by decide +kernel) rfl rfl ?_
    refine sr_aload_n (i := 0) (q := 18) C (show decode cX11_home 17 = .ok (.aload_n 0, 1) from by decide +kernel) rfl rfl rfl ?_
    refine sr_getr (q := 21) C fl_X11_64 hv0 (show decode cX11_home 18 = .ok (.getfield 64, 3) from by decide +kernel) rfl ?_
    refine sr_aload_n (i := 0) (q := 22) C (show decode cX11_home 21 = .ok (.aload_n 0, 1) from by decide +kernel) rfl rfl rfl ?_
    refine sr_getr (q := 25) C fl_X11_40 hv0 (show decode cX11_home 22 = .ok (.getfield 40, 3) from by decide +kernel) rfl ?_
    refine sr_iload_n (i := 1) (q := 26) C (show decode cX11_home 25 = .ok (.iload_n 1, 1) from by decide +kernel) rfl rfl rfl ?_
    refine sr_cVi (As := [xad κ (lk v0 7), .int v1]) (st := []) (b := lk v0 10) (q := 29) C yvX0_sendHome ml_X11_297 (cnX0_sendHome (xo κ) (lk v0 10) (lk v0 7) v1 (kt hv0 kp_11_10) (kt hv0 kp_11_7)) (kt hv0 kp_11_10) (by decide) rfl rfl rfl (by decide) (by decide) (Nat.le_of_ble_eq_true rfl) rfl (show decode cX11_home 26 = .ok (.invokevirtual 297, 3) from by decide +kernel) rfl (fun x26 => ?_)
    refine sr_cSi (As := [.int x26]) (st := []) (q := 32) C ysJ6_bitCount_0f7a4 ml_X11_268 (cnJ6_bitCount_0f7a4 (xo κ) x26) rfl (by decide) (by decide) (Nat.le_of_ble_eq_true rfl) rfl (show decode cX11_home 29 = .ok (.invokestatic 268, 3) from by decide +kernel) rfl (fun x29 => ?_)
    exact sr_ireturn C _ rfl (show decode cX11_home 32 = .ok (.ireturn, 1) from by decide +kernel)
  · refine sr_bipush (v := (-2 : Int32)) (q := 10) C (show decode cX11_home 8 = .ok (.bipush (-2), 2) from by decide +kernel) (by decide) rfl ?_
    exact sr_ireturn C _ rfl (show decode cX11_home 10 = .ok (.ireturn, 1) from by decide +kernel)
theorem cnX11_home (ω : sm_O) (v0 : Nat) (v1 : Int32) (hv0 : kd v0 = 11) : sm_Mt 8 yX11_home cX11_home 2 (some .int) ω [.ref (ω.1 + v0), .int v1] (fun a => some (.int a)) (fnX11_home v0 v1) := by
  refine sm_conI (r := fun a => a) (by decide) (fun _ => rfl) (Nat.le_of_ble_eq_true rfl) ?_
  intro κ hκ C
  subst hκ
  exact slX11_home C v0 v1 hv0
def fnX11_isHour (v0 : Nat) (v1 : Int32) : sm_M Bool := m_bnd (fnX11_isTold v0) fun x1 => m_br ((bI x1) = 0)
    (m_ret false)
    (m_br (v1 < 0)
    (m_ret false)
    (m_br ((24 : Int32) ≤ v1)
    (m_ret false)
    (m_ret true)))
set_option maxHeartbeats 4000000 in
set_option maxRecDepth 100000 in
theorem slX11_isHour {κ : sm_X} (C : sm_C κ RX11 cX11_isHour 2 2) (v0 : Nat) (v1 : Int32) (hv0 : kd v0 = 11) : sm_S κ (fun r : Bool => .inr (some (.int (bI r)))) (.inl (0, [some (xad κ v0), some (.int v1)], [])) (fnX11_isHour v0 v1) := by
  unfold fnX11_isHour
  refine sr_aload_n (i := 0) (q := 1) C (show decode cX11_isHour 0 = .ok (.aload_n 0, 1) from by decide +kernel) rfl rfl rfl ?_
  refine sr_cVz (As := []) (st := []) (b := v0) (q := 4) C yvX11_isTold ml_X11_303 (cnX11_isTold (xo κ) v0 hv0) hv0 (by decide) rfl rfl rfl (by decide) (by decide) (Nat.le_of_ble_eq_true rfl) rfl (show decode cX11_isHour 1 = .ok (.invokevirtual 303, 3) from by decide +kernel) rfl (fun x1 => ?_)
  refine sr_if_eq (q := 7) C 21 (show decode cX11_isHour 4 = .ok (.ifCond .eq 17, 3) from by decide +kernel) (by decide) rfl ?_ ?_
  · refine sr_iconst (v := (0 : Int32)) (q := 22) C (show decode cX11_isHour 21 = .ok (.iconst 0, 1) from by decide +kernel) (by decide) rfl ?_
    exact sr_ireturn C false rfl (show decode cX11_isHour 22 = .ok (.ireturn, 1) from by decide +kernel)
  · refine sr_iload_n (i := 1) (q := 8) C (show decode cX11_isHour 7 = .ok (.iload_n 1, 1) from by decide +kernel) rfl rfl rfl ?_
    refine sr_if_lt (q := 11) C 21 (show decode cX11_isHour 8 = .ok (.ifCond .lt 13, 3) from by decide +kernel) (by decide) rfl ?_ ?_
    · refine sr_iconst (v := (0 : Int32)) (q := 22) C (show decode cX11_isHour 21 = .ok (.iconst 0, 1) from by decide +kernel) (by decide) rfl ?_
      exact sr_ireturn C false rfl (show decode cX11_isHour 22 = .ok (.ireturn, 1) from by decide +kernel)
    · refine sr_iload_n (i := 1) (q := 12) C (show decode cX11_isHour 11 = .ok (.iload_n 1, 1) from by decide +kernel) rfl rfl rfl ?_
      refine sr_bipush (v := (24 : Int32)) (q := 14) C (show decode cX11_isHour 12 = .ok (.bipush 24, 2) from by decide +kernel) (by decide) rfl ?_
      refine sr_icmp_ge (q := 17) C 21 (show decode cX11_isHour 14 = .ok (.if_icmp .ge 7, 3) from by decide +kernel) (by decide) rfl ?_ ?_
      · refine sr_iconst (v := (0 : Int32)) (q := 22) C (show decode cX11_isHour 21 = .ok (.iconst 0, 1) from by decide +kernel) (by decide) rfl ?_
        exact sr_ireturn C false rfl (show decode cX11_isHour 22 = .ok (.ireturn, 1) from by decide +kernel)
      · refine sr_iconst (v := (1 : Int32)) (q := 18) C (show decode cX11_isHour 17 = .ok (.iconst 1, 1) from by decide +kernel) (by decide) rfl ?_
        refine sr_goto (q := 22) C (show decode cX11_isHour 18 = .ok (.goto 4, 3) from by decide +kernel) (by decide) ?_
        exact sr_ireturn C true rfl (show decode cX11_isHour 22 = .ok (.ireturn, 1) from by decide +kernel)
theorem cnX11_isHour (ω : sm_O) (v0 : Nat) (v1 : Int32) (hv0 : kd v0 = 11) : sm_Mt 2 yX11_isHour cX11_isHour 2 (some .boolean) ω [.ref (ω.1 + v0), .int v1] (fun a => some (.int (bI a))) (fnX11_isHour v0 v1) := by
  refine sm_conI (r := bI) (by decide) bI_nar (Nat.le_of_ble_eq_true rfl) ?_
  intro κ hκ C
  subst hκ
  exact slX11_isHour C v0 v1 hv0
def fnX11_hour (v0 : Nat) (v1 : Int32) : sm_M Int32 := m_bnd (fnX11_isHour v0 v1) fun x2 => m_br ((bI x2) = 0)
    (m_ret (-2 : Int32))
    (m_gi (lk v0 6) 1 fun x15 => m_si (lk v0 6) 1 v1 <| m_bnd (fnX5_forget (lk v0 11)) fun _ => m_ret x15)
set_option maxHeartbeats 4000000 in
set_option maxRecDepth 100000 in
theorem slX11_hour {κ : sm_X} (C : sm_C κ RX11 cX11_hour 3 3) (v0 : Nat) (v1 : Int32) (hv0 : kd v0 = 11) : sm_S κ (fun r : Int32 => .inr (some (.int r))) (.inl (0, [some (xad κ v0), some (.int v1), none], [])) (fnX11_hour v0 v1) := by
  unfold fnX11_hour
  refine sr_aload_n (i := 0) (q := 1) C (show decode cX11_hour 0 = .ok (.aload_n 0, 1) from by decide +kernel) rfl rfl rfl ?_
  refine sr_iload_n (i := 1) (q := 2) C (show decode cX11_hour 1 = .ok (.iload_n 1, 1) from by decide +kernel) rfl rfl rfl ?_
  refine sr_cVz (As := [.int v1]) (st := []) (b := v0) (q := 5) C yvX11_isHour ml_X11_201 (cnX11_isHour (xo κ) v0 v1 hv0) hv0 (by decide) rfl rfl rfl (by decide) (by decide) (Nat.le_of_ble_eq_true rfl) rfl (show decode cX11_hour 2 = .ok (.invokevirtual 201, 3) from by decide +kernel) rfl (fun x2 => ?_)
  refine sr_if_ne (q := 8) C 11 (show decode cX11_hour 5 = .ok (.ifCond .ne 6, 3) from by decide +kernel) (by decide) rfl ?_ ?_
  · refine sr_aload_n (i := 0) (q := 12) C (show decode cX11_hour 11 = .ok (.aload_n 0, 1) from by decide +kernel) rfl rfl rfl ?_
    refine sr_getr (q := 15) C fl_X11_36 hv0 (show decode cX11_hour 12 = .ok (.getfield 36, 3) from by decide +kernel) rfl ?_
    refine sr_geti (q := 18) C fl_X11_204 (Or.inl rfl) (kt hv0 kp_11_6) (show decode cX11_hour 15 = .ok (.getfield 204, 3) from by decide +kernel) rfl (fun x15 => ?_)
    refine sr_istore_n (i := 2) (L' := [some (xad κ v0), some (.int v1), some (.int x15)]) (q := 19) C (show decode cX11_hour 18 = .ok (.istore_n 2, 1) from by decide +kernel) rfl (by decide) rfl rfl ?_
    refine sr_aload_n (i := 0) (q := 20) C (show decode cX11_hour 19 = .ok (.aload_n 0, 1) from by decide +kernel) rfl rfl rfl ?_
    refine sr_getr (q := 23) C fl_X11_36 hv0 (show decode cX11_hour 20 = .ok (.getfield 36, 3) from by decide +kernel) rfl ?_
    refine sr_iload_n (i := 1) (q := 24) C (show decode cX11_hour 23 = .ok (.iload_n 1, 1) from by decide +kernel) rfl rfl rfl ?_
    refine sr_puti (q := 27) C fp_X11_204 (kt hv0 kp_11_6) (show decode cX11_hour 24 = .ok (.putfield 204, 3) from by decide +kernel) rfl ?_
    refine sr_aload_n (i := 0) (q := 28) C (show decode cX11_hour 27 = .ok (.aload_n 0, 1) from by decide +kernel) rfl rfl rfl ?_
    refine sr_getr (q := 31) C fl_X11_73 hv0 (show decode cX11_hour 28 = .ok (.getfield 73, 3) from by decide +kernel) rfl ?_
    refine sr_cVv (As := []) (st := []) (b := lk v0 11) (q := 34) C yvX5_forget ml_X11_140 (cnX5_forget (xo κ) (lk v0 11) (kt hv0 kp_11_11)) (kt hv0 kp_11_11) (by decide) rfl rfl rfl (by decide) (by decide) (Nat.le_of_ble_eq_true rfl) rfl (show decode cX11_hour 31 = .ok (.invokevirtual 140, 3) from by decide +kernel) rfl (fun _ => ?_)
    refine sr_iload_n (i := 2) (q := 35) C (show decode cX11_hour 34 = .ok (.iload_n 2, 1) from by decide +kernel) rfl rfl rfl ?_
    exact sr_ireturn C _ rfl (show decode cX11_hour 35 = .ok (.ireturn, 1) from by decide +kernel)
  · refine sr_bipush (v := (-2 : Int32)) (q := 10) C (show decode cX11_hour 8 = .ok (.bipush (-2), 2) from by decide +kernel) (by decide) rfl ?_
    exact sr_ireturn C _ rfl (show decode cX11_hour 10 = .ok (.ireturn, 1) from by decide +kernel)
theorem cnX11_hour (ω : sm_O) (v0 : Nat) (v1 : Int32) (hv0 : kd v0 = 11) : sm_Mt 3 yX11_hour cX11_hour 3 (some .int) ω [.ref (ω.1 + v0), .int v1] (fun a => some (.int a)) (fnX11_hour v0 v1) := by
  refine sm_conI (r := fun a => a) (by decide) (fun _ => rfl) (Nat.le_of_ble_eq_true rfl) ?_
  intro κ hκ C
  subst hκ
  exact slX11_hour C v0 v1 hv0
def fnX11_image (v0 : Nat) (v1 : Int32) : sm_M Int32 := m_bnd (fnX11_isImage v1) fun x1 => m_br ((bI x1) = 0)
    (m_ret (-2 : Int32))
    (m_ap (lk v0 15) v1 fun x15 => m_bnd (fnX7_takeFrom x15 (lk v0 5)) fun _ => m_ap (lk v0 16) v1 fun x28 => m_bnd (fnX9_takeFrom x28 (lk v0 6)) fun _ => m_sai (lk v0 17) v1 (vp_nar .boolean (1 : Int32)) <| m_ret (0 : Int32))
set_option maxHeartbeats 4000000 in
set_option maxRecDepth 100000 in
theorem slX11_image {κ : sm_X} (C : sm_C κ RX11 cX11_image 2 2) (v0 : Nat) (v1 : Int32) (hv0 : kd v0 = 11) : sm_S κ (fun r : Int32 => .inr (some (.int r))) (.inl (0, [some (xad κ v0), some (.int v1)], [])) (fnX11_image v0 v1) := by
  unfold fnX11_image
  refine sr_iload_n (i := 1) (q := 1) C (show decode cX11_image 0 = .ok (.iload_n 1, 1) from by decide +kernel) rfl rfl rfl ?_
  refine sr_cSz (As := [.int v1]) (st := []) (q := 4) C ysX11_isImage ml_X11_437 (cnX11_isImage (xo κ) v1) rfl (by decide) (by decide) (Nat.le_of_ble_eq_true rfl) rfl (show decode cX11_image 1 = .ok (.invokestatic 437, 3) from by decide +kernel) rfl (fun x1 => ?_)
  refine sr_if_ne (q := 7) C 10 (show decode cX11_image 4 = .ok (.ifCond .ne 6, 3) from by decide +kernel) (by decide) rfl ?_ ?_
  · refine sr_aload_n (i := 0) (q := 11) C (show decode cX11_image 10 = .ok (.aload_n 0, 1) from by decide +kernel) rfl rfl rfl ?_
    refine sr_getr (q := 14) C fl_X11_97 hv0 (show decode cX11_image 11 = .ok (.getfield 97, 3) from by decide +kernel) rfl ?_
    refine sr_iload_n (i := 1) (q := 15) C (show decode cX11_image 14 = .ok (.iload_n 1, 1) from by decide +kernel) rfl rfl rfl ?_
    refine sr_aaload (t0 := 6) (q := 16) C (kt hv0 kp_11_15) (Or.inr (Or.inr rfl)) rfl (show decode cX11_image 15 = .ok (.aaload, 1) from by decide +kernel) rfl (fun x15 hx15 => ?_)
    refine sr_aload_n (i := 0) (q := 17) C (show decode cX11_image 16 = .ok (.aload_n 0, 1) from by decide +kernel) rfl rfl rfl ?_
    refine sr_getr (q := 20) C fl_X11_27 hv0 (show decode cX11_image 17 = .ok (.getfield 27, 3) from by decide +kernel) rfl ?_
    refine sr_cVv (As := [xad κ (lk v0 5)]) (st := []) (b := x15) (q := 23) C yvX7_takeFrom ml_X11_131 (cnX7_takeFrom (xo κ) x15 (lk v0 5) hx15 (kt hv0 kp_11_5)) hx15 (by decide) rfl rfl rfl (by decide) (by decide) (Nat.le_of_ble_eq_true rfl) rfl (show decode cX11_image 20 = .ok (.invokevirtual 131, 3) from by decide +kernel) rfl (fun _ => ?_)
    refine sr_aload_n (i := 0) (q := 24) C (show decode cX11_image 23 = .ok (.aload_n 0, 1) from by decide +kernel) rfl rfl rfl ?_
    refine sr_getr (q := 27) C fl_X11_101 hv0 (show decode cX11_image 24 = .ok (.getfield 101, 3) from by decide +kernel) rfl ?_
    refine sr_iload_n (i := 1) (q := 28) C (show decode cX11_image 27 = .ok (.iload_n 1, 1) from by decide +kernel) rfl rfl rfl ?_
    refine sr_aaload (t0 := 4) (q := 29) C (kt hv0 kp_11_16) (Or.inl rfl) rfl (show decode cX11_image 28 = .ok (.aaload, 1) from by decide +kernel) rfl (fun x28 hx28 => ?_)
    refine sr_aload_n (i := 0) (q := 30) C (show decode cX11_image 29 = .ok (.aload_n 0, 1) from by decide +kernel) rfl rfl rfl ?_
    refine sr_getr (q := 33) C fl_X11_36 hv0 (show decode cX11_image 30 = .ok (.getfield 36, 3) from by decide +kernel) rfl ?_
    refine sr_cVv (As := [xad κ (lk v0 6)]) (st := []) (b := x28) (q := 36) C yvX9_takeFrom ml_X11_239 (cnX9_takeFrom (xo κ) x28 (lk v0 6) hx28 (kt hv0 kp_11_6)) hx28 (by decide) rfl rfl rfl (by decide) (by decide) (Nat.le_of_ble_eq_true rfl) rfl (show decode cX11_image 33 = .ok (.invokevirtual 239, 3) from by decide +kernel) rfl (fun _ => ?_)
    refine sr_aload_n (i := 0) (q := 37) C (show decode cX11_image 36 = .ok (.aload_n 0, 1) from by decide +kernel) rfl rfl rfl ?_
    refine sr_getr (q := 40) C fl_X11_105 hv0 (show decode cX11_image 37 = .ok (.getfield 105, 3) from by decide +kernel) rfl ?_
    refine sr_iload_n (i := 1) (q := 41) C (show decode cX11_image 40 = .ok (.iload_n 1, 1) from by decide +kernel) rfl rfl rfl ?_
    refine sr_iconst (v := (1 : Int32)) (q := 42) C (show decode cX11_image 41 = .ok (.iconst 1, 1) from by decide +kernel) (by decide) rfl ?_
    refine sr_zastore (q := 43) C (kt hv0 kp_11_17) (show decode cX11_image 42 = .ok (.bastore, 1) from by decide +kernel) rfl ?_
    refine sr_iconst (v := (0 : Int32)) (q := 44) C (show decode cX11_image 43 = .ok (.iconst 0, 1) from by decide +kernel) (by decide) rfl ?_
    exact sr_ireturn C _ rfl (show decode cX11_image 44 = .ok (.ireturn, 1) from by decide +kernel)
  · refine sr_bipush (v := (-2 : Int32)) (q := 9) C (show decode cX11_image 7 = .ok (.bipush (-2), 2) from by decide +kernel) (by decide) rfl ?_
    exact sr_ireturn C _ rfl (show decode cX11_image 9 = .ok (.ireturn, 1) from by decide +kernel)
theorem cnX11_image (ω : sm_O) (v0 : Nat) (v1 : Int32) (hv0 : kd v0 = 11) : sm_Mt 2 yX11_image cX11_image 2 (some .int) ω [.ref (ω.1 + v0), .int v1] (fun a => some (.int a)) (fnX11_image v0 v1) := by
  refine sm_conI (r := fun a => a) (by decide) (fun _ => rfl) (Nat.le_of_ble_eq_true rfl) ?_
  intro κ hκ C
  subst hκ
  exact slX11_image C v0 v1 hv0
def fnX11_isLoad (v0 : Int32) : sm_M Bool := m_br (v0 < (1 : Int32))
    (m_ret false)
    (m_br ((9 : Int32) < v0)
    (m_ret false)
    (m_ret true))
set_option maxHeartbeats 4000000 in
set_option maxRecDepth 100000 in
theorem slX11_isLoad {κ : sm_X} (C : sm_C κ RX11 cX11_isLoad 1 1) (v0 : Int32)  : sm_S κ (fun r : Bool => .inr (some (.int (bI r)))) (.inl (0, [some (.int v0)], [])) (fnX11_isLoad v0) := by
  unfold fnX11_isLoad
  refine sr_iload_n (i := 0) (q := 1) C (show decode cX11_isLoad 0 = .ok (.iload_n 0, 1) from by decide +kernel) rfl rfl rfl ?_
  refine sr_iconst (v := (1 : Int32)) (q := 2) C (show decode cX11_isLoad 1 = .ok (.iconst 1, 1) from by decide +kernel) (by decide) rfl ?_
  refine sr_icmp_lt (q := 5) C 15 (show decode cX11_isLoad 2 = .ok (.if_icmp .lt 13, 3) from by decide +kernel) (by decide) rfl ?_ ?_
  · refine sr_iconst (v := (0 : Int32)) (q := 16) C (show decode cX11_isLoad 15 = .ok (.iconst 0, 1) from by decide +kernel) (by decide) rfl ?_
    exact sr_ireturn C false rfl (show decode cX11_isLoad 16 = .ok (.ireturn, 1) from by decide +kernel)
  · refine sr_iload_n (i := 0) (q := 6) C (show decode cX11_isLoad 5 = .ok (.iload_n 0, 1) from by decide +kernel) rfl rfl rfl ?_
    refine sr_bipush (v := (9 : Int32)) (q := 8) C (show decode cX11_isLoad 6 = .ok (.bipush 9, 2) from by decide +kernel) (by decide) rfl ?_
    refine sr_icmp_gt (q := 11) C 15 (show decode cX11_isLoad 8 = .ok (.if_icmp .gt 7, 3) from by decide +kernel) (by decide) rfl ?_ ?_
    · refine sr_iconst (v := (0 : Int32)) (q := 16) C (show decode cX11_isLoad 15 = .ok (.iconst 0, 1) from by decide +kernel) (by decide) rfl ?_
      exact sr_ireturn C false rfl (show decode cX11_isLoad 16 = .ok (.ireturn, 1) from by decide +kernel)
    · refine sr_iconst (v := (1 : Int32)) (q := 12) C (show decode cX11_isLoad 11 = .ok (.iconst 1, 1) from by decide +kernel) (by decide) rfl ?_
      refine sr_goto (q := 16) C (show decode cX11_isLoad 12 = .ok (.goto 4, 3) from by decide +kernel) (by decide) ?_
      exact sr_ireturn C true rfl (show decode cX11_isLoad 16 = .ok (.ireturn, 1) from by decide +kernel)
theorem cnX11_isLoad (ω : sm_O) (v0 : Int32)  : sm_Mt 1 yX11_isLoad cX11_isLoad 1 (some .boolean) ω [.int v0] (fun a => some (.int (bI a))) (fnX11_isLoad v0) := by
  refine sm_conI (r := bI) (by decide) bI_nar (Nat.le_of_ble_eq_true rfl) ?_
  intro κ hκ C
  subst hκ
  exact slX11_isLoad C v0
def fnX11_isSeed (v0 : Int32) : sm_M Bool := m_br (v0 < 0)
    (m_ret false)
    (m_br ((2000000000 : Int32) < v0)
    (m_ret false)
    (m_ret true))
set_option maxHeartbeats 4000000 in
set_option maxRecDepth 100000 in
theorem slX11_isSeed {κ : sm_X} (C : sm_C κ RX11 cX11_isSeed 1 1) (v0 : Int32)  : sm_S κ (fun r : Bool => .inr (some (.int (bI r)))) (.inl (0, [some (.int v0)], [])) (fnX11_isSeed v0) := by
  unfold fnX11_isSeed
  refine sr_iload_n (i := 0) (q := 1) C (show decode cX11_isSeed 0 = .ok (.iload_n 0, 1) from by decide +kernel) rfl rfl rfl ?_
  refine sr_if_lt (q := 4) C 15 (show decode cX11_isSeed 1 = .ok (.ifCond .lt 14, 3) from by decide +kernel) (by decide) rfl ?_ ?_
  · refine sr_iconst (v := (0 : Int32)) (q := 16) C (show decode cX11_isSeed 15 = .ok (.iconst 0, 1) from by decide +kernel) (by decide) rfl ?_
    exact sr_ireturn C false rfl (show decode cX11_isSeed 16 = .ok (.ireturn, 1) from by decide +kernel)
  · refine sr_iload_n (i := 0) (q := 5) C (show decode cX11_isSeed 4 = .ok (.iload_n 0, 1) from by decide +kernel) rfl rfl rfl ?_
    refine sr_ldcw (q := 8) C co_X11_458 (show decode cX11_isSeed 5 = .ok (.ldc_w 458, 3) from by decide +kernel) rfl ?_
    refine sr_icmp_gt (q := 11) C 15 (show decode cX11_isSeed 8 = .ok (.if_icmp .gt 7, 3) from by decide +kernel) (by decide) rfl ?_ ?_
    · refine sr_iconst (v := (0 : Int32)) (q := 16) C (show decode cX11_isSeed 15 = .ok (.iconst 0, 1) from by decide +kernel) (by decide) rfl ?_
      exact sr_ireturn C false rfl (show decode cX11_isSeed 16 = .ok (.ireturn, 1) from by decide +kernel)
    · refine sr_iconst (v := (1 : Int32)) (q := 12) C (show decode cX11_isSeed 11 = .ok (.iconst 1, 1) from by decide +kernel) (by decide) rfl ?_
      refine sr_goto (q := 16) C (show decode cX11_isSeed 12 = .ok (.goto 4, 3) from by decide +kernel) (by decide) ?_
      exact sr_ireturn C true rfl (show decode cX11_isSeed 16 = .ok (.ireturn, 1) from by decide +kernel)
theorem cnX11_isSeed (ω : sm_O) (v0 : Int32)  : sm_Mt 1 yX11_isSeed cX11_isSeed 1 (some .boolean) ω [.int v0] (fun a => some (.int (bI a))) (fnX11_isSeed v0) := by
  refine sm_conI (r := bI) (by decide) bI_nar (Nat.le_of_ble_eq_true rfl) ?_
  intro κ hκ C
  subst hκ
  exact slX11_isSeed C v0
def fnX11_judge (v0 : Nat) (v1 : Int32) : sm_M Int32 := m_bnd (fnX11_isSlot v1) fun x1 => m_br ((bI x1) = 0)
    (m_ret (-2 : Int32))
    (m_ap (lk v0 14) v1 fun x15 => m_gi x15 0 fun x16 => m_br (x16 = 0)
    (m_ret (-6 : Int32))
    (m_ap (lk v0 14) v1 fun x28 => m_bnd (fnX11_stepsInThought v0 x28) fun x29 => m_ret x29))
set_option maxHeartbeats 4000000 in
set_option maxRecDepth 100000 in
theorem slX11_judge {κ : sm_X} (C : sm_C κ RX11 cX11_judge 2 7) (v0 : Nat) (v1 : Int32) (hv0 : kd v0 = 11) : sm_S κ (fun r : Int32 => .inr (some (.int r))) (.inl (0, [some (xad κ v0), some (.int v1)], [])) (fnX11_judge v0 v1) := by
  unfold fnX11_judge
  refine sr_iload_n (i := 1) (q := 1) C (show decode cX11_judge 0 = .ok (.iload_n 1, 1) from by decide +kernel) rfl rfl rfl ?_
  refine sr_cSz (As := [.int v1]) (st := []) (q := 4) C ysX11_isSlot ml_X11_228 (cnX11_isSlot (xo κ) v1) rfl (by decide) (by decide) (Nat.le_of_ble_eq_true rfl) rfl (show decode cX11_judge 1 = .ok (.invokestatic 228, 3) from by decide +kernel) rfl (fun x1 => ?_)
  refine sr_if_ne (q := 7) C 10 (show decode cX11_judge 4 = .ok (.ifCond .ne 6, 3) from by decide +kernel) (by decide) rfl ?_ ?_
  · refine sr_aload_n (i := 0) (q := 11) C (show decode cX11_judge 10 = .ok (.aload_n 0, 1) from by decide +kernel) rfl rfl rfl ?_
    refine sr_getr (q := 14) C fl_X11_93 hv0 (show decode cX11_judge 11 = .ok (.getfield 93, 3) from by decide +kernel) rfl ?_
    refine sr_iload_n (i := 1) (q := 15) C (show decode cX11_judge 14 = .ok (.iload_n 1, 1) from by decide +kernel) rfl rfl rfl ?_
    refine sr_aaload (t0 := 5) (q := 16) C (kt hv0 kp_11_14) (Or.inr (Or.inl rfl)) rfl (show decode cX11_judge 15 = .ok (.aaload, 1) from by decide +kernel) rfl (fun x15 hx15 => ?_)
    refine sr_geti (q := 19) C fl_X11_231 (Or.inr rfl) hx15 (show decode cX11_judge 16 = .ok (.getfield 231, 3) from by decide +kernel) rfl (fun x16 => ?_)
    refine sr_if_eq (q := 22) C 35 (show decode cX11_judge 19 = .ok (.ifCond .eq 16, 3) from by decide +kernel) (by decide) rfl ?_ ?_
    · refine sr_bipush (v := (-6 : Int32)) (q := 37) C (show decode cX11_judge 35 = .ok (.bipush (-6), 2) from by decide +kernel) (by decide) rfl ?_
      exact sr_ireturn C _ rfl (show decode cX11_judge 37 = .ok (.ireturn, 1) from by decide +kernel)
    · refine sr_aload_n (i := 0) (q := 23) C (show decode cX11_judge 22 = .ok (.aload_n 0, 1) from by decide +kernel) rfl rfl rfl ?_
      refine sr_aload_n (i := 0) (q := 24) C (show decode cX11_judge 23 = .ok (.aload_n 0, 1) from by decide +kernel) rfl rfl rfl ?_
      refine sr_getr (q := 27) C fl_X11_93 hv0 (show decode cX11_judge 24 = .ok (.getfield 93, 3) from by decide +kernel) rfl ?_
      refine sr_iload_n (i := 1) (q := 28) C (show decode cX11_judge 27 = .ok (.iload_n 1, 1) from by decide +kernel) rfl rfl rfl ?_
      refine sr_aaload (t0 := 5) (q := 29) C (kt hv0 kp_11_14) (Or.inr (Or.inl rfl)) rfl (show decode cX11_judge 28 = .ok (.aaload, 1) from by decide +kernel) rfl (fun x28 hx28 => ?_)
      refine sr_cVi (As := [xad κ x28]) (st := []) (b := v0) (q := 32) C yvX11_stepsInThought ml_X11_235 (cnX11_stepsInThought (xo κ) v0 x28 hv0 hx28) hv0 (by decide) rfl rfl rfl (by decide) (by decide) (Nat.le_of_ble_eq_true rfl) rfl (show decode cX11_judge 29 = .ok (.invokevirtual 235, 3) from by decide +kernel) rfl (fun x29 => ?_)
      refine sr_goto (q := 37) C (show decode cX11_judge 32 = .ok (.goto 5, 3) from by decide +kernel) (by decide) ?_
      exact sr_ireturn C _ rfl (show decode cX11_judge 37 = .ok (.ireturn, 1) from by decide +kernel)
  · refine sr_bipush (v := (-2 : Int32)) (q := 9) C (show decode cX11_judge 7 = .ok (.bipush (-2), 2) from by decide +kernel) (by decide) rfl ?_
    exact sr_ireturn C _ rfl (show decode cX11_judge 9 = .ok (.ireturn, 1) from by decide +kernel)
theorem cnX11_judge (ω : sm_O) (v0 : Nat) (v1 : Int32) (hv0 : kd v0 = 11) : sm_Mt 7 yX11_judge cX11_judge 2 (some .int) ω [.ref (ω.1 + v0), .int v1] (fun a => some (.int a)) (fnX11_judge v0 v1) := by
  refine sm_conI (r := fun a => a) (by decide) (fun _ => rfl) (Nat.le_of_ble_eq_true rfl) ?_
  intro κ hκ C
  subst hκ
  exact slX11_judge C v0 v1 hv0
def fnX11_priceOf (v0 : Nat) (v1 : Int32) (v2 : Int32) (v3 : Int32) : sm_M Int32 := m_bnd (fnX10_seek (lk v0 9) (lk v0 6) v2 (1 : Int32) v3 (98 : Int32)) fun x13 => m_br (0 ≤ x13)
    (m_bnd (fnX9_takeFrom (lk v0 7) (lk v0 6)) fun _ => m_bnd (fnX10_wear (lk v0 9) (lk v0 7) (1 : Int32)) fun _ => m_bnd (fnX11_mostOf v0 (lk v0 6) v1 (1 : Int32)) fun x51 => m_bnd (fnX11_mostOf v0 (lk v0 7) v1 (1 : Int32)) fun x61 => m_ret (x51 - x61))
    (m_ret (-1 : Int32))
set_option maxHeartbeats 4000000 in
set_option maxRecDepth 100000 in
theorem slX11_priceOf {κ : sm_X} (C : sm_C κ RX11 cX11_priceOf 4 6) (v0 : Nat) (v1 : Int32) (v2 : Int32) (v3 : Int32) (hv0 : kd v0 = 11) : sm_S κ (fun r : Int32 => .inr (some (.int r))) (.inl (0, [some (xad κ v0), some (.int v1), some (.int v2), some (.int v3)], [])) (fnX11_priceOf v0 v1 v2 v3) := by
  unfold fnX11_priceOf
  refine sr_aload_n (i := 0) (q := 1) C (show decode cX11_priceOf 0 = .ok (.aload_n 0, 1) from by decide +kernel) rfl rfl rfl ?_
  refine sr_getr (q := 4) C fl_X11_55 hv0 (show decode cX11_priceOf 1 = .ok (.getfield 55, 3) from by decide +kernel) rfl ?_
  refine sr_aload_n (i := 0) (q := 5) C (show decode cX11_priceOf 4 = .ok (.aload_n 0, 1) from by decide +kernel) rfl rfl rfl ?_
  refine sr_getr (q := 8) C fl_X11_36 hv0 (show decode cX11_priceOf 5 = .ok (.getfield 36, 3) from by decide +kernel) rfl ?_
  refine sr_iload_n (i := 2) (q := 9) C (show decode cX11_priceOf 8 = .ok (.iload_n 2, 1) from by decide +kernel) rfl rfl rfl ?_
  refine sr_iconst (v := (1 : Int32)) (q := 10) C (show decode cX11_priceOf 9 = .ok (.iconst 1, 1) from by decide +kernel) (by decide) rfl ?_
  refine sr_iload_n (i := 3) (q := 11) C (show decode cX11_priceOf 10 = .ok (.iload_n 3, 1) from by decide +kernel) rfl rfl rfl ?_
  refine sr_bipush (v := (98 : Int32)) (q := 13) C (show decode cX11_priceOf 11 = .ok (.bipush 98, 2) from by decide +kernel) (by decide) rfl ?_
  refine sr_cVi (As := [xad κ (lk v0 6), .int v2, .int (1 : Int32), .int v3, .int (98 : Int32)]) (st := []) (b := lk v0 9) (q := 16) C yvX10_seek ml_X11_217 (cnX10_seek (xo κ) (lk v0 9) (lk v0 6) v2 (1 : Int32) v3 (98 : Int32) (kt hv0 kp_11_9) (kt hv0 kp_11_6)) (kt hv0 kp_11_9) (by decide) rfl rfl rfl (by decide) (by decide) (Nat.le_of_ble_eq_true rfl) rfl (show decode cX11_priceOf 13 = .ok (.invokevirtual 217, 3) from by decide +kernel) rfl (fun x13 => ?_)
  refine sr_if_ge (q := 19) C 21 (show decode cX11_priceOf 16 = .ok (.ifCond .ge 5, 3) from by decide +kernel) (by decide) rfl ?_ ?_
  · refine sr_aload_n (i := 0) (q := 22) C (show decode cX11_priceOf 21 = .ok (.aload_n 0, 1) from by decide +kernel) rfl rfl rfl ?_
    refine sr_getr (q := 25) C fl_X11_40 hv0 (show decode cX11_priceOf 22 = .ok (.getfield 40, 3) from by decide +kernel) rfl ?_
    refine sr_aload_n (i := 0) (q := 26) C (show decode cX11_priceOf 25 = .ok (.aload_n 0, 1) from by decide +kernel) rfl rfl rfl ?_
    refine sr_getr (q := 29) C fl_X11_36 hv0 (show decode cX11_priceOf 26 = .ok (.getfield 36, 3) from by decide +kernel) rfl ?_
    refine sr_cVv (As := [xad κ (lk v0 6)]) (st := []) (b := lk v0 7) (q := 32) C yvX9_takeFrom ml_X11_239 (cnX9_takeFrom (xo κ) (lk v0 7) (lk v0 6) (kt hv0 kp_11_7) (kt hv0 kp_11_6)) (kt hv0 kp_11_7) (by decide) rfl rfl rfl (by decide) (by decide) (Nat.le_of_ble_eq_true rfl) rfl (show decode cX11_priceOf 29 = .ok (.invokevirtual 239, 3) from by decide +kernel) rfl (fun _ => ?_)
    refine sr_aload_n (i := 0) (q := 33) C (show decode cX11_priceOf 32 = .ok (.aload_n 0, 1) from by decide +kernel) rfl rfl rfl ?_
    refine sr_getr (q := 36) C fl_X11_55 hv0 (show decode cX11_priceOf 33 = .ok (.getfield 55, 3) from by decide +kernel) rfl ?_
    refine sr_aload_n (i := 0) (q := 37) C (show decode cX11_priceOf 36 = .ok (.aload_n 0, 1) from by decide +kernel) rfl rfl rfl ?_
    refine sr_getr (q := 40) C fl_X11_40 hv0 (show decode cX11_priceOf 37 = .ok (.getfield 40, 3) from by decide +kernel) rfl ?_
    refine sr_iconst (v := (1 : Int32)) (q := 41) C (show decode cX11_priceOf 40 = .ok (.iconst 1, 1) from by decide +kernel) (by decide) rfl ?_
    refine sr_cVv (As := [xad κ (lk v0 7), .int (1 : Int32)]) (st := []) (b := lk v0 9) (q := 44) C yvX10_wear ml_X11_325 (cnX10_wear (xo κ) (lk v0 9) (lk v0 7) (1 : Int32) (kt hv0 kp_11_9) (kt hv0 kp_11_7)) (kt hv0 kp_11_9) (by decide) rfl rfl rfl (by decide) (by decide) (Nat.le_of_ble_eq_true rfl) rfl (show decode cX11_priceOf 41 = .ok (.invokevirtual 325, 3) from by decide +kernel) rfl (fun _ => ?_)
    refine sr_aload_n (i := 0) (q := 45) C (show decode cX11_priceOf 44 = .ok (.aload_n 0, 1) from by decide +kernel) rfl rfl rfl ?_
    refine sr_aload_n (i := 0) (q := 46) C (show decode cX11_priceOf 45 = .ok (.aload_n 0, 1) from by decide +kernel) rfl rfl rfl ?_
    refine sr_getr (q := 49) C fl_X11_36 hv0 (show decode cX11_priceOf 46 = .ok (.getfield 36, 3) from by decide +kernel) rfl ?_
    refine sr_iload_n (i := 1) (q := 50) C (show decode cX11_priceOf 49 = .ok (.iload_n 1, 1) from by decide +kernel) rfl rfl rfl ?_
    refine sr_iconst (v := (1 : Int32)) (q := 51) C (show decode cX11_priceOf 50 = .ok (.iconst 1, 1) from by decide +kernel) (by decide) rfl ?_
    refine sr_cVi (As := [xad κ (lk v0 6), .int v1, .int (1 : Int32)]) (st := []) (b := v0) (q := 54) C yvX11_mostOf ml_X11_307 (cnX11_mostOf (xo κ) v0 (lk v0 6) v1 (1 : Int32) hv0 (kt hv0 kp_11_6)) hv0 (by decide) rfl rfl rfl (by decide) (by decide) (Nat.le_of_ble_eq_true rfl) rfl (show decode cX11_priceOf 51 = .ok (.invokevirtual 307, 3) from by decide +kernel) rfl (fun x51 => ?_)
    refine sr_aload_n (i := 0) (q := 55) C (show decode cX11_priceOf 54 = .ok (.aload_n 0, 1) from by decide +kernel) rfl rfl rfl ?_
    refine sr_aload_n (i := 0) (q := 56) C (show decode cX11_priceOf 55 = .ok (.aload_n 0, 1) from by decide +kernel) rfl rfl rfl ?_
    refine sr_getr (q := 59) C fl_X11_40 hv0 (show decode cX11_priceOf 56 = .ok (.getfield 40, 3) from by decide +kernel) rfl ?_
    refine sr_iload_n (i := 1) (q := 60) C (show decode cX11_priceOf 59 = .ok (.iload_n 1, 1) from by decide +kernel) rfl rfl rfl ?_
    refine sr_iconst (v := (1 : Int32)) (q := 61) C (show decode cX11_priceOf 60 = .ok (.iconst 1, 1) from by decide +kernel) (by decide) rfl ?_
    refine sr_cVi (As := [xad κ (lk v0 7), .int v1, .int (1 : Int32)]) (st := [.int x51]) (b := v0) (q := 64) C yvX11_mostOf ml_X11_307 (cnX11_mostOf (xo κ) v0 (lk v0 7) v1 (1 : Int32) hv0 (kt hv0 kp_11_7)) hv0 (by decide) rfl rfl rfl (by decide) (by decide) (Nat.le_of_ble_eq_true rfl) rfl (show decode cX11_priceOf 61 = .ok (.invokevirtual 307, 3) from by decide +kernel) rfl (fun x61 => ?_)
    refine sr_isub (q := 65) C (show decode cX11_priceOf 64 = .ok (.isub, 1) from by decide +kernel) rfl ?_
    exact sr_ireturn C _ rfl (show decode cX11_priceOf 65 = .ok (.ireturn, 1) from by decide +kernel)
  · refine sr_iconst (v := (-1 : Int32)) (q := 20) C (show decode cX11_priceOf 19 = .ok (.iconst (-1), 1) from by decide +kernel) (by decide) rfl ?_
    exact sr_ireturn C _ rfl (show decode cX11_priceOf 20 = .ok (.ireturn, 1) from by decide +kernel)
theorem cnX11_priceOf (ω : sm_O) (v0 : Nat) (v1 : Int32) (v2 : Int32) (v3 : Int32) (hv0 : kd v0 = 11) : sm_Mt 6 yX11_priceOf cX11_priceOf 4 (some .int) ω [.ref (ω.1 + v0), .int v1, .int v2, .int v3] (fun a => some (.int a)) (fnX11_priceOf v0 v1 v2 v3) := by
  refine sm_conI (r := fun a => a) (by decide) (fun _ => rfl) (Nat.le_of_ble_eq_true rfl) ?_
  intro κ hκ C
  subst hκ
  exact slX11_priceOf C v0 v1 v2 v3 hv0
def fnX11_keep_J65 (k29 : Nat → Int32 → Int32 → Int32 → Int32 → Int32 → sm_M Int32) (v0 : Nat) (v1 : Int32) (v2 : Int32) (v3 : Int32) (v4 : Int32) (v5 : Int32) : sm_M Int32 := k29 v0 v1 v2 v3 v4 (v5 + (1 : Int32))
set_option maxHeartbeats 4000000 in
set_option maxRecDepth 100000 in
theorem slX11_keep_J65 {κ : sm_X} (C : sm_C κ RX11 cX11_keep 7 7) {k29 : Nat → Int32 → Int32 → Int32 → Int32 → Int32 → sm_M Int32} (K29 : ∀ (v0 : Nat) (v1 : Int32) (v2 : Int32) (v3 : Int32) (v4 : Int32) (v5 : Int32) (hv0 : kd v0 = 11), sm_S κ (fun r : Int32 => .inr (some (.int r))) (.inl (29, [some (xad κ v0), some (.int v1), some (.int v2), some (.int v3), some (.int v4), some (.int v5), none], [])) (k29 v0 v1 v2 v3 v4 v5)) (v0 : Nat) (v1 : Int32) (v2 : Int32) (v3 : Int32) (v4 : Int32) (v5 : Int32) (hv0 : kd v0 = 11) : sm_S κ (fun r : Int32 => .inr (some (.int r))) (.inl (65, [some (xad κ v0), some (.int v1), some (.int v2), some (.int v3), some (.int v4), some (.int v5), none], [])) (fnX11_keep_J65 k29 v0 v1 v2 v3 v4 v5) := by
  unfold fnX11_keep_J65
  refine sr_iinc (v := v5 + (1 : Int32)) (L' := [some (xad κ v0), some (.int v1), some (.int v2), some (.int v3), some (.int v4), some (.int (v5 + (1 : Int32))), none]) (q := 68) C (show decode cX11_keep 65 = .ok (.iinc 5 1, 3) from by decide +kernel) rfl rfl (by decide) rfl rfl ?_
  refine sr_goto (q := 29) C (show decode cX11_keep 68 = .ok (.goto (-39), 3) from by decide +kernel) (by decide) ?_
  exact K29 v0 v1 v2 v3 v4 (v5 + (1 : Int32)) hv0
def fnX11_keep_L29 : Nat → Nat → Int32 → Int32 → Int32 → Int32 → Int32 → sm_M Int32
  | 0, _, _, _, _, _, _ => m_fail
  | n + 1, v0, v1, v2, v3, v4, v5 => m_br ((4 : Int32) ≤ v5)
    (m_ret v3)
    (m_bnd (fnX11_priceOf v0 v1 v2 v5) fun x40 => m_br (x40 = (-1 : Int32))
    (fnX11_keep_J65 (fnX11_keep_L29 n) v0 v1 v2 v3 v4 v5)
    (m_br (v4 ≤ x40)
    (fnX11_keep_J65 (fnX11_keep_L29 n) v0 v1 v2 v3 v4 v5)
    (fnX11_keep_J65 (fnX11_keep_L29 n) v0 v1 v2 v5 x40 v5)))
set_option maxHeartbeats 4000000 in
set_option maxRecDepth 100000 in
theorem slX11_keep_L29 {κ : sm_X} (C : sm_C κ RX11 cX11_keep 7 7) : ∀ (n : Nat) (v0 : Nat) (v1 : Int32) (v2 : Int32) (v3 : Int32) (v4 : Int32) (v5 : Int32) (hv0 : kd v0 = 11), sm_S κ (fun r : Int32 => .inr (some (.int r))) (.inl (29, [some (xad κ v0), some (.int v1), some (.int v2), some (.int v3), some (.int v4), some (.int v5), none], [])) (fnX11_keep_L29 n v0 v1 v2 v3 v4 v5) := by
  intro n
  induction n with
  | zero =>
    intros
    exact sr_fail
  | succ n K29 =>
    intro v0 v1 v2 v3 v4 v5 hv0
    unfold fnX11_keep_L29
    refine sr_iload (i := 5) (q := 31) C (show decode cX11_keep 29 = .ok (.iload 5, 2) from by decide +kernel) rfl rfl ?_
    refine sr_iconst (v := (4 : Int32)) (q := 32) C (show decode cX11_keep 31 = .ok (.iconst 4, 1) from by decide +kernel) (by decide) rfl ?_
    refine sr_icmp_ge (q := 35) C 71 (show decode cX11_keep 32 = .ok (.if_icmp .ge 39, 3) from by decide +kernel) (by decide) rfl ?_ ?_
    · refine sr_iload_n (i := 3) (q := 72) C (show decode cX11_keep 71 = .ok (.iload_n 3, 1) from by decide +kernel) rfl rfl rfl ?_
      exact sr_ireturn C _ rfl (show decode cX11_keep 72 = .ok (.ireturn, 1) from by decide +kernel)
    · refine sr_aload_n (i := 0) (q := 36) C (show decode cX11_keep 35 = .ok (.aload_n 0, 1) from by decide +kernel) rfl rfl rfl ?_
      refine sr_iload_n (i := 1) (q := 37) C (show decode cX11_keep 36 = .ok (.iload_n 1, 1) from by decide +kernel) rfl rfl rfl ?_
      refine sr_iload_n (i := 2) (q := 38) C (show decode cX11_keep 37 = .ok (.iload_n 2, 1) from by decide +kernel) rfl rfl rfl ?_
      refine sr_iload (i := 5) (q := 40) C (show decode cX11_keep 38 = .ok (.iload 5, 2) from by decide +kernel) rfl rfl ?_
      refine sr_cVi (As := [.int v1, .int v2, .int v5]) (st := []) (b := v0) (q := 43) C yvX11_priceOf ml_X11_401 (cnX11_priceOf (xo κ) v0 v1 v2 v5 hv0) hv0 (by decide) rfl rfl rfl (by decide) (by decide) (Nat.le_of_ble_eq_true rfl) rfl (show decode cX11_keep 40 = .ok (.invokevirtual 401, 3) from by decide +kernel) rfl (fun x40 => ?_)
      refine sr_istore (i := 6) (L' := [some (xad κ v0), some (.int v1), some (.int v2), some (.int v3), some (.int v4), some (.int v5), some (.int x40)]) (q := 45) C (show decode cX11_keep 43 = .ok (.istore 6, 2) from by decide +kernel) (by decide) rfl rfl ?_
      refine sr_iload (i := 6) (q := 47) C (show decode cX11_keep 45 = .ok (.iload 6, 2) from by decide +kernel) rfl rfl ?_
      refine sr_iconst (v := (-1 : Int32)) (q := 48) C (show decode cX11_keep 47 = .ok (.iconst (-1), 1) from by decide +kernel) (by decide) rfl ?_
      refine sr_icmp_eq (q := 51) C 65 (show decode cX11_keep 48 = .ok (.if_icmp .eq 17, 3) from by decide +kernel) (by decide) rfl ?_ ?_
      · refine sr_weak (L' := [some (xad κ v0), some (.int v1), some (.int v2), some (.int v3), some (.int v4), some (.int v5), none]) ⟨rfl, rfl, rfl, rfl, rfl, rfl, trivial⟩ ?_
        exact slX11_keep_J65 C K29 v0 v1 v2 v3 v4 v5 hv0
      · refine sr_iload (i := 6) (q := 53) C (show decode cX11_keep 51 = .ok (.iload 6, 2) from by decide +kernel) rfl rfl ?_
        refine sr_iload (i := 4) (q := 55) C (show decode cX11_keep 53 = .ok (.iload 4, 2) from by decide +kernel) rfl rfl ?_
        refine sr_icmp_ge (q := 58) C 65 (show decode cX11_keep 55 = .ok (.if_icmp .ge 10, 3) from by decide +kernel) (by decide) rfl ?_ ?_
        · refine sr_weak (L' := [some (xad κ v0), some (.int v1), some (.int v2), some (.int v3), some (.int v4), some (.int v5), none]) ⟨rfl, rfl, rfl, rfl, rfl, rfl, trivial⟩ ?_
          exact slX11_keep_J65 C K29 v0 v1 v2 v3 v4 v5 hv0
        · refine sr_iload (i := 6) (q := 60) C (show decode cX11_keep 58 = .ok (.iload 6, 2) from by decide +kernel) rfl rfl ?_
          refine sr_istore (i := 4) (L' := [some (xad κ v0), some (.int v1), some (.int v2), some (.int v3), some (.int x40), some (.int v5), some (.int x40)]) (q := 62) C (show decode cX11_keep 60 = .ok (.istore 4, 2) from by decide +kernel) (by decide) rfl rfl ?_
          refine sr_iload (i := 5) (q := 64) C (show decode cX11_keep 62 = .ok (.iload 5, 2) from by decide +kernel) rfl rfl ?_
          refine sr_istore_n (i := 3) (L' := [some (xad κ v0), some (.int v1), some (.int v2), some (.int v5), some (.int x40), some (.int v5), some (.int x40)]) (q := 65) C (show decode cX11_keep 64 = .ok (.istore_n 3, 1) from by decide +kernel) rfl (by decide) rfl rfl ?_
          refine sr_weak (L' := [some (xad κ v0), some (.int v1), some (.int v2), some (.int v5), some (.int x40), some (.int v5), none]) ⟨rfl, rfl, rfl, rfl, rfl, rfl, trivial⟩ ?_
          exact slX11_keep_J65 C K29 v0 v1 v2 v5 x40 v5 hv0
def fnX11_keep (v0 : Nat) (v1 : Int32) (v2 : Int32) : sm_M Int32 := m_bnd (fnX11_isStride v0 v1) fun x2 => m_br ((bI x2) = 0)
    (m_ret (-2 : Int32))
    (m_bnd (fnX11_isStride v0 v2) fun x10 => m_br ((bI x10) = 0)
    (m_ret (-2 : Int32))
    (fnX11_keep_L29 4096 v0 v1 v2 (-1 : Int32) (1000 : Int32) (0 : Int32)))
set_option maxHeartbeats 4000000 in
set_option maxRecDepth 100000 in
theorem slX11_keep {κ : sm_X} (C : sm_C κ RX11 cX11_keep 7 7) (v0 : Nat) (v1 : Int32) (v2 : Int32) (hv0 : kd v0 = 11) : sm_S κ (fun r : Int32 => .inr (some (.int r))) (.inl (0, [some (xad κ v0), some (.int v1), some (.int v2), none, none, none, none], [])) (fnX11_keep v0 v1 v2) := by
  unfold fnX11_keep
  refine sr_aload_n (i := 0) (q := 1) C (show decode cX11_keep 0 = .ok (.aload_n 0, 1) from by decide +kernel) rfl rfl rfl ?_
  refine sr_iload_n (i := 1) (q := 2) C (show decode cX11_keep 1 = .ok (.iload_n 1, 1) from by decide +kernel) rfl rfl rfl ?_
  refine sr_cVz (As := [.int v1]) (st := []) (b := v0) (q := 5) C yvX11_isStride ml_X11_187 (cnX11_isStride (xo κ) v0 v1 hv0) hv0 (by decide) rfl rfl rfl (by decide) (by decide) (Nat.le_of_ble_eq_true rfl) rfl (show decode cX11_keep 2 = .ok (.invokevirtual 187, 3) from by decide +kernel) rfl (fun x2 => ?_)
  refine sr_if_eq (q := 8) C 16 (show decode cX11_keep 5 = .ok (.ifCond .eq 11, 3) from by decide +kernel) (by decide) rfl ?_ ?_
  · refine sr_bipush (v := (-2 : Int32)) (q := 18) C (show decode cX11_keep 16 = .ok (.bipush (-2), 2) from by decide +kernel) (by decide) rfl ?_
    exact sr_ireturn C _ rfl (show decode cX11_keep 18 = .ok (.ireturn, 1) from by decide +kernel)
  · refine sr_aload_n (i := 0) (q := 9) C (show decode cX11_keep 8 = .ok (.aload_n 0, 1) from by decide +kernel) rfl rfl rfl ?_
    refine sr_iload_n (i := 2) (q := 10) C (show decode cX11_keep 9 = .ok (.iload_n 2, 1) from by decide +kernel) rfl rfl rfl ?_
    refine sr_cVz (As := [.int v2]) (st := []) (b := v0) (q := 13) C yvX11_isStride ml_X11_187 (cnX11_isStride (xo κ) v0 v2 hv0) hv0 (by decide) rfl rfl rfl (by decide) (by decide) (Nat.le_of_ble_eq_true rfl) rfl (show decode cX11_keep 10 = .ok (.invokevirtual 187, 3) from by decide +kernel) rfl (fun x10 => ?_)
    refine sr_if_ne (q := 16) C 19 (show decode cX11_keep 13 = .ok (.ifCond .ne 6, 3) from by decide +kernel) (by decide) rfl ?_ ?_
    · refine sr_iconst (v := (-1 : Int32)) (q := 20) C (show decode cX11_keep 19 = .ok (.iconst (-1), 1) from by decide +kernel) (by decide) rfl ?_
      refine sr_istore_n (i := 3) (L' := [some (xad κ v0), some (.int v1), some (.int v2), some (.int (-1 : Int32)), none, none, none]) (q := 21) C (show decode cX11_keep 20 = .ok (.istore_n 3, 1) from by decide +kernel) rfl (by decide) rfl rfl ?_
      refine sr_sipush (v := (1000 : Int32)) (q := 24) C (show decode cX11_keep 21 = .ok (.sipush 1000, 3) from by decide +kernel) (by decide) rfl ?_
      refine sr_istore (i := 4) (L' := [some (xad κ v0), some (.int v1), some (.int v2), some (.int (-1 : Int32)), some (.int (1000 : Int32)), none, none]) (q := 26) C (show decode cX11_keep 24 = .ok (.istore 4, 2) from by decide +kernel) (by decide) rfl rfl ?_
      refine sr_iconst (v := (0 : Int32)) (q := 27) C (show decode cX11_keep 26 = .ok (.iconst 0, 1) from by decide +kernel) (by decide) rfl ?_
      refine sr_istore (i := 5) (L' := [some (xad κ v0), some (.int v1), some (.int v2), some (.int (-1 : Int32)), some (.int (1000 : Int32)), some (.int (0 : Int32)), none]) (q := 29) C (show decode cX11_keep 27 = .ok (.istore 5, 2) from by decide +kernel) (by decide) rfl rfl ?_
      exact slX11_keep_L29 C 4096 v0 v1 v2 (-1 : Int32) (1000 : Int32) (0 : Int32) hv0
    · refine sr_bipush (v := (-2 : Int32)) (q := 18) C (show decode cX11_keep 16 = .ok (.bipush (-2), 2) from by decide +kernel) (by decide) rfl ?_
      exact sr_ireturn C _ rfl (show decode cX11_keep 18 = .ok (.ireturn, 1) from by decide +kernel)
theorem cnX11_keep (ω : sm_O) (v0 : Nat) (v1 : Int32) (v2 : Int32) (hv0 : kd v0 = 11) : sm_Mt 7 yX11_keep cX11_keep 7 (some .int) ω [.ref (ω.1 + v0), .int v1, .int v2] (fun a => some (.int a)) (fnX11_keep v0 v1 v2) := by
  refine sm_conI (r := fun a => a) (by decide) (fun _ => rfl) (Nat.le_of_ble_eq_true rfl) ?_
  intro κ hκ C
  subst hκ
  exact slX11_keep C v0 v1 v2 hv0
def fnX11_know_J42 (v0 : Nat) (s0 : Int32) (s1 : Int32) (s2 : Nat) : sm_M Int32 := m_sai s2 s1 s0 <| m_bnd (fnX5_forget (lk v0 11)) fun _ => m_ret (0 : Int32)
set_option maxHeartbeats 4000000 in
set_option maxRecDepth 100000 in
theorem slX11_know_J42 {κ : sm_X} (C : sm_C κ RX11 cX11_know 3 2) (v0 : Nat) (s0 : Int32) (s1 : Int32) (s2 : Nat) (hv0 : kd v0 = 11) (hs2 : kd s2 = 20) : sm_S κ (fun r : Int32 => .inr (some (.int r))) (.inl (42, [some (xad κ v0), none, none], [.int s0, .int s1, xad κ s2])) (fnX11_know_J42 v0 s0 s1 s2) := by
  unfold fnX11_know_J42
  refine sr_iastore (q := 43) C hs2 (show decode cX11_know 42 = .ok (.iastore, 1) from by decide +kernel) rfl ?_
  refine sr_aload_n (i := 0) (q := 44) C (show decode cX11_know 43 = .ok (.aload_n 0, 1) from by decide +kernel) rfl rfl rfl ?_
  refine sr_getr (q := 47) C fl_X11_73 hv0 (show decode cX11_know 44 = .ok (.getfield 73, 3) from by decide +kernel) rfl ?_
  refine sr_cVv (As := []) (st := []) (b := lk v0 11) (q := 50) C yvX5_forget ml_X11_140 (cnX5_forget (xo κ) (lk v0 11) (kt hv0 kp_11_11)) (kt hv0 kp_11_11) (by decide) rfl rfl rfl (by decide) (by decide) (Nat.le_of_ble_eq_true rfl) rfl (show decode cX11_know 47 = .ok (.invokevirtual 140, 3) from by decide +kernel) rfl (fun _ => ?_)
  refine sr_iconst (v := (0 : Int32)) (q := 51) C (show decode cX11_know 50 = .ok (.iconst 0, 1) from by decide +kernel) (by decide) rfl ?_
  exact sr_ireturn C _ rfl (show decode cX11_know 51 = .ok (.ireturn, 1) from by decide +kernel)
def fnX11_know (v0 : Nat) (v1 : Int32) (v2 : Int32) : sm_M Int32 := m_bnd (fnX11_isStone v0 v1) fun x2 => m_br ((bI x2) = 0)
    (m_ret (-2 : Int32))
    (m_bnd (fnX9_inDoubt (lk v0 6) v1) fun x16 => m_br ((bI x16) = 0)
    (m_ret (-5 : Int32))
    (m_br (v2 = 0)
    (fnX11_know_J42 v0 (2 : Int32) v1 (lk (lk v0 6) 3))
    (fnX11_know_J42 v0 (1 : Int32) v1 (lk (lk v0 6) 3))))
set_option maxHeartbeats 4000000 in
set_option maxRecDepth 100000 in
theorem slX11_know {κ : sm_X} (C : sm_C κ RX11 cX11_know 3 2) (v0 : Nat) (v1 : Int32) (v2 : Int32) (hv0 : kd v0 = 11) : sm_S κ (fun r : Int32 => .inr (some (.int r))) (.inl (0, [some (xad κ v0), some (.int v1), some (.int v2)], [])) (fnX11_know v0 v1 v2) := by
  unfold fnX11_know
  refine sr_aload_n (i := 0) (q := 1) C (show decode cX11_know 0 = .ok (.aload_n 0, 1) from by decide +kernel) rfl rfl rfl ?_
  refine sr_iload_n (i := 1) (q := 2) C (show decode cX11_know 1 = .ok (.iload_n 1, 1) from by decide +kernel) rfl rfl rfl ?_
  refine sr_cVz (As := [.int v1]) (st := []) (b := v0) (q := 5) C yvX11_isStone ml_X11_146 (cnX11_isStone (xo κ) v0 v1 hv0) hv0 (by decide) rfl rfl rfl (by decide) (by decide) (Nat.le_of_ble_eq_true rfl) rfl (show decode cX11_know 2 = .ok (.invokevirtual 146, 3) from by decide +kernel) rfl (fun x2 => ?_)
  refine sr_if_ne (q := 8) C 11 (show decode cX11_know 5 = .ok (.ifCond .ne 6, 3) from by decide +kernel) (by decide) rfl ?_ ?_
  · refine sr_aload_n (i := 0) (q := 12) C (show decode cX11_know 11 = .ok (.aload_n 0, 1) from by decide +kernel) rfl rfl rfl ?_
    refine sr_getr (q := 15) C fl_X11_36 hv0 (show decode cX11_know 12 = .ok (.getfield 36, 3) from by decide +kernel) rfl ?_
    refine sr_iload_n (i := 1) (q := 16) C (show decode cX11_know 15 = .ok (.iload_n 1, 1) from by decide +kernel) rfl rfl rfl ?_
    refine sr_cVz (As := [.int v1]) (st := []) (b := lk v0 6) (q := 19) C yvX9_inDoubt ml_X11_167 (cnX9_inDoubt (xo κ) (lk v0 6) v1 (kt hv0 kp_11_6)) (kt hv0 kp_11_6) (by decide) rfl rfl rfl (by decide) (by decide) (Nat.le_of_ble_eq_true rfl) rfl (show decode cX11_know 16 = .ok (.invokevirtual 167, 3) from by decide +kernel) rfl (fun x16 => ?_)
    refine sr_if_ne (q := 22) C 25 (show decode cX11_know 19 = .ok (.ifCond .ne 6, 3) from by decide +kernel) (by decide) rfl ?_ ?_
    · refine sr_aload_n (i := 0) (q := 26) C (show decode cX11_know 25 = .ok (.aload_n 0, 1) from by decide +kernel) rfl rfl rfl ?_
      refine sr_getr (q := 29) C fl_X11_36 hv0 (show decode cX11_know 26 = .ok (.getfield 36, 3) from by decide +kernel) rfl ?_
      refine sr_getr (q := 32) C fl_X11_170 (kt hv0 kp_11_6) (show decode cX11_know 29 = .ok (.getfield 170, 3) from by decide +kernel) rfl ?_
      refine sr_iload_n (i := 1) (q := 33) C (show decode cX11_know 32 = .ok (.iload_n 1, 1) from by decide +kernel) rfl rfl rfl ?_
      refine sr_iload_n (i := 2) (q := 34) C (show decode cX11_know 33 = .ok (.iload_n 2, 1) from by decide +kernel) rfl rfl rfl ?_
      refine sr_if_eq (q := 37) C 41 (show decode cX11_know 34 = .ok (.ifCond .eq 7, 3) from by decide +kernel) (by decide) rfl ?_ ?_
      · refine sr_iconst (v := (2 : Int32)) (q := 42) C (show decode cX11_know 41 = .ok (.iconst 2, 1) from by decide +kernel) (by decide) rfl ?_
        refine sr_weak (L' := [some (xad κ v0), none, none]) ⟨rfl, trivial⟩ ?_
        exact slX11_know_J42 C v0 (2 : Int32) v1 (lk (lk v0 6) 3) hv0 (kt (kt hv0 kp_11_6) kp_9_3)
      · refine sr_iconst (v := (1 : Int32)) (q := 38) C (show decode cX11_know 37 = .ok (.iconst 1, 1) from by decide +kernel) (by decide) rfl ?_
        refine sr_goto (q := 42) C (show decode cX11_know 38 = .ok (.goto 4, 3) from by decide +kernel) (by decide) ?_
        refine sr_weak (L' := [some (xad κ v0), none, none]) ⟨rfl, trivial⟩ ?_
        exact slX11_know_J42 C v0 (1 : Int32) v1 (lk (lk v0 6) 3) hv0 (kt (kt hv0 kp_11_6) kp_9_3)
    · refine sr_bipush (v := (-5 : Int32)) (q := 24) C (show decode cX11_know 22 = .ok (.bipush (-5), 2) from by decide +kernel) (by decide) rfl ?_
      exact sr_ireturn C _ rfl (show decode cX11_know 24 = .ok (.ireturn, 1) from by decide +kernel)
  · refine sr_bipush (v := (-2 : Int32)) (q := 10) C (show decode cX11_know 8 = .ok (.bipush (-2), 2) from by decide +kernel) (by decide) rfl ?_
    exact sr_ireturn C _ rfl (show decode cX11_know 10 = .ok (.ireturn, 1) from by decide +kernel)
theorem cnX11_know (ω : sm_O) (v0 : Nat) (v1 : Int32) (v2 : Int32) (hv0 : kd v0 = 11) : sm_Mt 2 yX11_know cX11_know 3 (some .int) ω [.ref (ω.1 + v0), .int v1, .int v2] (fun a => some (.int a)) (fnX11_know v0 v1 v2) := by
  refine sm_conI (r := fun a => a) (by decide) (fun _ => rfl) (Nat.le_of_ble_eq_true rfl) ?_
  intro κ hκ C
  subst hκ
  exact slX11_know C v0 v1 v2 hv0
def fnX11_knowledgeOf (v0 : Nat) (v1 : Int32) : sm_M Int32 := m_bnd (fnX9_inDoubt (lk v0 6) v1) fun x5 => m_br ((bI x5) = 0)
    (m_ai (lk (lk v0 6) 3) v1 fun x21 => m_br (x21 = (1 : Int32))
    (m_ret (1 : Int32))
    (m_ret (0 : Int32)))
    (m_ret (-1 : Int32))
set_option maxHeartbeats 4000000 in
set_option maxRecDepth 100000 in
theorem slX11_knowledgeOf {κ : sm_X} (C : sm_C κ RX11 cX11_knowledgeOf 2 2) (v0 : Nat) (v1 : Int32) (hv0 : kd v0 = 11) : sm_S κ (fun r : Int32 => .inr (some (.int r))) (.inl (0, [some (xad κ v0), some (.int v1)], [])) (fnX11_knowledgeOf v0 v1) := by
  unfold fnX11_knowledgeOf
  refine sr_aload_n (i := 0) (q := 1) C (show decode cX11_knowledgeOf 0 = .ok (.aload_n 0, 1) from by decide +kernel) rfl rfl rfl ?_
  refine sr_getr (q := 4) C fl_X11_36 hv0 (show decode cX11_knowledgeOf 1 = .ok (.getfield 36, 3) from by decide +kernel) rfl ?_
  refine sr_iload_n (i := 1) (q := 5) C (show decode cX11_knowledgeOf 4 = .ok (.iload_n 1, 1) from by decide +kernel) rfl rfl rfl ?_
  refine sr_cVz (As := [.int v1]) (st := []) (b := lk v0 6) (q := 8) C yvX9_inDoubt ml_X11_167 (cnX9_inDoubt (xo κ) (lk v0 6) v1 (kt hv0 kp_11_6)) (kt hv0 kp_11_6) (by decide) rfl rfl rfl (by decide) (by decide) (Nat.le_of_ble_eq_true rfl) rfl (show decode cX11_knowledgeOf 5 = .ok (.invokevirtual 167, 3) from by decide +kernel) rfl (fun x5 => ?_)
  refine sr_if_eq (q := 11) C 13 (show decode cX11_knowledgeOf 8 = .ok (.ifCond .eq 5, 3) from by decide +kernel) (by decide) rfl ?_ ?_
  · refine sr_aload_n (i := 0) (q := 14) C (show decode cX11_knowledgeOf 13 = .ok (.aload_n 0, 1) from by decide +kernel) rfl rfl rfl ?_
    refine sr_getr (q := 17) C fl_X11_36 hv0 (show decode cX11_knowledgeOf 14 = .ok (.getfield 36, 3) from by decide +kernel) rfl ?_
    refine sr_getr (q := 20) C fl_X11_170 (kt hv0 kp_11_6) (show decode cX11_knowledgeOf 17 = .ok (.getfield 170, 3) from by decide +kernel) rfl ?_
    refine sr_iload_n (i := 1) (q := 21) C (show decode cX11_knowledgeOf 20 = .ok (.iload_n 1, 1) from by decide +kernel) rfl rfl rfl ?_
    refine sr_iaload (q := 22) C (kt (kt hv0 kp_11_6) kp_9_3) (show decode cX11_knowledgeOf 21 = .ok (.iaload, 1) from by decide +kernel) rfl (fun x21 => ?_)
    refine sr_iconst (v := (1 : Int32)) (q := 23) C (show decode cX11_knowledgeOf 22 = .ok (.iconst 1, 1) from by decide +kernel) (by decide) rfl ?_
    refine sr_icmp_ne (q := 26) C 30 (show decode cX11_knowledgeOf 23 = .ok (.if_icmp .ne 7, 3) from by decide +kernel) (by decide) rfl ?_ ?_
    · refine sr_iconst (v := (0 : Int32)) (q := 31) C (show decode cX11_knowledgeOf 30 = .ok (.iconst 0, 1) from by decide +kernel) (by decide) rfl ?_
      exact sr_ireturn C _ rfl (show decode cX11_knowledgeOf 31 = .ok (.ireturn, 1) from by decide +kernel)
    · refine sr_iconst (v := (1 : Int32)) (q := 27) C (show decode cX11_knowledgeOf 26 = .ok (.iconst 1, 1) from by decide +kernel) (by decide) rfl ?_
      refine sr_goto (q := 31) C (show decode cX11_knowledgeOf 27 = .ok (.goto 4, 3) from by decide +kernel) (by decide) ?_
      exact sr_ireturn C _ rfl (show decode cX11_knowledgeOf 31 = .ok (.ireturn, 1) from by decide +kernel)
  · refine sr_iconst (v := (-1 : Int32)) (q := 12) C (show decode cX11_knowledgeOf 11 = .ok (.iconst (-1), 1) from by decide +kernel) (by decide) rfl ?_
    exact sr_ireturn C _ rfl (show decode cX11_knowledgeOf 12 = .ok (.ireturn, 1) from by decide +kernel)
theorem cnX11_knowledgeOf (ω : sm_O) (v0 : Nat) (v1 : Int32) (hv0 : kd v0 = 11) : sm_Mt 2 yX11_knowledgeOf cX11_knowledgeOf 2 (some .int) ω [.ref (ω.1 + v0), .int v1] (fun a => some (.int a)) (fnX11_knowledgeOf v0 v1) := by
  refine sm_conI (r := fun a => a) (by decide) (fun _ => rfl) (Nat.le_of_ble_eq_true rfl) ?_
  intro κ hκ C
  subst hκ
  exact slX11_knowledgeOf C v0 v1 hv0
def fnX11_mostAt (v0 : Nat) (v1 : Int32) (v2 : Int32) : sm_M Int32 := m_bnd (fnX9_takeFrom (lk v0 7) (lk v0 6)) fun _ => m_si (lk v0 7) 1 v2 <| m_bnd (fnX11_mostOf v0 (lk v0 7) v1 (1 : Int32)) fun x26 => m_ret x26
set_option maxHeartbeats 4000000 in
set_option maxRecDepth 100000 in
theorem slX11_mostAt {κ : sm_X} (C : sm_C κ RX11 cX11_mostAt 3 6) (v0 : Nat) (v1 : Int32) (v2 : Int32) (hv0 : kd v0 = 11) : sm_S κ (fun r : Int32 => .inr (some (.int r))) (.inl (0, [some (xad κ v0), some (.int v1), some (.int v2)], [])) (fnX11_mostAt v0 v1 v2) := by
  unfold fnX11_mostAt
  refine sr_aload_n (i := 0) (q := 1) C (show decode cX11_mostAt 0 = .ok (.aload_n 0, 1) from by decide +kernel) rfl rfl rfl ?_
  refine sr_getr (q := 4) C fl_X11_40 hv0 (show decode cX11_mostAt 1 = .ok (.getfield 40, 3) from by decide +kernel) rfl ?_
  refine sr_aload_n (i := 0) (q := 5) C (show decode cX11_mostAt 4 = .ok (.aload_n 0, 1) from by decide +kernel) rfl rfl rfl ?_
  refine sr_getr (q := 8) C fl_X11_36 hv0 (show decode cX11_mostAt 5 = .ok (.getfield 36, 3) from by decide +kernel) rfl ?_
  refine sr_cVv (As := [xad κ (lk v0 6)]) (st := []) (b := lk v0 7) (q := 11) C yvX9_takeFrom ml_X11_239 (cnX9_takeFrom (xo κ) (lk v0 7) (lk v0 6) (kt hv0 kp_11_7) (kt hv0 kp_11_6)) (kt hv0 kp_11_7) (by decide) rfl rfl rfl (by decide) (by decide) (Nat.le_of_ble_eq_true rfl) rfl (show decode cX11_mostAt 8 = .ok (.invokevirtual 239, 3) from by decide +kernel) rfl (fun _ => ?_)
  refine sr_aload_n (i := 0) (q := 12) C (show decode cX11_mostAt 11 = .ok (.aload_n 0, 1) from by decide +kernel) rfl rfl rfl ?_
  refine sr_getr (q := 15) C fl_X11_40 hv0 (show decode cX11_mostAt 12 = .ok (.getfield 40, 3) from by decide +kernel) rfl ?_
  refine sr_iload_n (i := 2) (q := 16) C (show decode cX11_mostAt 15 = .ok (.iload_n 2, 1) from by decide +kernel) rfl rfl rfl ?_
  refine sr_puti (q := 19) C fp_X11_204 (kt hv0 kp_11_7) (show decode cX11_mostAt 16 = .ok (.putfield 204, 3) from by decide +kernel) rfl ?_
  refine sr_aload_n (i := 0) (q := 20) C (show decode cX11_mostAt 19 = .ok (.aload_n 0, 1) from by decide +kernel) rfl rfl rfl ?_
  refine sr_aload_n (i := 0) (q := 21) C (show decode cX11_mostAt 20 = .ok (.aload_n 0, 1) from by decide +kernel) rfl rfl rfl ?_
  refine sr_getr (q := 24) C fl_X11_40 hv0 (show decode cX11_mostAt 21 = .ok (.getfield 40, 3) from by decide +kernel) rfl ?_
  refine sr_iload_n (i := 1) (q := 25) C (show decode cX11_mostAt 24 = .ok (.iload_n 1, 1) from by decide +kernel) rfl rfl rfl ?_
  refine sr_iconst (v := (1 : Int32)) (q := 26) C (show decode cX11_mostAt 25 = .ok (.iconst 1, 1) from by decide +kernel) (by decide) rfl ?_
  refine sr_cVi (As := [xad κ (lk v0 7), .int v1, .int (1 : Int32)]) (st := []) (b := v0) (q := 29) C yvX11_mostOf ml_X11_307 (cnX11_mostOf (xo κ) v0 (lk v0 7) v1 (1 : Int32) hv0 (kt hv0 kp_11_7)) hv0 (by decide) rfl rfl rfl (by decide) (by decide) (Nat.le_of_ble_eq_true rfl) rfl (show decode cX11_mostAt 26 = .ok (.invokevirtual 307, 3) from by decide +kernel) rfl (fun x26 => ?_)
  exact sr_ireturn C _ rfl (show decode cX11_mostAt 29 = .ok (.ireturn, 1) from by decide +kernel)
theorem cnX11_mostAt (ω : sm_O) (v0 : Nat) (v1 : Int32) (v2 : Int32) (hv0 : kd v0 = 11) : sm_Mt 6 yX11_mostAt cX11_mostAt 3 (some .int) ω [.ref (ω.1 + v0), .int v1, .int v2] (fun a => some (.int a)) (fnX11_mostAt v0 v1 v2) := by
  refine sm_conI (r := fun a => a) (by decide) (fun _ => rfl) (Nat.le_of_ble_eq_true rfl) ?_
  intro κ hκ C
  subst hκ
  exact slX11_mostAt C v0 v1 v2 hv0
def fnX11_late (v0 : Nat) (v1 : Int32) (v2 : Int32) : sm_M Int32 := m_bnd (fnX11_isStride v0 v1) fun x2 => m_br ((bI x2) = 0)
    (m_ret (-2 : Int32))
    (m_bnd (fnX11_isHour v0 v2) fun x10 => m_br ((bI x10) = 0)
    (m_ret (-2 : Int32))
    (m_bnd (fnX11_mostAt v0 v1 v2) fun x22 => m_ret x22))
set_option maxHeartbeats 4000000 in
set_option maxRecDepth 100000 in
theorem slX11_late {κ : sm_X} (C : sm_C κ RX11 cX11_late 3 7) (v0 : Nat) (v1 : Int32) (v2 : Int32) (hv0 : kd v0 = 11) : sm_S κ (fun r : Int32 => .inr (some (.int r))) (.inl (0, [some (xad κ v0), some (.int v1), some (.int v2)], [])) (fnX11_late v0 v1 v2) := by
  unfold fnX11_late
  refine sr_aload_n (i := 0) (q := 1) C (show decode cX11_late 0 = .ok (.aload_n 0, 1) from by decide +kernel) rfl rfl rfl ?_
  refine sr_iload_n (i := 1) (q := 2) C (show decode cX11_late 1 = .ok (.iload_n 1, 1) from by decide +kernel) rfl rfl rfl ?_
  refine sr_cVz (As := [.int v1]) (st := []) (b := v0) (q := 5) C yvX11_isStride ml_X11_187 (cnX11_isStride (xo κ) v0 v1 hv0) hv0 (by decide) rfl rfl rfl (by decide) (by decide) (Nat.le_of_ble_eq_true rfl) rfl (show decode cX11_late 2 = .ok (.invokevirtual 187, 3) from by decide +kernel) rfl (fun x2 => ?_)
  refine sr_if_eq (q := 8) C 16 (show decode cX11_late 5 = .ok (.ifCond .eq 11, 3) from by decide +kernel) (by decide) rfl ?_ ?_
  · refine sr_bipush (v := (-2 : Int32)) (q := 18) C (show decode cX11_late 16 = .ok (.bipush (-2), 2) from by decide +kernel) (by decide) rfl ?_
    exact sr_ireturn C _ rfl (show decode cX11_late 18 = .ok (.ireturn, 1) from by decide +kernel)
  · refine sr_aload_n (i := 0) (q := 9) C (show decode cX11_late 8 = .ok (.aload_n 0, 1) from by decide +kernel) rfl rfl rfl ?_
    refine sr_iload_n (i := 2) (q := 10) C (show decode cX11_late 9 = .ok (.iload_n 2, 1) from by decide +kernel) rfl rfl rfl ?_
    refine sr_cVz (As := [.int v2]) (st := []) (b := v0) (q := 13) C yvX11_isHour ml_X11_201 (cnX11_isHour (xo κ) v0 v2 hv0) hv0 (by decide) rfl rfl rfl (by decide) (by decide) (Nat.le_of_ble_eq_true rfl) rfl (show decode cX11_late 10 = .ok (.invokevirtual 201, 3) from by decide +kernel) rfl (fun x10 => ?_)
    refine sr_if_ne (q := 16) C 19 (show decode cX11_late 13 = .ok (.ifCond .ne 6, 3) from by decide +kernel) (by decide) rfl ?_ ?_
    · refine sr_aload_n (i := 0) (q := 20) C (show decode cX11_late 19 = .ok (.aload_n 0, 1) from by decide +kernel) rfl rfl rfl ?_
      refine sr_iload_n (i := 1) (q := 21) C (show decode cX11_late 20 = .ok (.iload_n 1, 1) from by decide +kernel) rfl rfl rfl ?_
      refine sr_iload_n (i := 2) (q := 22) C (show decode cX11_late 21 = .ok (.iload_n 2, 1) from by decide +kernel) rfl rfl rfl ?_
      refine sr_cVi (As := [.int v1, .int v2]) (st := []) (b := v0) (q := 25) C yvX11_mostAt ml_X11_404 (cnX11_mostAt (xo κ) v0 v1 v2 hv0) hv0 (by decide) rfl rfl rfl (by decide) (by decide) (Nat.le_of_ble_eq_true rfl) rfl (show decode cX11_late 22 = .ok (.invokevirtual 404, 3) from by decide +kernel) rfl (fun x22 => ?_)
      exact sr_ireturn C _ rfl (show decode cX11_late 25 = .ok (.ireturn, 1) from by decide +kernel)
    · refine sr_bipush (v := (-2 : Int32)) (q := 18) C (show decode cX11_late 16 = .ok (.bipush (-2), 2) from by decide +kernel) (by decide) rfl ?_
      exact sr_ireturn C _ rfl (show decode cX11_late 18 = .ok (.ireturn, 1) from by decide +kernel)
theorem cnX11_late (ω : sm_O) (v0 : Nat) (v1 : Int32) (v2 : Int32) (hv0 : kd v0 = 11) : sm_Mt 7 yX11_late cX11_late 3 (some .int) ω [.ref (ω.1 + v0), .int v1, .int v2] (fun a => some (.int a)) (fnX11_late v0 v1 v2) := by
  refine sm_conI (r := fun a => a) (by decide) (fun _ => rfl) (Nat.le_of_ble_eq_true rfl) ?_
  intro κ hκ C
  subst hκ
  exact slX11_late C v0 v1 v2 hv0
def fnX11_length (v0 : Nat) (v1 : Int32) (v2 : Int32) (v3 : Int32) : sm_M Int32 := m_bnd (fnX11_isStride v0 v1) fun x2 => m_br ((bI x2) = 0)
    (m_ret (-2 : Int32))
    (m_bnd (fnX11_isWeight v2) fun x9 => m_br ((bI x9) = 0)
    (m_ret (-2 : Int32))
    (m_bnd (fnX11_isWay v0 v3) fun x17 => m_br ((bI x17) = 0)
    (m_ret (-2 : Int32))
    (m_bnd (fnX10_seek (lk v0 9) (lk v0 6) v1 v2 v3 (98 : Int32)) fun x39 => m_ret x39)))
set_option maxHeartbeats 4000000 in
set_option maxRecDepth 100000 in
theorem slX11_length {κ : sm_X} (C : sm_C κ RX11 cX11_length 4 5) (v0 : Nat) (v1 : Int32) (v2 : Int32) (v3 : Int32) (hv0 : kd v0 = 11) : sm_S κ (fun r : Int32 => .inr (some (.int r))) (.inl (0, [some (xad κ v0), some (.int v1), some (.int v2), some (.int v3)], [])) (fnX11_length v0 v1 v2 v3) := by
  unfold fnX11_length
  refine sr_aload_n (i := 0) (q := 1) C (show decode cX11_length 0 = .ok (.aload_n 0, 1) from by decide +kernel) rfl rfl rfl ?_
  refine sr_iload_n (i := 1) (q := 2) C (show decode cX11_length 1 = .ok (.iload_n 1, 1) from by decide +kernel) rfl rfl rfl ?_
  refine sr_cVz (As := [.int v1]) (st := []) (b := v0) (q := 5) C yvX11_isStride ml_X11_187 (cnX11_isStride (xo κ) v0 v1 hv0) hv0 (by decide) rfl rfl rfl (by decide) (by decide) (Nat.le_of_ble_eq_true rfl) rfl (show decode cX11_length 2 = .ok (.invokevirtual 187, 3) from by decide +kernel) rfl (fun x2 => ?_)
  refine sr_if_eq (q := 8) C 23 (show decode cX11_length 5 = .ok (.ifCond .eq 18, 3) from by decide +kernel) (by decide) rfl ?_ ?_
  · refine sr_bipush (v := (-2 : Int32)) (q := 25) C (show decode cX11_length 23 = .ok (.bipush (-2), 2) from by decide +kernel) (by decide) rfl ?_
    exact sr_ireturn C _ rfl (show decode cX11_length 25 = .ok (.ireturn, 1) from by decide +kernel)
  · refine sr_iload_n (i := 2) (q := 9) C (show decode cX11_length 8 = .ok (.iload_n 2, 1) from by decide +kernel) rfl rfl rfl ?_
    refine sr_cSz (As := [.int v2]) (st := []) (q := 12) C ysX11_isWeight ml_X11_211 (cnX11_isWeight (xo κ) v2) rfl (by decide) (by decide) (Nat.le_of_ble_eq_true rfl) rfl (show decode cX11_length 9 = .ok (.invokestatic 211, 3) from by decide +kernel) rfl (fun x9 => ?_)
    refine sr_if_eq (q := 15) C 23 (show decode cX11_length 12 = .ok (.ifCond .eq 11, 3) from by decide +kernel) (by decide) rfl ?_ ?_
    · refine sr_bipush (v := (-2 : Int32)) (q := 25) C (show decode cX11_length 23 = .ok (.bipush (-2), 2) from by decide +kernel) (by decide) rfl ?_
      exact sr_ireturn C _ rfl (show decode cX11_length 25 = .ok (.ireturn, 1) from by decide +kernel)
    · refine sr_aload_n (i := 0) (q := 16) C (show decode cX11_length 15 = .ok (.aload_n 0, 1) from by decide +kernel) rfl rfl rfl ?_
      refine sr_iload_n (i := 3) (q := 17) C (show decode cX11_length 16 = .ok (.iload_n 3, 1) from by decide +kernel) rfl rfl rfl ?_
      refine sr_cVz (As := [.int v3]) (st := []) (b := v0) (q := 20) C yvX11_isWay ml_X11_214 (cnX11_isWay (xo κ) v0 v3 hv0) hv0 (by decide) rfl rfl rfl (by decide) (by decide) (Nat.le_of_ble_eq_true rfl) rfl (show decode cX11_length 17 = .ok (.invokevirtual 214, 3) from by decide +kernel) rfl (fun x17 => ?_)
      refine sr_if_ne (q := 23) C 26 (show decode cX11_length 20 = .ok (.ifCond .ne 6, 3) from by decide +kernel) (by decide) rfl ?_ ?_
      · refine sr_aload_n (i := 0) (q := 27) C (show decode cX11_length 26 = .ok (.aload_n 0, 1) from by decide +kernel) rfl rfl rfl ?_
        refine sr_getr (q := 30) C fl_X11_55 hv0 (show decode cX11_length 27 = .ok (.getfield 55, 3) from by decide +kernel) rfl ?_
        refine sr_aload_n (i := 0) (q := 31) C (show decode cX11_length 30 = .ok (.aload_n 0, 1) from by decide +kernel) rfl rfl rfl ?_
        refine sr_getr (q := 34) C fl_X11_36 hv0 (show decode cX11_length 31 = .ok (.getfield 36, 3) from by decide +kernel) rfl ?_
        refine sr_iload_n (i := 1) (q := 35) C (show decode cX11_length 34 = .ok (.iload_n 1, 1) from by decide +kernel) rfl rfl rfl ?_
        refine sr_iload_n (i := 2) (q := 36) C (show decode cX11_length 35 = .ok (.iload_n 2, 1) from by decide +kernel) rfl rfl rfl ?_
        refine sr_iload_n (i := 3) (q := 37) C (show decode cX11_length 36 = .ok (.iload_n 3, 1) from by decide +kernel) rfl rfl rfl ?_
        refine sr_bipush (v := (98 : Int32)) (q := 39) C (show decode cX11_length 37 = .ok (.bipush 98, 2) from by decide +kernel) (by decide) rfl ?_
        refine sr_cVi (As := [xad κ (lk v0 6), .int v1, .int v2, .int v3, .int (98 : Int32)]) (st := []) (b := lk v0 9) (q := 42) C yvX10_seek ml_X11_217 (cnX10_seek (xo κ) (lk v0 9) (lk v0 6) v1 v2 v3 (98 : Int32) (kt hv0 kp_11_9) (kt hv0 kp_11_6)) (kt hv0 kp_11_9) (by decide) rfl rfl rfl (by decide) (by decide) (Nat.le_of_ble_eq_true rfl) rfl (show decode cX11_length 39 = .ok (.invokevirtual 217, 3) from by decide +kernel) rfl (fun x39 => ?_)
        exact sr_ireturn C _ rfl (show decode cX11_length 42 = .ok (.ireturn, 1) from by decide +kernel)
      · refine sr_bipush (v := (-2 : Int32)) (q := 25) C (show decode cX11_length 23 = .ok (.bipush (-2), 2) from by decide +kernel) (by decide) rfl ?_
        exact sr_ireturn C _ rfl (show decode cX11_length 25 = .ok (.ireturn, 1) from by decide +kernel)
theorem cnX11_length (ω : sm_O) (v0 : Nat) (v1 : Int32) (v2 : Int32) (v3 : Int32) (hv0 : kd v0 = 11) : sm_Mt 5 yX11_length cX11_length 4 (some .int) ω [.ref (ω.1 + v0), .int v1, .int v2, .int v3] (fun a => some (.int a)) (fnX11_length v0 v1 v2 v3) := by
  refine sm_conI (r := fun a => a) (by decide) (fun _ => rfl) (Nat.le_of_ble_eq_true rfl) ?_
  intro κ hκ C
  subst hκ
  exact slX11_length C v0 v1 v2 v3 hv0
def fnX11_may (v0 : Nat) (v1 : Int32) (v2 : Int32) (v3 : Int32) : sm_M Int32 := m_bnd (fnX7_isPlace (lk v0 5) v1) fun x5 => m_br ((bI x5) = 0)
    (m_ret (-2 : Int32))
    (m_bnd (fnX7_isPlace (lk v0 5) v2) fun x16 => m_br ((bI x16) = 0)
    (m_ret (-2 : Int32))
    (m_bnd (fnX11_isStride v0 v3) fun x24 => m_br ((bI x24) = 0)
    (m_ret (-2 : Int32))
    (m_bnd (fnX7_joins (lk v0 5) v1 v2 v3) fun x40 => m_br ((bI x40) = 0)
    (m_ret (0 : Int32))
    (m_ret (1 : Int32)))))
set_option maxHeartbeats 4000000 in
set_option maxRecDepth 100000 in
theorem slX11_may {κ : sm_X} (C : sm_C κ RX11 cX11_may 4 4) (v0 : Nat) (v1 : Int32) (v2 : Int32) (v3 : Int32) (hv0 : kd v0 = 11) : sm_S κ (fun r : Int32 => .inr (some (.int r))) (.inl (0, [some (xad κ v0), some (.int v1), some (.int v2), some (.int v3)], [])) (fnX11_may v0 v1 v2 v3) := by
  unfold fnX11_may
  refine sr_aload_n (i := 0) (q := 1) C (show decode cX11_may 0 = .ok (.aload_n 0, 1) from by decide +kernel) rfl rfl rfl ?_
  refine sr_getr (q := 4) C fl_X11_27 hv0 (show decode cX11_may 1 = .ok (.getfield 27, 3) from by decide +kernel) rfl ?_
  refine sr_iload_n (i := 1) (q := 5) C (show decode cX11_may 4 = .ok (.iload_n 1, 1) from by decide +kernel) rfl rfl rfl ?_
  refine sr_cVz (As := [.int v1]) (st := []) (b := lk v0 5) (q := 8) C yvX7_isPlace ml_X11_184 (cnX7_isPlace (xo κ) (lk v0 5) v1 (kt hv0 kp_11_5)) (kt hv0 kp_11_5) (by decide) rfl rfl rfl (by decide) (by decide) (Nat.le_of_ble_eq_true rfl) rfl (show decode cX11_may 5 = .ok (.invokevirtual 184, 3) from by decide +kernel) rfl (fun x5 => ?_)
  refine sr_if_eq (q := 11) C 30 (show decode cX11_may 8 = .ok (.ifCond .eq 22, 3) from by decide +kernel) (by decide) rfl ?_ ?_
  · refine sr_bipush (v := (-2 : Int32)) (q := 32) C (show decode cX11_may 30 = .ok (.bipush (-2), 2) from by decide +kernel) (by decide) rfl ?_
    exact sr_ireturn C _ rfl (show decode cX11_may 32 = .ok (.ireturn, 1) from by decide +kernel)
  · refine sr_aload_n (i := 0) (q := 12) C (show decode cX11_may 11 = .ok (.aload_n 0, 1) from by decide +kernel) rfl rfl rfl ?_
    refine sr_getr (q := 15) C fl_X11_27 hv0 (show decode cX11_may 12 = .ok (.getfield 27, 3) from by decide +kernel) rfl ?_
    refine sr_iload_n (i := 2) (q := 16) C (show decode cX11_may 15 = .ok (.iload_n 2, 1) from by decide +kernel) rfl rfl rfl ?_
    refine sr_cVz (As := [.int v2]) (st := []) (b := lk v0 5) (q := 19) C yvX7_isPlace ml_X11_184 (cnX7_isPlace (xo κ) (lk v0 5) v2 (kt hv0 kp_11_5)) (kt hv0 kp_11_5) (by decide) rfl rfl rfl (by decide) (by decide) (Nat.le_of_ble_eq_true rfl) rfl (show decode cX11_may 16 = .ok (.invokevirtual 184, 3) from by decide +kernel) rfl (fun x16 => ?_)
    refine sr_if_eq (q := 22) C 30 (show decode cX11_may 19 = .ok (.ifCond .eq 11, 3) from by decide +kernel) (by decide) rfl ?_ ?_
    · refine sr_bipush (v := (-2 : Int32)) (q := 32) C (show decode cX11_may 30 = .ok (.bipush (-2), 2) from by decide +kernel) (by decide) rfl ?_
      exact sr_ireturn C _ rfl (show decode cX11_may 32 = .ok (.ireturn, 1) from by decide +kernel)
    · refine sr_aload_n (i := 0) (q := 23) C (show decode cX11_may 22 = .ok (.aload_n 0, 1) from by decide +kernel) rfl rfl rfl ?_
      refine sr_iload_n (i := 3) (q := 24) C (show decode cX11_may 23 = .ok (.iload_n 3, 1) from by decide +kernel) rfl rfl rfl ?_
      refine sr_cVz (As := [.int v3]) (st := []) (b := v0) (q := 27) C yvX11_isStride ml_X11_187 (cnX11_isStride (xo κ) v0 v3 hv0) hv0 (by decide) rfl rfl rfl (by decide) (by decide) (Nat.le_of_ble_eq_true rfl) rfl (show decode cX11_may 24 = .ok (.invokevirtual 187, 3) from by decide +kernel) rfl (fun x24 => ?_)
      refine sr_if_ne (q := 30) C 33 (show decode cX11_may 27 = .ok (.ifCond .ne 6, 3) from by decide +kernel) (by decide) rfl ?_ ?_
      · refine sr_aload_n (i := 0) (q := 34) C (show decode cX11_may 33 = .ok (.aload_n 0, 1) from by decide +kernel) rfl rfl rfl ?_
        refine sr_getr (q := 37) C fl_X11_27 hv0 (show decode cX11_may 34 = .ok (.getfield 27, 3) from by decide +kernel) rfl ?_
        refine sr_iload_n (i := 1) (q := 38) C (show decode cX11_may 37 = .ok (.iload_n 1, 1) from by decide +kernel) rfl rfl rfl ?_
        refine sr_iload_n (i := 2) (q := 39) C (show decode cX11_may 38 = .ok (.iload_n 2, 1) from by decide +kernel) rfl rfl rfl ?_
        refine sr_iload_n (i := 3) (q := 40) C (show decode cX11_may 39 = .ok (.iload_n 3, 1) from by decide +kernel) rfl rfl rfl ?_
        refine sr_cVz (As := [.int v1, .int v2, .int v3]) (st := []) (b := lk v0 5) (q := 43) C yvX7_joins ml_X11_190 (cnX7_joins (xo κ) (lk v0 5) v1 v2 v3 (kt hv0 kp_11_5)) (kt hv0 kp_11_5) (by decide) rfl rfl rfl (by decide) (by decide) (Nat.le_of_ble_eq_true rfl) rfl (show decode cX11_may 40 = .ok (.invokevirtual 190, 3) from by decide +kernel) rfl (fun x40 => ?_)
        refine sr_if_eq (q := 46) C 50 (show decode cX11_may 43 = .ok (.ifCond .eq 7, 3) from by decide +kernel) (by decide) rfl ?_ ?_
        · refine sr_iconst (v := (0 : Int32)) (q := 51) C (show decode cX11_may 50 = .ok (.iconst 0, 1) from by decide +kernel) (by decide) rfl ?_
          exact sr_ireturn C _ rfl (show decode cX11_may 51 = .ok (.ireturn, 1) from by decide +kernel)
        · refine sr_iconst (v := (1 : Int32)) (q := 47) C (show decode cX11_may 46 = .ok (.iconst 1, 1) from by decide +kernel) (by decide) rfl ?_
          refine sr_goto (q := 51) C (show decode cX11_may 47 = .ok (.goto 4, 3) from by decide +kernel) (by decide) ?_
          exact sr_ireturn C _ rfl (show decode cX11_may 51 = .ok (.ireturn, 1) from by decide +kernel)
      · refine sr_bipush (v := (-2 : Int32)) (q := 32) C (show decode cX11_may 30 = .ok (.bipush (-2), 2) from by decide +kernel) (by decide) rfl ?_
        exact sr_ireturn C _ rfl (show decode cX11_may 32 = .ok (.ireturn, 1) from by decide +kernel)
theorem cnX11_may (ω : sm_O) (v0 : Nat) (v1 : Int32) (v2 : Int32) (v3 : Int32) (hv0 : kd v0 = 11) : sm_Mt 4 yX11_may cX11_may 4 (some .int) ω [.ref (ω.1 + v0), .int v1, .int v2, .int v3] (fun a => some (.int a)) (fnX11_may v0 v1 v2 v3) := by
  refine sm_conI (r := fun a => a) (by decide) (fun _ => rfl) (Nat.le_of_ble_eq_true rfl) ?_
  intro κ hκ C
  subst hκ
  exact slX11_may C v0 v1 v2 v3 hv0
def fnX2_around_J69 (k6 : Nat → Nat → Int32 → Int32 → Int32 → Int32 → sm_M Int32) (v0 : Nat) (v1 : Nat) (v2 : Int32) (v3 : Int32) (v4 : Int32) (v5 : Int32) : sm_M Int32 := k6 v0 v1 v2 v3 v4 (v5 + (1 : Int32))
set_option maxHeartbeats 4000000 in
set_option maxRecDepth 100000 in
theorem slX2_around_J69 {κ : sm_X} (C : sm_C κ RX2 cX2_around 8 1) {k6 : Nat → Nat → Int32 → Int32 → Int32 → Int32 → sm_M Int32} (K6 : ∀ (v0 : Nat) (v1 : Nat) (v2 : Int32) (v3 : Int32) (v4 : Int32) (v5 : Int32) (hv0 : kd v0 = 2) (hv1 : kd v1 = 7), sm_S κ (fun r : Int32 => .inr (some (.int r))) (.inl (6, [some (xad κ v0), some (xad κ v1), some (.int v2), some (.int v3), some (.int v4), some (.int v5), none, none], [])) (k6 v0 v1 v2 v3 v4 v5)) (v0 : Nat) (v1 : Nat) (v2 : Int32) (v3 : Int32) (v4 : Int32) (v5 : Int32) (hv0 : kd v0 = 2) (hv1 : kd v1 = 7) : sm_S κ (fun r : Int32 => .inr (some (.int r))) (.inl (69, [some (xad κ v0), some (xad κ v1), some (.int v2), some (.int v3), some (.int v4), some (.int v5), none, none], [])) (fnX2_around_J69 k6 v0 v1 v2 v3 v4 v5) := by
  unfold fnX2_around_J69
  refine sr_iinc (v := v5 + (1 : Int32)) (L' := [some (xad κ v0), some (xad κ v1), some (.int v2), some (.int v3), some (.int v4), some (.int (v5 + (1 : Int32))), none, none]) (q := 72) C (show decode cX2_around 69 = .ok (.iinc 5 1, 3) from by decide +kernel) rfl rfl (by decide) rfl rfl ?_
  refine sr_goto (q := 6) C (show decode cX2_around 72 = .ok (.goto (-66), 3) from by decide +kernel) (by decide) ?_
  exact K6 v0 v1 v2 v3 v4 (v5 + (1 : Int32)) hv0 hv1
def fnX2_around_L6 : Nat → Nat → Nat → Int32 → Int32 → Int32 → Int32 → sm_M Int32
  | 0, _, _, _, _, _, _ => m_fail
  | n + 1, v0, v1, v2, v3, v4, v5 => m_gi v1 4 fun x9 => m_br (x9 ≤ v5)
    (m_ret v4)
    (m_ai (lk v1 8) v5 fun x21 => m_nm (x21 - v2) fun y24 => m_ai (lk v1 9) v5 fun x32 => m_nm (x32 - v3) fun y35 => m_gi v0 7 fun x49 => m_gi v0 7 fun x53 => m_br ((x49 * x53) < ((y24 * y24) + (y35 * y35)))
    (fnX2_around_J69 (fnX2_around_L6 n) v0 v1 v2 v3 v4 v5)
    (m_nm (v4 ||| ((1 : Int32) <<< (v5 &&& 31))) fun y67 => fnX2_around_J69 (fnX2_around_L6 n) v0 v1 v2 v3 y67 v5))
set_option maxHeartbeats 4000000 in
set_option maxRecDepth 100000 in
theorem slX2_around_L6 {κ : sm_X} (C : sm_C κ RX2 cX2_around 8 1) : ∀ (n : Nat) (v0 : Nat) (v1 : Nat) (v2 : Int32) (v3 : Int32) (v4 : Int32) (v5 : Int32) (hv0 : kd v0 = 2) (hv1 : kd v1 = 7), sm_S κ (fun r : Int32 => .inr (some (.int r))) (.inl (6, [some (xad κ v0), some (xad κ v1), some (.int v2), some (.int v3), some (.int v4), some (.int v5), none, none], [])) (fnX2_around_L6 n v0 v1 v2 v3 v4 v5) := by
  intro n
  induction n with
  | zero =>
    intros
    exact sr_fail
  | succ n K6 =>
    intro v0 v1 v2 v3 v4 v5 hv0 hv1
    unfold fnX2_around_L6
    refine sr_iload (i := 5) (q := 8) C (show decode cX2_around 6 = .ok (.iload 5, 2) from by decide +kernel) rfl rfl ?_
    refine sr_aload_n (i := 1) (q := 9) C (show decode cX2_around 8 = .ok (.aload_n 1, 1) from by decide +kernel) rfl rfl rfl ?_
    refine sr_geti (q := 12) C fl_X2_72 (Or.inl rfl) hv1 (show decode cX2_around 9 = .ok (.getfield 72, 3) from by decide +kernel) rfl (fun x9 => ?_)
    refine sr_icmp_ge (q := 15) C 75 (show decode cX2_around 12 = .ok (.if_icmp .ge 63, 3) from by decide +kernel) (by decide) rfl ?_ ?_
    · refine sr_iload (i := 4) (q := 77) C (show decode cX2_around 75 = .ok (.iload 4, 2) from by decide +kernel) rfl rfl ?_
      exact sr_ireturn C _ rfl (show decode cX2_around 77 = .ok (.ireturn, 1) from by decide +kernel)
    · refine sr_aload_n (i := 1) (q := 16) C (show decode cX2_around 15 = .ok (.aload_n 1, 1) from by decide +kernel) rfl rfl rfl ?_
      refine sr_getr (q := 19) C fl_X2_98 hv1 (show decode cX2_around 16 = .ok (.getfield 98, 3) from by decide +kernel) rfl ?_
      refine sr_iload (i := 5) (q := 21) C (show decode cX2_around 19 = .ok (.iload 5, 2) from by decide +kernel) rfl rfl ?_
      refine sr_iaload (q := 22) C (kt hv1 kp_7_8) (show decode cX2_around 21 = .ok (.iaload, 1) from by decide +kernel) rfl (fun x21 => ?_)
      refine sr_iload_n (i := 2) (q := 23) C (show decode cX2_around 22 = .ok (.iload_n 2, 1) from by decide +kernel) rfl rfl rfl ?_
      refine sr_isub (q := 24) C (show decode cX2_around 23 = .ok (.isub, 1) from by decide +kernel) rfl ?_
      refine sr_nmi (fun y24 => ?_)
      refine sr_istore (i := 6) (L' := [some (xad κ v0), some (xad κ v1), some (.int v2), some (.int v3), some (.int v4), some (.int v5), some (.int y24), none]) (q := 26) C (show decode cX2_around 24 = .ok (.istore 6, 2) from by decide +kernel) (by decide) rfl rfl ?_
      refine sr_aload_n (i := 1) (q := 27) C (show decode cX2_around 26 = .ok (.aload_n 1, 1) from by decide +kernel) rfl rfl rfl ?_
      refine sr_getr (q := 30) C fl_X2_101 hv1 (show decode cX2_around 27 = .ok (.getfield 101, 3) from by decide +kernel) rfl ?_
      refine sr_iload (i := 5) (q := 32) C (show decode cX2_around 30 = .ok (.iload 5, 2) from by decide +kernel) rfl rfl ?_
      refine sr_iaload (q := 33) C (kt hv1 kp_7_9) (show decode cX2_around 32 = .ok (.iaload, 1) from by decide +kernel) rfl (fun x32 => ?_)
      refine sr_iload_n (i := 3) (q := 34) C (show decode cX2_around 33 = .ok (.iload_n 3, 1) from by decide +kernel) rfl rfl rfl ?_
      refine sr_isub (q := 35) C (show decode cX2_around 34 = .ok (.isub, 1) from by decide +kernel) rfl ?_
      refine sr_nmi (fun y35 => ?_)
      refine sr_istore (i := 7) (L' := [some (xad κ v0), some (xad κ v1), some (.int v2), some (.int v3), some (.int v4), some (.int v5), some (.int y24), some (.int y35)]) (q := 37) C (show decode cX2_around 35 = .ok (.istore 7, 2) from by decide +kernel) (by decide) rfl rfl ?_
      refine sr_iload (i := 6) (q := 39) C (show decode cX2_around 37 = .ok (.iload 6, 2) from by decide +kernel) rfl rfl ?_
      refine sr_iload (i := 6) (q := 41) C (show decode cX2_around 39 = .ok (.iload 6, 2) from by decide +kernel) rfl rfl ?_
      refine sr_imul (q := 42) C (show decode cX2_around 41 = .ok (.imul, 1) from by decide +kernel) rfl ?_
      refine sr_iload (i := 7) (q := 44) C (show decode cX2_around 42 = .ok (.iload 7, 2) from by decide +kernel) rfl rfl ?_
      refine sr_iload (i := 7) (q := 46) C (show decode cX2_around 44 = .ok (.iload 7, 2) from by decide +kernel) rfl rfl ?_
      refine sr_imul (q := 47) C (show decode cX2_around 46 = .ok (.imul, 1) from by decide +kernel) rfl ?_
      refine sr_iadd (q := 48) C (show decode cX2_around 47 = .ok (.iadd, 1) from by decide +kernel) rfl ?_
      refine sr_aload_n (i := 0) (q := 49) C (show decode cX2_around 48 = .ok (.aload_n 0, 1) from by decide +kernel) rfl rfl rfl ?_
      refine sr_geti (q := 52) C fl_X2_35 (Or.inl rfl) hv0 (show decode cX2_around 49 = .ok (.getfield 35, 3) from by decide +kernel) rfl (fun x49 => ?_)
      refine sr_aload_n (i := 0) (q := 53) C (show decode cX2_around 52 = .ok (.aload_n 0, 1) from by decide +kernel) rfl rfl rfl ?_
      refine sr_geti (q := 56) C fl_X2_35 (Or.inl rfl) hv0 (show decode cX2_around 53 = .ok (.getfield 35, 3) from by decide +kernel) rfl (fun x53 => ?_)
      refine sr_imul (q := 57) C (show decode cX2_around 56 = .ok (.imul, 1) from by decide +kernel) rfl ?_
      refine sr_icmp_gt (q := 60) C 69 (show decode cX2_around 57 = .ok (.if_icmp .gt 12, 3) from by decide +kernel) (by decide) rfl ?_ ?_
      · refine sr_weak (L' := [some (xad κ v0), some (xad κ v1), some (.int v2), some (.int v3), some (.int v4), some (.int v5), none, none]) ⟨rfl, rfl, rfl, rfl, rfl, rfl, trivial⟩ ?_
        exact slX2_around_J69 C K6 v0 v1 v2 v3 v4 v5 hv0 hv1
      · refine sr_iload (i := 4) (q := 62) C (show decode cX2_around 60 = .ok (.iload 4, 2) from by decide +kernel) rfl rfl ?_
        refine sr_iconst (v := (1 : Int32)) (q := 63) C (show decode cX2_around 62 = .ok (.iconst 1, 1) from by decide +kernel) (by decide) rfl ?_
        refine sr_iload (i := 5) (q := 65) C (show decode cX2_around 63 = .ok (.iload 5, 2) from by decide +kernel) rfl rfl ?_
        refine sr_ishl (q := 66) C (show decode cX2_around 65 = .ok (.ishl, 1) from by decide +kernel) rfl ?_
        refine sr_ior (q := 67) C (show decode cX2_around 66 = .ok (.ior, 1) from by decide +kernel) rfl ?_
        refine sr_nmi (fun y67 => ?_)
        refine sr_istore (i := 4) (L' := [some (xad κ v0), some (xad κ v1), some (.int v2), some (.int v3), some (.int y67), some (.int v5), some (.int y24), some (.int y35)]) (q := 69) C (show decode cX2_around 67 = .ok (.istore 4, 2) from by decide +kernel) (by decide) rfl rfl ?_
        refine sr_weak (L' := [some (xad κ v0), some (xad κ v1), some (.int v2), some (.int v3), some (.int y67), some (.int v5), none, none]) ⟨rfl, rfl, rfl, rfl, rfl, rfl, trivial⟩ ?_
        exact slX2_around_J69 C K6 v0 v1 v2 v3 y67 v5 hv0 hv1
def fnX2_around (v0 : Nat) (v1 : Nat) (v2 : Int32) (v3 : Int32) : sm_M Int32 := fnX2_around_L6 4096 v0 v1 v2 v3 (0 : Int32) (0 : Int32)
set_option maxHeartbeats 4000000 in
set_option maxRecDepth 100000 in
theorem slX2_around {κ : sm_X} (C : sm_C κ RX2 cX2_around 8 1) (v0 : Nat) (v1 : Nat) (v2 : Int32) (v3 : Int32) (hv0 : kd v0 = 2) (hv1 : kd v1 = 7) : sm_S κ (fun r : Int32 => .inr (some (.int r))) (.inl (0, [some (xad κ v0), some (xad κ v1), some (.int v2), some (.int v3), none, none, none, none], [])) (fnX2_around v0 v1 v2 v3) := by
  unfold fnX2_around
  refine sr_iconst (v := (0 : Int32)) (q := 1) C (show decode cX2_around 0 = .ok (.iconst 0, 1) from by decide +kernel) (by decide) rfl ?_
  refine sr_istore (i := 4) (L' := [some (xad κ v0), some (xad κ v1), some (.int v2), some (.int v3), some (.int (0 : Int32)), none, none, none]) (q := 3) C (show decode cX2_around 1 = .ok (.istore 4, 2) from by decide +kernel) (by decide) rfl rfl ?_
  refine sr_iconst (v := (0 : Int32)) (q := 4) C (show decode cX2_around 3 = .ok (.iconst 0, 1) from by decide +kernel) (by decide) rfl ?_
  refine sr_istore (i := 5) (L' := [some (xad κ v0), some (xad κ v1), some (.int v2), some (.int v3), some (.int (0 : Int32)), some (.int (0 : Int32)), none, none]) (q := 6) C (show decode cX2_around 4 = .ok (.istore 5, 2) from by decide +kernel) (by decide) rfl rfl ?_
  exact slX2_around_L6 C 4096 v0 v1 v2 v3 (0 : Int32) (0 : Int32) hv0 hv1
theorem cnX2_around (ω : sm_O) (v0 : Nat) (v1 : Nat) (v2 : Int32) (v3 : Int32) (hv0 : kd v0 = 2) (hv1 : kd v1 = 7) : sm_Mt 1 yX2_around cX2_around 8 (some .int) ω [.ref (ω.1 + v0), .ref (ω.1 + v1), .int v2, .int v3] (fun a => some (.int a)) (fnX2_around v0 v1 v2 v3) := by
  refine sm_conI (r := fun a => a) (by decide) (fun _ => rfl) (Nat.le_of_ble_eq_true rfl) ?_
  intro κ hκ C
  subst hκ
  exact slX2_around C v0 v1 v2 v3 hv0 hv1
