def fnX2_put_J102 (v0 : Nat) (v1 : Nat) (v2 : Int32) (v4 : Int32) : sm_M Unit := m_gi v1 1 fun x103 => m_gi v0 7 fun x110 => m_br (x110 < (x103 - v4))
    (m_ret ())
    (m_gi (lk v0 1) 1 fun x121 => m_si (lk v0 1) 1 (x121 ||| ((1 : Int32) <<< (v2 &&& 31))) <| m_ret ())
set_option maxHeartbeats 4000000 in
set_option maxRecDepth 100000 in
theorem slX2_put_J102 {κ : sm_X} (C : sm_C κ RX2 cX2_put 8 2) (v0 : Nat) (v1 : Nat) (v2 : Int32) (v4 : Int32) (hv0 : kd v0 = 2) (hv1 : kd v1 = 7) : sm_S κ (fun _ : Unit => .inr none) (.inl (102, [some (xad κ v0), some (xad κ v1), some (.int v2), none, some (.int v4), none, none, none], [])) (fnX2_put_J102 v0 v1 v2 v4) := by
  unfold fnX2_put_J102
  refine sr_aload_n (i := 1) (q := 103) C (show decode cX2_put 102 = .ok (.aload_n 1, 1) from by decide +kernel) rfl rfl rfl ?_
  refine sr_geti (q := 106) C fl_X2_95 (Or.inl rfl) hv1 (show decode cX2_put 103 = .ok (.getfield 95, 3) from by decide +kernel) rfl (fun x103 => ?_)
  refine sr_iload (i := 4) (q := 108) C (show decode cX2_put 106 = .ok (.iload 4, 2) from by decide +kernel) rfl rfl ?_
  refine sr_isub (q := 109) C (show decode cX2_put 108 = .ok (.isub, 1) from by decide +kernel) rfl ?_
  refine sr_aload_n (i := 0) (q := 110) C (show decode cX2_put 109 = .ok (.aload_n 0, 1) from by decide +kernel) rfl rfl rfl ?_
  refine sr_geti (q := 113) C fl_X2_35 (Or.inl rfl) hv0 (show decode cX2_put 110 = .ok (.getfield 35, 3) from by decide +kernel) rfl (fun x110 => ?_)
  refine sr_icmp_gt (q := 116) C 131 (show decode cX2_put 113 = .ok (.if_icmp .gt 18, 3) from by decide +kernel) (by decide) rfl ?_ ?_
  · exact sr_vreturn C _ rfl (show decode cX2_put 131 = .ok (.return_, 1) from by decide +kernel)
  · refine sr_aload_n (i := 0) (q := 117) C (show decode cX2_put 116 = .ok (.aload_n 0, 1) from by decide +kernel) rfl rfl rfl ?_
    refine sr_getr (q := 120) C fl_X2_14 hv0 (show decode cX2_put 117 = .ok (.getfield 14, 3) from by decide +kernel) rfl ?_
    refine sr_dup (q := 121) C (show decode cX2_put 120 = .ok (.dup, 1) from by decide +kernel) rfl rfl ?_
    refine sr_geti (q := 124) C fl_X2_52 (Or.inl rfl) (kt hv0 kp_2_1) (show decode cX2_put 121 = .ok (.getfield 52, 3) from by decide +kernel) rfl (fun x121 => ?_)
    refine sr_iconst (v := (1 : Int32)) (q := 125) C (show decode cX2_put 124 = .ok (.iconst 1, 1) from by decide +kernel) (by decide) rfl ?_
    refine sr_iload_n (i := 2) (q := 126) C (show decode cX2_put 125 = .ok (.iload_n 2, 1) from by decide +kernel) rfl rfl rfl ?_
    refine sr_ishl (q := 127) C (show decode cX2_put 126 = .ok (.ishl, 1) from by decide +kernel) rfl ?_
    refine sr_ior (q := 128) C (show decode cX2_put 127 = .ok (.ior, 1) from by decide +kernel) rfl ?_
    refine sr_puti (q := 131) C fp_X2_52 (kt hv0 kp_2_1) (show decode cX2_put 128 = .ok (.putfield 52, 3) from by decide +kernel) rfl ?_
    exact sr_vreturn C _ rfl (show decode cX2_put 131 = .ok (.return_, 1) from by decide +kernel)
def fnX2_put_J78 (v0 : Nat) (v1 : Nat) (v2 : Int32) (v4 : Int32) : sm_M Unit := m_gi v0 7 fun x81 => m_br (x81 < v4)
    (fnX2_put_J102 v0 v1 v2 v4)
    (m_gi (lk v0 1) 0 fun x92 => m_si (lk v0 1) 0 (x92 ||| ((1 : Int32) <<< (v2 &&& 31))) <| fnX2_put_J102 v0 v1 v2 v4)
set_option maxHeartbeats 4000000 in
set_option maxRecDepth 100000 in
theorem slX2_put_J78 {κ : sm_X} (C : sm_C κ RX2 cX2_put 8 2) (v0 : Nat) (v1 : Nat) (v2 : Int32) (v4 : Int32) (hv0 : kd v0 = 2) (hv1 : kd v1 = 7) : sm_S κ (fun _ : Unit => .inr none) (.inl (78, [some (xad κ v0), some (xad κ v1), some (.int v2), none, some (.int v4), none, none, none], [])) (fnX2_put_J78 v0 v1 v2 v4) := by
  unfold fnX2_put_J78
  refine sr_iload (i := 4) (q := 80) C (show decode cX2_put 78 = .ok (.iload 4, 2) from by decide +kernel) rfl rfl ?_
  refine sr_aload_n (i := 0) (q := 81) C (show decode cX2_put 80 = .ok (.aload_n 0, 1) from by decide +kernel) rfl rfl rfl ?_
  refine sr_geti (q := 84) C fl_X2_35 (Or.inl rfl) hv0 (show decode cX2_put 81 = .ok (.getfield 35, 3) from by decide +kernel) rfl (fun x81 => ?_)
  refine sr_icmp_gt (q := 87) C 102 (show decode cX2_put 84 = .ok (.if_icmp .gt 18, 3) from by decide +kernel) (by decide) rfl ?_ ?_
  · exact slX2_put_J102 C v0 v1 v2 v4 hv0 hv1
  · refine sr_aload_n (i := 0) (q := 88) C (show decode cX2_put 87 = .ok (.aload_n 0, 1) from by decide +kernel) rfl rfl rfl ?_
    refine sr_getr (q := 91) C fl_X2_14 hv0 (show decode cX2_put 88 = .ok (.getfield 14, 3) from by decide +kernel) rfl ?_
    refine sr_dup (q := 92) C (show decode cX2_put 91 = .ok (.dup, 1) from by decide +kernel) rfl rfl ?_
    refine sr_geti (q := 95) C fl_X2_47 (Or.inl rfl) (kt hv0 kp_2_1) (show decode cX2_put 92 = .ok (.getfield 47, 3) from by decide +kernel) rfl (fun x92 => ?_)
    refine sr_iconst (v := (1 : Int32)) (q := 96) C (show decode cX2_put 95 = .ok (.iconst 1, 1) from by decide +kernel) (by decide) rfl ?_
    refine sr_iload_n (i := 2) (q := 97) C (show decode cX2_put 96 = .ok (.iload_n 2, 1) from by decide +kernel) rfl rfl rfl ?_
    refine sr_ishl (q := 98) C (show decode cX2_put 97 = .ok (.ishl, 1) from by decide +kernel) rfl ?_
    refine sr_ior (q := 99) C (show decode cX2_put 98 = .ok (.ior, 1) from by decide +kernel) rfl ?_
    refine sr_puti (q := 102) C fp_X2_47 (kt hv0 kp_2_1) (show decode cX2_put 99 = .ok (.putfield 47, 3) from by decide +kernel) rfl ?_
    exact slX2_put_J102 C v0 v1 v2 v4 hv0 hv1
def fnX2_put_L42 : Nat → Nat → Nat → Int32 → Int32 → Int32 → sm_M Unit
  | 0, _, _, _, _, _ => m_fail
  | n + 1, v0, v1, v2, v4, v7 => m_br (v7 = 0)
    (fnX2_put_J78 v0 v1 v2 v4)
    (m_bnd (fnJ6_numberOfTrailingZeros_0f7a4 v7) fun x56 => m_ai (lk (lk v0 1) 5) x56 fun x60 => m_sai (lk (lk v0 1) 5) x56 (x60 ||| ((1 : Int32) <<< (v2 &&& 31))) <| m_nm (v7 &&& (v7 - (1 : Int32))) fun y73 => (fnX2_put_L42 n) v0 v1 v2 v4 y73)
set_option maxHeartbeats 4000000 in
set_option maxRecDepth 100000 in
theorem slX2_put_L42 {κ : sm_X} (C : sm_C κ RX2 cX2_put 8 2) : ∀ (n : Nat) (v0 : Nat) (v1 : Nat) (v2 : Int32) (v4 : Int32) (v7 : Int32) (hv0 : kd v0 = 2) (hv1 : kd v1 = 7), sm_S κ (fun _ : Unit => .inr none) (.inl (42, [some (xad κ v0), some (xad κ v1), some (.int v2), none, some (.int v4), none, none, some (.int v7)], [])) (fnX2_put_L42 n v0 v1 v2 v4 v7) := by
  intro n
  induction n with
  | zero =>
    intros
    exact sr_fail
  | succ n K42 =>
    intro v0 v1 v2 v4 v7 hv0 hv1
    unfold fnX2_put_L42
    refine sr_iload (i := 7) (q := 44) C (show decode cX2_put 42 = .ok (.iload 7, 2) from by decide +kernel) rfl rfl ?_
    refine sr_if_eq (q := 47) C 78 (show decode cX2_put 44 = .ok (.ifCond .eq 34, 3) from by decide +kernel) (by decide) rfl ?_ ?_
    · refine sr_weak (L' := [some (xad κ v0), some (xad κ v1), some (.int v2), none, some (.int v4), none, none, none]) ⟨rfl, rfl, rfl, rfl, trivial⟩ ?_
      exact slX2_put_J78 C v0 v1 v2 v4 hv0 hv1
    · refine sr_aload_n (i := 0) (q := 48) C (show decode cX2_put 47 = .ok (.aload_n 0, 1) from by decide +kernel) rfl rfl rfl ?_
      refine sr_getr (q := 51) C fl_X2_14 hv0 (show decode cX2_put 48 = .ok (.getfield 14, 3) from by decide +kernel) rfl ?_
      refine sr_getr (q := 54) C fl_X2_54 (kt hv0 kp_2_1) (show decode cX2_put 51 = .ok (.getfield 54, 3) from by decide +kernel) rfl ?_
      refine sr_iload (i := 7) (q := 56) C (show decode cX2_put 54 = .ok (.iload 7, 2) from by decide +kernel) rfl rfl ?_
      refine sr_cSi (As := [.int v7]) (st := [xad κ (lk (lk v0 1) 5)]) (q := 59) C ysJ6_numberOfTrailingZeros_0f7a4 ml_X2_90 (cnJ6_numberOfTrailingZeros_0f7a4 (xo κ) v7) rfl (by decide) (by decide) (Nat.le_of_ble_eq_true rfl) rfl (show decode cX2_put 56 = .ok (.invokestatic 90, 3) from by decide +kernel) rfl (fun x56 => ?_)
      refine sr_dup2 (q := 60) C (show decode cX2_put 59 = .ok (.dup2, 1) from by decide +kernel) rfl rfl rfl ?_
      refine sr_iaload (q := 61) C (kt (kt hv0 kp_2_1) kp_4_5) (show decode cX2_put 60 = .ok (.iaload, 1) from by decide +kernel) rfl (fun x60 => ?_)
      refine sr_iconst (v := (1 : Int32)) (q := 62) C (show decode cX2_put 61 = .ok (.iconst 1, 1) from by decide +kernel) (by decide) rfl ?_
      refine sr_iload_n (i := 2) (q := 63) C (show decode cX2_put 62 = .ok (.iload_n 2, 1) from by decide +kernel) rfl rfl rfl ?_
      refine sr_ishl (q := 64) C (show decode cX2_put 63 = .ok (.ishl, 1) from by decide +kernel) rfl ?_
      refine sr_ior (q := 65) C (show decode cX2_put 64 = .ok (.ior, 1) from by decide +kernel) rfl ?_
      refine sr_iastore (q := 66) C (kt (kt hv0 kp_2_1) kp_4_5) (show decode cX2_put 65 = .ok (.iastore, 1) from by decide +kernel) rfl ?_
      refine sr_iload (i := 7) (q := 68) C (show decode cX2_put 66 = .ok (.iload 7, 2) from by decide +kernel) rfl rfl ?_
      refine sr_iload (i := 7) (q := 70) C (show decode cX2_put 68 = .ok (.iload 7, 2) from by decide +kernel) rfl rfl ?_
      refine sr_iconst (v := (1 : Int32)) (q := 71) C (show decode cX2_put 70 = .ok (.iconst 1, 1) from by decide +kernel) (by decide) rfl ?_
      refine sr_isub (q := 72) C (show decode cX2_put 71 = .ok (.isub, 1) from by decide +kernel) rfl ?_
      refine sr_iand (q := 73) C (show decode cX2_put 72 = .ok (.iand, 1) from by decide +kernel) rfl ?_
      refine sr_nmi (fun y73 => ?_)
      refine sr_istore (i := 7) (L' := [some (xad κ v0), some (xad κ v1), some (.int v2), none, some (.int v4), none, none, some (.int y73)]) (q := 75) C (show decode cX2_put 73 = .ok (.istore 7, 2) from by decide +kernel) (by decide) rfl rfl ?_
      refine sr_goto (q := 42) C (show decode cX2_put 75 = .ok (.goto (-33), 3) from by decide +kernel) (by decide) ?_
      exact K42 v0 v1 v2 v4 y73 hv0 hv1
def fnX2_put (v0 : Nat) (v1 : Nat) (v2 : Int32) (v3 : Int32) (v4 : Int32) (v5 : Int32) : sm_M Unit := m_bnd (fnX2_around v0 v1 v3 v4) fun x5 => m_nm (x5 &&& (((1 : Int32) <<< (v2 &&& 31)) ^^^ (-1 : Int32))) fun y14 => m_sai (lk (lk v0 1) 5) v2 y14 <| m_sai (lk (lk v0 1) 6) v2 v5 <| fnX2_put_L42 4096 v0 v1 v2 v4 y14
set_option maxHeartbeats 4000000 in
set_option maxRecDepth 100000 in
theorem slX2_put {κ : sm_X} (C : sm_C κ RX2 cX2_put 8 2) (v0 : Nat) (v1 : Nat) (v2 : Int32) (v3 : Int32) (v4 : Int32) (v5 : Int32) (hv0 : kd v0 = 2) (hv1 : kd v1 = 7) : sm_S κ (fun _ : Unit => .inr none) (.inl (0, [some (xad κ v0), some (xad κ v1), some (.int v2), some (.int v3), some (.int v4), some (.int v5), none, none], [])) (fnX2_put v0 v1 v2 v3 v4 v5) := by
  unfold fnX2_put
  refine sr_aload_n (i := 0) (q := 1) C (show decode cX2_put 0 = .ok (.aload_n 0, 1) from by decide +kernel) rfl rfl rfl ?_
  refine sr_aload_n (i := 1) (q := 2) C (show decode cX2_put 1 = .ok (.aload_n 1, 1) from by decide +kernel) rfl rfl rfl ?_
  refine sr_iload_n (i := 3) (q := 3) C (show decode cX2_put 2 = .ok (.iload_n 3, 1) from by decide +kernel) rfl rfl rfl ?_
  refine sr_iload (i := 4) (q := 5) C (show decode cX2_put 3 = .ok (.iload 4, 2) from by decide +kernel) rfl rfl ?_
  refine sr_cVi (As := [xad κ v1, .int v3, .int v4]) (st := []) (b := v0) (q := 8) C yvX2_around ml_X2_86 (cnX2_around (xo κ) v0 v1 v3 v4 hv0 hv1) hv0 (by decide) rfl rfl rfl (by decide) (by decide) (Nat.le_of_ble_eq_true rfl) rfl (show decode cX2_put 5 = .ok (.invokevirtual 86, 3) from by decide +kernel) rfl (fun x5 => ?_)
  refine sr_iconst (v := (1 : Int32)) (q := 9) C (show decode cX2_put 8 = .ok (.iconst 1, 1) from by decide +kernel) (by decide) rfl ?_
  refine sr_iload_n (i := 2) (q := 10) C (show decode cX2_put 9 = .ok (.iload_n 2, 1) from by decide +kernel) rfl rfl rfl ?_
  refine sr_ishl (q := 11) C (show decode cX2_put 10 = .ok (.ishl, 1) from by decide +kernel) rfl ?_
  refine sr_iconst (v := (-1 : Int32)) (q := 12) C (show decode cX2_put 11 = .ok (.iconst (-1), 1) from by decide +kernel) (by decide) rfl ?_
  refine sr_ixor (q := 13) C (show decode cX2_put 12 = .ok (.ixor, 1) from by decide +kernel) rfl ?_
  refine sr_iand (q := 14) C (show decode cX2_put 13 = .ok (.iand, 1) from by decide +kernel) rfl ?_
  refine sr_nmi (fun y14 => ?_)
  refine sr_istore (i := 6) (L' := [some (xad κ v0), some (xad κ v1), some (.int v2), some (.int v3), some (.int v4), some (.int v5), some (.int y14), none]) (q := 16) C (show decode cX2_put 14 = .ok (.istore 6, 2) from by decide +kernel) (by decide) rfl rfl ?_
  refine sr_aload_n (i := 0) (q := 17) C (show decode cX2_put 16 = .ok (.aload_n 0, 1) from by decide +kernel) rfl rfl rfl ?_
  refine sr_getr (q := 20) C fl_X2_14 hv0 (show decode cX2_put 17 = .ok (.getfield 14, 3) from by decide +kernel) rfl ?_
  refine sr_getr (q := 23) C fl_X2_54 (kt hv0 kp_2_1) (show decode cX2_put 20 = .ok (.getfield 54, 3) from by decide +kernel) rfl ?_
  refine sr_iload_n (i := 2) (q := 24) C (show decode cX2_put 23 = .ok (.iload_n 2, 1) from by decide +kernel) rfl rfl rfl ?_
  refine sr_iload (i := 6) (q := 26) C (show decode cX2_put 24 = .ok (.iload 6, 2) from by decide +kernel) rfl rfl ?_
  refine sr_iastore (q := 27) C (kt (kt hv0 kp_2_1) kp_4_5) (show decode cX2_put 26 = .ok (.iastore, 1) from by decide +kernel) rfl ?_
  refine sr_aload_n (i := 0) (q := 28) C (show decode cX2_put 27 = .ok (.aload_n 0, 1) from by decide +kernel) rfl rfl rfl ?_
  refine sr_getr (q := 31) C fl_X2_14 hv0 (show decode cX2_put 28 = .ok (.getfield 14, 3) from by decide +kernel) rfl ?_
  refine sr_getr (q := 34) C fl_X2_63 (kt hv0 kp_2_1) (show decode cX2_put 31 = .ok (.getfield 63, 3) from by decide +kernel) rfl ?_
  refine sr_iload_n (i := 2) (q := 35) C (show decode cX2_put 34 = .ok (.iload_n 2, 1) from by decide +kernel) rfl rfl rfl ?_
  refine sr_iload (i := 5) (q := 37) C (show decode cX2_put 35 = .ok (.iload 5, 2) from by decide +kernel) rfl rfl ?_
  refine sr_iastore (q := 38) C (kt (kt hv0 kp_2_1) kp_4_6) (show decode cX2_put 37 = .ok (.iastore, 1) from by decide +kernel) rfl ?_
  refine sr_iload (i := 6) (q := 40) C (show decode cX2_put 38 = .ok (.iload 6, 2) from by decide +kernel) rfl rfl ?_
  refine sr_istore (i := 7) (L' := [some (xad κ v0), some (xad κ v1), some (.int v2), some (.int v3), some (.int v4), some (.int v5), some (.int y14), some (.int y14)]) (q := 42) C (show decode cX2_put 40 = .ok (.istore 7, 2) from by decide +kernel) (by decide) rfl rfl ?_
  refine sr_weak (L' := [some (xad κ v0), some (xad κ v1), some (.int v2), none, some (.int v4), none, none, some (.int y14)]) ⟨rfl, rfl, rfl, rfl, rfl, trivial⟩ ?_
  exact slX2_put_L42 C 4096 v0 v1 v2 v4 y14 hv0 hv1
theorem cnX2_put (ω : sm_O) (v0 : Nat) (v1 : Nat) (v2 : Int32) (v3 : Int32) (v4 : Int32) (v5 : Int32) (hv0 : kd v0 = 2) (hv1 : kd v1 = 7) : sm_Mt 2 yX2_put cX2_put 8 none ω [.ref (ω.1 + v0), .ref (ω.1 + v1), .int v2, .int v3, .int v4, .int v5] (fun _ => none) (fnX2_put v0 v1 v2 v3 v4 v5) := by
  refine sm_conV (by decide) (Nat.le_of_ble_eq_true rfl) ?_
  intro κ hκ C
  subst hκ
  exact slX2_put C v0 v1 v2 v3 v4 v5 hv0 hv1
def fnX7_isInWater (v0 : Nat) (v1 : Int32) (v2 : Int32) : sm_M Bool := m_br (v1 < 0)
    (m_ret false)
    (m_gi v0 2 fun x6 => m_br (x6 ≤ v1)
    (m_ret false)
    (m_br (v2 < (1 : Int32))
    (m_ret false)
    (m_gi v0 1 fun x19 => m_br (x19 ≤ v2)
    (m_ret false)
    (m_ret true))))
set_option maxHeartbeats 4000000 in
set_option maxRecDepth 100000 in
theorem slX7_isInWater {κ : sm_X} (C : sm_C κ RX7 cX7_isInWater 3 1) (v0 : Nat) (v1 : Int32) (v2 : Int32) (hv0 : kd v0 = 7) : sm_S κ (fun r : Bool => .inr (some (.int (bI r)))) (.inl (0, [some (xad κ v0), some (.int v1), some (.int v2)], [])) (fnX7_isInWater v0 v1 v2) := by
  unfold fnX7_isInWater
  refine sr_iload_n (i := 1) (q := 1) C (show decode cX7_isInWater 0 = .ok (.iload_n 1, 1) from by decide +kernel) rfl rfl rfl ?_
  refine sr_if_lt (q := 4) C 29 (show decode cX7_isInWater 1 = .ok (.ifCond .lt 28, 3) from by decide +kernel) (by decide) rfl ?_ ?_
  · refine sr_iconst (v := (0 : Int32)) (q := 30) C (show decode cX7_isInWater 29 = .ok (.iconst 0, 1) from by decide +kernel) (by decide) rfl ?_
    exact sr_ireturn C false rfl (show decode cX7_isInWater 30 = .ok (.ireturn, 1) from by decide +kernel)
  · refine sr_iload_n (i := 1) (q := 5) C (show decode cX7_isInWater 4 = .ok (.iload_n 1, 1) from by decide +kernel) rfl rfl rfl ?_
    refine sr_aload_n (i := 0) (q := 6) C (show decode cX7_isInWater 5 = .ok (.aload_n 0, 1) from by decide +kernel) rfl rfl rfl ?_
    refine sr_geti (q := 9) C fl_X7_46 (Or.inl rfl) hv0 (show decode cX7_isInWater 6 = .ok (.getfield 46, 3) from by decide +kernel) rfl (fun x6 => ?_)
    refine sr_icmp_ge (q := 12) C 29 (show decode cX7_isInWater 9 = .ok (.if_icmp .ge 20, 3) from by decide +kernel) (by decide) rfl ?_ ?_
    · refine sr_iconst (v := (0 : Int32)) (q := 30) C (show decode cX7_isInWater 29 = .ok (.iconst 0, 1) from by decide +kernel) (by decide) rfl ?_
      exact sr_ireturn C false rfl (show decode cX7_isInWater 30 = .ok (.ireturn, 1) from by decide +kernel)
    · refine sr_iload_n (i := 2) (q := 13) C (show decode cX7_isInWater 12 = .ok (.iload_n 2, 1) from by decide +kernel) rfl rfl rfl ?_
      refine sr_iconst (v := (1 : Int32)) (q := 14) C (show decode cX7_isInWater 13 = .ok (.iconst 1, 1) from by decide +kernel) (by decide) rfl ?_
      refine sr_icmp_lt (q := 17) C 29 (show decode cX7_isInWater 14 = .ok (.if_icmp .lt 15, 3) from by decide +kernel) (by decide) rfl ?_ ?_
      · refine sr_iconst (v := (0 : Int32)) (q := 30) C (show decode cX7_isInWater 29 = .ok (.iconst 0, 1) from by decide +kernel) (by decide) rfl ?_
        exact sr_ireturn C false rfl (show decode cX7_isInWater 30 = .ok (.ireturn, 1) from by decide +kernel)
      · refine sr_iload_n (i := 2) (q := 18) C (show decode cX7_isInWater 17 = .ok (.iload_n 2, 1) from by decide +kernel) rfl rfl rfl ?_
        refine sr_aload_n (i := 0) (q := 19) C (show decode cX7_isInWater 18 = .ok (.aload_n 0, 1) from by decide +kernel) rfl rfl rfl ?_
        refine sr_geti (q := 22) C fl_X7_43 (Or.inl rfl) hv0 (show decode cX7_isInWater 19 = .ok (.getfield 43, 3) from by decide +kernel) rfl (fun x19 => ?_)
        refine sr_icmp_ge (q := 25) C 29 (show decode cX7_isInWater 22 = .ok (.if_icmp .ge 7, 3) from by decide +kernel) (by decide) rfl ?_ ?_
        · refine sr_iconst (v := (0 : Int32)) (q := 30) C (show decode cX7_isInWater 29 = .ok (.iconst 0, 1) from by decide +kernel) (by decide) rfl ?_
          exact sr_ireturn C false rfl (show decode cX7_isInWater 30 = .ok (.ireturn, 1) from by decide +kernel)
        · refine sr_iconst (v := (1 : Int32)) (q := 26) C (show decode cX7_isInWater 25 = .ok (.iconst 1, 1) from by decide +kernel) (by decide) rfl ?_
          refine sr_goto (q := 30) C (show decode cX7_isInWater 26 = .ok (.goto 4, 3) from by decide +kernel) (by decide) ?_
          exact sr_ireturn C true rfl (show decode cX7_isInWater 30 = .ok (.ireturn, 1) from by decide +kernel)
theorem cnX7_isInWater (ω : sm_O) (v0 : Nat) (v1 : Int32) (v2 : Int32) (hv0 : kd v0 = 7) : sm_Mt 1 yX7_isInWater cX7_isInWater 3 (some .boolean) ω [.ref (ω.1 + v0), .int v1, .int v2] (fun a => some (.int (bI a))) (fnX7_isInWater v0 v1 v2) := by
  refine sm_conI (r := bI) (by decide) bI_nar (Nat.le_of_ble_eq_true rfl) ?_
  intro κ hκ C
  subst hκ
  exact slX7_isInWater C v0 v1 v2 hv0
def fnX7_stoneAt_J32 (k2 : Nat → Int32 → Int32 → Int32 → sm_M Int32) (v0 : Nat) (v1 : Int32) (v2 : Int32) (v3 : Int32) : sm_M Int32 := k2 v0 v1 v2 (v3 + (1 : Int32))
set_option maxHeartbeats 4000000 in
set_option maxRecDepth 100000 in
theorem slX7_stoneAt_J32 {κ : sm_X} (C : sm_C κ RX7 cX7_stoneAt 4 1) {k2 : Nat → Int32 → Int32 → Int32 → sm_M Int32} (K2 : ∀ (v0 : Nat) (v1 : Int32) (v2 : Int32) (v3 : Int32) (hv0 : kd v0 = 7), sm_S κ (fun r : Int32 => .inr (some (.int r))) (.inl (2, [some (xad κ v0), some (.int v1), some (.int v2), some (.int v3)], [])) (k2 v0 v1 v2 v3)) (v0 : Nat) (v1 : Int32) (v2 : Int32) (v3 : Int32) (hv0 : kd v0 = 7) : sm_S κ (fun r : Int32 => .inr (some (.int r))) (.inl (32, [some (xad κ v0), some (.int v1), some (.int v2), some (.int v3)], [])) (fnX7_stoneAt_J32 k2 v0 v1 v2 v3) := by
  unfold fnX7_stoneAt_J32
  refine sr_iinc (v := v3 + (1 : Int32)) (L' := [some (xad κ v0), some (.int v1), some (.int v2), some (.int (v3 + (1 : Int32)))]) (q := 35) C (show decode cX7_stoneAt 32 = .ok (.iinc 3 1, 3) from by decide +kernel) rfl rfl (by decide) rfl rfl ?_
  refine sr_goto (q := 2) C (show decode cX7_stoneAt 35 = .ok (.goto (-33), 3) from by decide +kernel) (by decide) ?_
  exact K2 v0 v1 v2 (v3 + (1 : Int32)) hv0
def fnX7_stoneAt_L2 : Nat → Nat → Int32 → Int32 → Int32 → sm_M Int32
  | 0, _, _, _, _ => m_fail
  | n + 1, v0, v1, v2, v3 => m_gi v0 4 fun x4 => m_br (x4 ≤ v3)
    (m_ret (-1 : Int32))
    (m_ai (lk v0 8) v3 fun x15 => m_br (x15 = v1)
    (m_ai (lk v0 9) v3 fun x25 => m_br (x25 = v2)
    (m_ret v3)
    (fnX7_stoneAt_J32 (fnX7_stoneAt_L2 n) v0 v1 v2 v3))
    (fnX7_stoneAt_J32 (fnX7_stoneAt_L2 n) v0 v1 v2 v3))
set_option maxHeartbeats 4000000 in
set_option maxRecDepth 100000 in
theorem slX7_stoneAt_L2 {κ : sm_X} (C : sm_C κ RX7 cX7_stoneAt 4 1) : ∀ (n : Nat) (v0 : Nat) (v1 : Int32) (v2 : Int32) (v3 : Int32) (hv0 : kd v0 = 7), sm_S κ (fun r : Int32 => .inr (some (.int r))) (.inl (2, [some (xad κ v0), some (.int v1), some (.int v2), some (.int v3)], [])) (fnX7_stoneAt_L2 n v0 v1 v2 v3) := by
  intro n
  induction n with
  | zero =>
    intros
    exact sr_fail
  | succ n K2 =>
    intro v0 v1 v2 v3 hv0
    unfold fnX7_stoneAt_L2
    refine sr_iload_n (i := 3) (q := 3) C (show decode cX7_stoneAt 2 = .ok (.iload_n 3, 1) from by decide +kernel) rfl rfl rfl ?_
    refine sr_aload_n (i := 0) (q := 4) C (show decode cX7_stoneAt 3 = .ok (.aload_n 0, 1) from by decide +kernel) rfl rfl rfl ?_
    refine sr_geti (q := 7) C fl_X7_52 (Or.inl rfl) hv0 (show decode cX7_stoneAt 4 = .ok (.getfield 52, 3) from by decide +kernel) rfl (fun x4 => ?_)
    refine sr_icmp_ge (q := 10) C 38 (show decode cX7_stoneAt 7 = .ok (.if_icmp .ge 31, 3) from by decide +kernel) (by decide) rfl ?_ ?_
    · refine sr_iconst (v := (-1 : Int32)) (q := 39) C (show decode cX7_stoneAt 38 = .ok (.iconst (-1), 1) from by decide +kernel) (by decide) rfl ?_
      exact sr_ireturn C _ rfl (show decode cX7_stoneAt 39 = .ok (.ireturn, 1) from by decide +kernel)
    · refine sr_aload_n (i := 0) (q := 11) C (show decode cX7_stoneAt 10 = .ok (.aload_n 0, 1) from by decide +kernel) rfl rfl rfl ?_
      refine sr_getr (q := 14) C fl_X7_9 hv0 (show decode cX7_stoneAt 11 = .ok (.getfield 9, 3) from by decide +kernel) rfl ?_
      refine sr_iload_n (i := 3) (q := 15) C (show decode cX7_stoneAt 14 = .ok (.iload_n 3, 1) from by decide +kernel) rfl rfl rfl ?_
      refine sr_iaload (q := 16) C (kt hv0 kp_7_8) (show decode cX7_stoneAt 15 = .ok (.iaload, 1) from by decide +kernel) rfl (fun x15 => ?_)
      refine sr_iload_n (i := 1) (q := 17) C (show decode cX7_stoneAt 16 = .ok (.iload_n 1, 1) from by decide +kernel) rfl rfl rfl ?_
      refine sr_icmp_ne (q := 20) C 32 (show decode cX7_stoneAt 17 = .ok (.if_icmp .ne 15, 3) from by decide +kernel) (by decide) rfl ?_ ?_
      · exact slX7_stoneAt_J32 C K2 v0 v1 v2 v3 hv0
      · refine sr_aload_n (i := 0) (q := 21) C (show decode cX7_stoneAt 20 = .ok (.aload_n 0, 1) from by decide +kernel) rfl rfl rfl ?_
        refine sr_getr (q := 24) C fl_X7_15 hv0 (show decode cX7_stoneAt 21 = .ok (.getfield 15, 3) from by decide +kernel) rfl ?_
        refine sr_iload_n (i := 3) (q := 25) C (show decode cX7_stoneAt 24 = .ok (.iload_n 3, 1) from by decide +kernel) rfl rfl rfl ?_
        refine sr_iaload (q := 26) C (kt hv0 kp_7_9) (show decode cX7_stoneAt 25 = .ok (.iaload, 1) from by decide +kernel) rfl (fun x25 => ?_)
        refine sr_iload_n (i := 2) (q := 27) C (show decode cX7_stoneAt 26 = .ok (.iload_n 2, 1) from by decide +kernel) rfl rfl rfl ?_
        refine sr_icmp_ne (q := 30) C 32 (show decode cX7_stoneAt 27 = .ok (.if_icmp .ne 5, 3) from by decide +kernel) (by decide) rfl ?_ ?_
        · exact slX7_stoneAt_J32 C K2 v0 v1 v2 v3 hv0
        · refine sr_iload_n (i := 3) (q := 31) C (show decode cX7_stoneAt 30 = .ok (.iload_n 3, 1) from by decide +kernel) rfl rfl rfl ?_
          exact sr_ireturn C _ rfl (show decode cX7_stoneAt 31 = .ok (.ireturn, 1) from by decide +kernel)
def fnX7_stoneAt (v0 : Nat) (v1 : Int32) (v2 : Int32) : sm_M Int32 := fnX7_stoneAt_L2 4096 v0 v1 v2 (0 : Int32)
set_option maxHeartbeats 4000000 in
set_option maxRecDepth 100000 in
theorem slX7_stoneAt {κ : sm_X} (C : sm_C κ RX7 cX7_stoneAt 4 1) (v0 : Nat) (v1 : Int32) (v2 : Int32) (hv0 : kd v0 = 7) : sm_S κ (fun r : Int32 => .inr (some (.int r))) (.inl (0, [some (xad κ v0), some (.int v1), some (.int v2), none], [])) (fnX7_stoneAt v0 v1 v2) := by
  unfold fnX7_stoneAt
  refine sr_iconst (v := (0 : Int32)) (q := 1) C (show decode cX7_stoneAt 0 = .ok (.iconst 0, 1) from by decide +kernel) (by decide) rfl ?_
  refine sr_istore_n (i := 3) (L' := [some (xad κ v0), some (.int v1), some (.int v2), some (.int (0 : Int32))]) (q := 2) C (show decode cX7_stoneAt 1 = .ok (.istore_n 3, 1) from by decide +kernel) rfl (by decide) rfl rfl ?_
  exact slX7_stoneAt_L2 C 4096 v0 v1 v2 (0 : Int32) hv0
theorem cnX7_stoneAt (ω : sm_O) (v0 : Nat) (v1 : Int32) (v2 : Int32) (hv0 : kd v0 = 7) : sm_Mt 1 yX7_stoneAt cX7_stoneAt 4 (some .int) ω [.ref (ω.1 + v0), .int v1, .int v2] (fun a => some (.int a)) (fnX7_stoneAt v0 v1 v2) := by
  refine sm_conI (r := fun a => a) (by decide) (fun _ => rfl) (Nat.le_of_ble_eq_true rfl) ?_
  intro κ hκ C
  subst hκ
  exact slX7_stoneAt C v0 v1 v2 hv0
def fnX11_more (v0 : Nat) (v1 : Int32) (v2 : Int32) (v3 : Int32) (v4 : Int32) : sm_M Int32 := m_bnd (fnX11_isStride v0 v4) fun x3 => m_br ((bI x3) = 0)
    (m_ret (-2 : Int32))
    (m_bnd (fnX11_isLoad v3) fun x10 => m_br ((bI x10) = 0)
    (m_ret (-2 : Int32))
    (m_bnd (fnX7_isInWater (lk v0 5) v1 v2) fun x22 => m_br ((bI x22) = 0)
    (m_ret (-2 : Int32))
    (m_bnd (fnX7_stoneAt (lk v0 5) v1 v2) fun x37 => m_br (x37 = (-1 : Int32))
    (m_gi (lk v0 5) 1 fun x53 => m_br (v4 < x53)
    (m_bnd (fnX2_lay (lk v0 13) (lk v0 6) v4 (1 : Int32)) fun _ => m_bnd (fnX2_put (lk v0 13) (lk v0 5) (24 : Int32) v1 v2 v3) fun _ => m_bnd (fnX2_fill (lk v0 13)) fun x97 => m_ret x97)
    (m_ret (999 : Int32)))
    (m_ret (-5 : Int32)))))
set_option maxHeartbeats 4000000 in
set_option maxRecDepth 100000 in
theorem slX11_more {κ : sm_X} (C : sm_C κ RX11 cX11_more 5 5) (v0 : Nat) (v1 : Int32) (v2 : Int32) (v3 : Int32) (v4 : Int32) (hv0 : kd v0 = 11) : sm_S κ (fun r : Int32 => .inr (some (.int r))) (.inl (0, [some (xad κ v0), some (.int v1), some (.int v2), some (.int v3), some (.int v4)], [])) (fnX11_more v0 v1 v2 v3 v4) := by
  unfold fnX11_more
  refine sr_aload_n (i := 0) (q := 1) C (show decode cX11_more 0 = .ok (.aload_n 0, 1) from by decide +kernel) rfl rfl rfl ?_
  refine sr_iload (i := 4) (q := 3) C (show decode cX11_more 1 = .ok (.iload 4, 2) from by decide +kernel) rfl rfl ?_
  refine sr_cVz (As := [.int v4]) (st := []) (b := v0) (q := 6) C yvX11_isStride ml_X11_187 (cnX11_isStride (xo κ) v0 v4 hv0) hv0 (by decide) rfl rfl rfl (by decide) (by decide) (Nat.le_of_ble_eq_true rfl) rfl (show decode cX11_more 3 = .ok (.invokevirtual 187, 3) from by decide +kernel) rfl (fun x3 => ?_)
  refine sr_if_eq (q := 9) C 28 (show decode cX11_more 6 = .ok (.ifCond .eq 22, 3) from by decide +kernel) (by decide) rfl ?_ ?_
  · refine sr_bipush (v := (-2 : Int32)) (q := 30) C (show decode cX11_more 28 = .ok (.bipush (-2), 2) from by decide +kernel) (by decide) rfl ?_
    exact sr_ireturn C _ rfl (show decode cX11_more 30 = .ok (.ireturn, 1) from by decide +kernel)
  · refine sr_iload_n (i := 3) (q := 10) C (show decode cX11_more 9 = .ok (.iload_n 3, 1) from by decide +kernel) rfl rfl rfl ?_
    refine sr_cSz (As := [.int v3]) (st := []) (q := 13) C ysX11_isLoad ml_X11_329 (cnX11_isLoad (xo κ) v3) rfl (by decide) (by decide) (Nat.le_of_ble_eq_true rfl) rfl (show decode cX11_more 10 = .ok (.invokestatic 329, 3) from by decide +kernel) rfl (fun x10 => ?_)
    refine sr_if_eq (q := 16) C 28 (show decode cX11_more 13 = .ok (.ifCond .eq 15, 3) from by decide +kernel) (by decide) rfl ?_ ?_
    · refine sr_bipush (v := (-2 : Int32)) (q := 30) C (show decode cX11_more 28 = .ok (.bipush (-2), 2) from by decide +kernel) (by decide) rfl ?_
      exact sr_ireturn C _ rfl (show decode cX11_more 30 = .ok (.ireturn, 1) from by decide +kernel)
    · refine sr_aload_n (i := 0) (q := 17) C (show decode cX11_more 16 = .ok (.aload_n 0, 1) from by decide +kernel) rfl rfl rfl ?_
      refine sr_getr (q := 20) C fl_X11_27 hv0 (show decode cX11_more 17 = .ok (.getfield 27, 3) from by decide +kernel) rfl ?_
      refine sr_iload_n (i := 1) (q := 21) C (show decode cX11_more 20 = .ok (.iload_n 1, 1) from by decide +kernel) rfl rfl rfl ?_
      refine sr_iload_n (i := 2) (q := 22) C (show decode cX11_more 21 = .ok (.iload_n 2, 1) from by decide +kernel) rfl rfl rfl ?_
      refine sr_cVz (As := [.int v1, .int v2]) (st := []) (b := lk v0 5) (q := 25) C yvX7_isInWater ml_X11_332 (cnX7_isInWater (xo κ) (lk v0 5) v1 v2 (kt hv0 kp_11_5)) (kt hv0 kp_11_5) (by decide) rfl rfl rfl (by decide) (by decide) (Nat.le_of_ble_eq_true rfl) rfl (show decode cX11_more 22 = .ok (.invokevirtual 332, 3) from by decide +kernel) rfl (fun x22 => ?_)
      refine sr_if_ne (q := 28) C 31 (show decode cX11_more 25 = .ok (.ifCond .ne 6, 3) from by decide +kernel) (by decide) rfl ?_ ?_
      · refine sr_aload_n (i := 0) (q := 32) C (show decode cX11_more 31 = .ok (.aload_n 0, 1) from by decide +kernel) rfl rfl rfl ?_
        refine sr_getr (q := 35) C fl_X11_27 hv0 (show decode cX11_more 32 = .ok (.getfield 27, 3) from by decide +kernel) rfl ?_
        refine sr_iload_n (i := 1) (q := 36) C (show decode cX11_more 35 = .ok (.iload_n 1, 1) from by decide +kernel) rfl rfl rfl ?_
        refine sr_iload_n (i := 2) (q := 37) C (show decode cX11_more 36 = .ok (.iload_n 2, 1) from by decide +kernel) rfl rfl rfl ?_
        refine sr_cVi (As := [.int v1, .int v2]) (st := []) (b := lk v0 5) (q := 40) C yvX7_stoneAt ml_X11_335 (cnX7_stoneAt (xo κ) (lk v0 5) v1 v2 (kt hv0 kp_11_5)) (kt hv0 kp_11_5) (by decide) rfl rfl rfl (by decide) (by decide) (Nat.le_of_ble_eq_true rfl) rfl (show decode cX11_more 37 = .ok (.invokevirtual 335, 3) from by decide +kernel) rfl (fun x37 => ?_)
        refine sr_iconst (v := (-1 : Int32)) (q := 41) C (show decode cX11_more 40 = .ok (.iconst (-1), 1) from by decide +kernel) (by decide) rfl ?_
        refine sr_icmp_eq (q := 44) C 47 (show decode cX11_more 41 = .ok (.if_icmp .eq 6, 3) from by decide +kernel) (by decide) rfl ?_ ?_
        · refine sr_iload (i := 4) (q := 49) C (show decode cX11_more 47 = .ok (.iload 4, 2) from by decide +kernel) rfl rfl ?_
          refine sr_aload_n (i := 0) (q := 50) C (show decode cX11_more 49 = .ok (.aload_n 0, 1) from by decide +kernel) rfl rfl rfl ?_
          refine sr_getr (q := 53) C fl_X11_27 hv0 (show decode cX11_more 50 = .ok (.getfield 27, 3) from by decide +kernel) rfl ?_
          refine sr_geti (q := 56) C fl_X11_310 (Or.inl rfl) (kt hv0 kp_11_5) (show decode cX11_more 53 = .ok (.getfield 310, 3) from by decide +kernel) rfl (fun x53 => ?_)
          refine sr_icmp_lt (q := 59) C 63 (show decode cX11_more 56 = .ok (.if_icmp .lt 7, 3) from by decide +kernel) (by decide) rfl ?_ ?_
          · refine sr_aload_n (i := 0) (q := 64) C (show decode cX11_more 63 = .ok (.aload_n 0, 1) from by decide +kernel) rfl rfl rfl ?_
            refine sr_getr (q := 67) C fl_X11_87 hv0 (show decode cX11_more 64 = .ok (.getfield 87, 3) from by decide +kernel) rfl ?_
            refine sr_aload_n (i := 0) (q := 68) C (show decode cX11_more 67 = .ok (.aload_n 0, 1) from by decide +kernel) rfl rfl rfl ?_
            refine sr_getr (q := 71) C fl_X11_36 hv0 (show decode cX11_more 68 = .ok (.getfield 36, 3) from by decide +kernel) rfl ?_
            refine sr_iload (i := 4) (q := 73) C (show decode cX11_more 71 = .ok (.iload 4, 2) from by decide +kernel) rfl rfl ?_
            refine sr_iconst (v := (1 : Int32)) (q := 74) C (show decode cX11_more 73 = .ok (.iconst 1, 1) from by decide +kernel) (by decide) rfl ?_
            refine sr_cVv (As := [xad κ (lk v0 6), .int v4, .int (1 : Int32)]) (st := []) (b := lk v0 13) (q := 77) C yvX2_lay ml_X11_313 (cnX2_lay (xo κ) (lk v0 13) (lk v0 6) v4 (1 : Int32) (kt hv0 kp_11_13) (kt hv0 kp_11_6)) (kt hv0 kp_11_13) (by decide) rfl rfl rfl (by decide) (by decide) (Nat.le_of_ble_eq_true rfl) rfl (show decode cX11_more 74 = .ok (.invokevirtual 313, 3) from by decide +kernel) rfl (fun _ => ?_)
            refine sr_aload_n (i := 0) (q := 78) C (show decode cX11_more 77 = .ok (.aload_n 0, 1) from by decide +kernel) rfl rfl rfl ?_
            refine sr_getr (q := 81) C fl_X11_87 hv0 (show decode cX11_more 78 = .ok (.getfield 87, 3) from by decide +kernel) rfl ?_
            refine sr_aload_n (i := 0) (q := 82) C (show decode cX11_more 81 = .ok (.aload_n 0, 1) from by decide +kernel) rfl rfl rfl ?_
            refine sr_getr (q := 85) C fl_X11_27 hv0 (show decode cX11_more 82 = .ok (.getfield 27, 3) from by decide +kernel) rfl ?_
            refine sr_bipush (v := (24 : Int32)) (q := 87) C (show decode cX11_more 85 = .ok (.bipush 24, 2) from by decide +kernel) (by decide) rfl ?_
            refine sr_iload_n (i := 1) (q := 88) C (show decode cX11_more 87 = .ok (.iload_n 1, 1) from by decide +kernel) rfl rfl rfl ?_
            refine sr_iload_n (i := 2) (q := 89) C (show decode cX11_more 88 = .ok (.iload_n 2, 1) from by decide +kernel) rfl rfl rfl ?_
            refine sr_iload_n (i := 3) (q := 90) C (show decode cX11_more 89 = .ok (.iload_n 3, 1) from by decide +kernel) rfl rfl rfl ?_
            refine sr_cVv (As := [xad κ (lk v0 5), .int (24 : Int32), .int v1, .int v2, .int v3]) (st := []) (b := lk v0 13) (q := 93) C yvX2_put ml_X11_338 (cnX2_put (xo κ) (lk v0 13) (lk v0 5) (24 : Int32) v1 v2 v3 (kt hv0 kp_11_13) (kt hv0 kp_11_5)) (kt hv0 kp_11_13) (by decide) rfl rfl rfl (by decide) (by decide) (Nat.le_of_ble_eq_true rfl) rfl (show decode cX11_more 90 = .ok (.invokevirtual 338, 3) from by decide +kernel) rfl (fun _ => ?_)
            refine sr_aload_n (i := 0) (q := 94) C (show decode cX11_more 93 = .ok (.aload_n 0, 1) from by decide +kernel) rfl rfl rfl ?_
            refine sr_getr (q := 97) C fl_X11_87 hv0 (show decode cX11_more 94 = .ok (.getfield 87, 3) from by decide +kernel) rfl ?_
            refine sr_cVi (As := []) (st := []) (b := lk v0 13) (q := 100) C yvX2_fill ml_X11_316 (cnX2_fill (xo κ) (lk v0 13) (kt hv0 kp_11_13)) (kt hv0 kp_11_13) (by decide) rfl rfl rfl (by decide) (by decide) (Nat.le_of_ble_eq_true rfl) rfl (show decode cX11_more 97 = .ok (.invokevirtual 316, 3) from by decide +kernel) rfl (fun x97 => ?_)
            exact sr_ireturn C _ rfl (show decode cX11_more 100 = .ok (.ireturn, 1) from by decide +kernel)
          · refine sr_sipush (v := (999 : Int32)) (q := 62) C (show decode cX11_more 59 = .ok (.sipush 999, 3) from by decide +kernel) (by decide) rfl ?_
            exact sr_ireturn C _ rfl (show decode cX11_more 62 = .ok (.ireturn, 1) from by decide +kernel)
        · refine sr_bipush (v := (-5 : Int32)) (q := 46) C (show decode cX11_more 44 = .ok (.bipush (-5), 2) from by decide +kernel) (by decide) rfl ?_
          exact sr_ireturn C _ rfl (show decode cX11_more 46 = .ok (.ireturn, 1) from by decide +kernel)
      · refine sr_bipush (v := (-2 : Int32)) (q := 30) C (show decode cX11_more 28 = .ok (.bipush (-2), 2) from by decide +kernel) (by decide) rfl ?_
        exact sr_ireturn C _ rfl (show decode cX11_more 30 = .ok (.ireturn, 1) from by decide +kernel)
theorem cnX11_more (ω : sm_O) (v0 : Nat) (v1 : Int32) (v2 : Int32) (v3 : Int32) (v4 : Int32) (hv0 : kd v0 = 11) : sm_Mt 5 yX11_more cX11_more 5 (some .int) ω [.ref (ω.1 + v0), .int v1, .int v2, .int v3, .int v4] (fun a => some (.int a)) (fnX11_more v0 v1 v2 v3 v4) := by
  refine sm_conI (r := fun a => a) (by decide) (fun _ => rfl) (Nat.le_of_ble_eq_true rfl) ?_
  intro κ hκ C
  subst hκ
  exact slX11_more C v0 v1 v2 v3 v4 hv0
def fnX11_most (v0 : Nat) (v1 : Int32) (v2 : Int32) : sm_M Int32 := m_bnd (fnX11_isStride v0 v1) fun x2 => m_br ((bI x2) = 0)
    (m_ret (-2 : Int32))
    (m_bnd (fnX11_isWeight v2) fun x9 => m_br ((bI x9) = 0)
    (m_ret (-2 : Int32))
    (m_bnd (fnX11_mostOf v0 (lk v0 6) v1 v2) fun x25 => m_ret x25))
set_option maxHeartbeats 4000000 in
set_option maxRecDepth 100000 in
theorem slX11_most {κ : sm_X} (C : sm_C κ RX11 cX11_most 3 6) (v0 : Nat) (v1 : Int32) (v2 : Int32) (hv0 : kd v0 = 11) : sm_S κ (fun r : Int32 => .inr (some (.int r))) (.inl (0, [some (xad κ v0), some (.int v1), some (.int v2)], [])) (fnX11_most v0 v1 v2) := by
  unfold fnX11_most
  refine sr_aload_n (i := 0) (q := 1) C (show decode cX11_most 0 = .ok (.aload_n 0, 1) from by decide +kernel) rfl rfl rfl ?_
  refine sr_iload_n (i := 1) (q := 2) C (show decode cX11_most 1 = .ok (.iload_n 1, 1) from by decide +kernel) rfl rfl rfl ?_
  refine sr_cVz (As := [.int v1]) (st := []) (b := v0) (q := 5) C yvX11_isStride ml_X11_187 (cnX11_isStride (xo κ) v0 v1 hv0) hv0 (by decide) rfl rfl rfl (by decide) (by decide) (Nat.le_of_ble_eq_true rfl) rfl (show decode cX11_most 2 = .ok (.invokevirtual 187, 3) from by decide +kernel) rfl (fun x2 => ?_)
  refine sr_if_eq (q := 8) C 15 (show decode cX11_most 5 = .ok (.ifCond .eq 10, 3) from by decide +kernel) (by decide) rfl ?_ ?_
  · refine sr_bipush (v := (-2 : Int32)) (q := 17) C (show decode cX11_most 15 = .ok (.bipush (-2), 2) from by decide +kernel) (by decide) rfl ?_
    exact sr_ireturn C _ rfl (show decode cX11_most 17 = .ok (.ireturn, 1) from by decide +kernel)
  · refine sr_iload_n (i := 2) (q := 9) C (show decode cX11_most 8 = .ok (.iload_n 2, 1) from by decide +kernel) rfl rfl rfl ?_
    refine sr_cSz (As := [.int v2]) (st := []) (q := 12) C ysX11_isWeight ml_X11_211 (cnX11_isWeight (xo κ) v2) rfl (by decide) (by decide) (Nat.le_of_ble_eq_true rfl) rfl (show decode cX11_most 9 = .ok (.invokestatic 211, 3) from by decide +kernel) rfl (fun x9 => ?_)
    refine sr_if_ne (q := 15) C 18 (show decode cX11_most 12 = .ok (.ifCond .ne 6, 3) from by decide +kernel) (by decide) rfl ?_ ?_
    · refine sr_aload_n (i := 0) (q := 19) C (show decode cX11_most 18 = .ok (.aload_n 0, 1) from by decide +kernel) rfl rfl rfl ?_
      refine sr_aload_n (i := 0) (q := 20) C (show decode cX11_most 19 = .ok (.aload_n 0, 1) from by decide +kernel) rfl rfl rfl ?_
      refine sr_getr (q := 23) C fl_X11_36 hv0 (show decode cX11_most 20 = .ok (.getfield 36, 3) from by decide +kernel) rfl ?_
      refine sr_iload_n (i := 1) (q := 24) C (show decode cX11_most 23 = .ok (.iload_n 1, 1) from by decide +kernel) rfl rfl rfl ?_
      refine sr_iload_n (i := 2) (q := 25) C (show decode cX11_most 24 = .ok (.iload_n 2, 1) from by decide +kernel) rfl rfl rfl ?_
      refine sr_cVi (As := [xad κ (lk v0 6), .int v1, .int v2]) (st := []) (b := v0) (q := 28) C yvX11_mostOf ml_X11_307 (cnX11_mostOf (xo κ) v0 (lk v0 6) v1 v2 hv0 (kt hv0 kp_11_6)) hv0 (by decide) rfl rfl rfl (by decide) (by decide) (Nat.le_of_ble_eq_true rfl) rfl (show decode cX11_most 25 = .ok (.invokevirtual 307, 3) from by decide +kernel) rfl (fun x25 => ?_)
      exact sr_ireturn C _ rfl (show decode cX11_most 28 = .ok (.ireturn, 1) from by decide +kernel)
    · refine sr_bipush (v := (-2 : Int32)) (q := 17) C (show decode cX11_most 15 = .ok (.bipush (-2), 2) from by decide +kernel) (by decide) rfl ?_
      exact sr_ireturn C _ rfl (show decode cX11_most 17 = .ok (.ireturn, 1) from by decide +kernel)
theorem cnX11_most (ω : sm_O) (v0 : Nat) (v1 : Int32) (v2 : Int32) (hv0 : kd v0 = 11) : sm_Mt 6 yX11_most cX11_most 3 (some .int) ω [.ref (ω.1 + v0), .int v1, .int v2] (fun a => some (.int a)) (fnX11_most v0 v1 v2) := by
  refine sm_conI (r := fun a => a) (by decide) (fun _ => rfl) (Nat.le_of_ble_eq_true rfl) ?_
  intro κ hκ C
  subst hκ
  exact slX11_most C v0 v1 v2 hv0
def fnX11_mostMoved_J102 (v0 : Nat) (v1 : Int32) (v3 : Int32) (v4 : Int32) (v5 : Int32) : sm_M Int32 := m_gi (lk v0 5) 1 fun x107 => m_br (v3 < x107)
    (m_bnd (fnX2_lay (lk v0 13) (lk v0 6) v3 (1 : Int32)) fun _ => m_bnd (fnX2_lift (lk v0 13) v1) fun _ => m_bnd (fnX9_leftOf (lk v0 6) v1) fun x156 => m_bnd (fnX2_put (lk v0 13) (lk v0 5) v1 v4 v5 x156) fun _ => m_bnd (fnX2_fill (lk v0 13)) fun x166 => m_ret x166)
    (m_ret (999 : Int32))
set_option maxHeartbeats 4000000 in
set_option maxRecDepth 100000 in
theorem slX11_mostMoved_J102 {κ : sm_X} (C : sm_C κ RX11 cX11_mostMoved 6 5) (v0 : Nat) (v1 : Int32) (v3 : Int32) (v4 : Int32) (v5 : Int32) (hv0 : kd v0 = 11) : sm_S κ (fun r : Int32 => .inr (some (.int r))) (.inl (102, [some (xad κ v0), some (.int v1), none, some (.int v3), some (.int v4), some (.int v5)], [])) (fnX11_mostMoved_J102 v0 v1 v3 v4 v5) := by
  unfold fnX11_mostMoved_J102
  refine sr_iload_n (i := 3) (q := 103) C (show decode cX11_mostMoved 102 = .ok (.iload_n 3, 1) from by decide +kernel) rfl rfl rfl ?_
  refine sr_aload_n (i := 0) (q := 104) C (show decode cX11_mostMoved 103 = .ok (.aload_n 0, 1) from by decide +kernel) rfl rfl rfl ?_
  refine sr_getr (q := 107) C fl_X11_27 hv0 (show decode cX11_mostMoved 104 = .ok (.getfield 27, 3) from by decide +kernel) rfl ?_
  refine sr_geti (q := 110) C fl_X11_310 (Or.inl rfl) (kt hv0 kp_11_5) (show decode cX11_mostMoved 107 = .ok (.getfield 310, 3) from by decide +kernel) rfl (fun x107 => ?_)
  refine sr_icmp_lt (q := 113) C 117 (show decode cX11_mostMoved 110 = .ok (.if_icmp .lt 7, 3) from by decide +kernel) (by decide) rfl ?_ ?_
  · refine sr_aload_n (i := 0) (q := 118) C (show decode cX11_mostMoved 117 = .ok (.aload_n 0, 1) from by decide +kernel) rfl rfl rfl ?_
    refine sr_getr (q := 121) C fl_X11_87 hv0 (show decode cX11_mostMoved 118 = .ok (.getfield 87, 3) from by decide +kernel) rfl ?_
    refine sr_aload_n (i := 0) (q := 122) C (show decode cX11_mostMoved 121 = .ok (.aload_n 0, 1) from by decide +kernel) rfl rfl rfl ?_
    refine sr_getr (q := 125) C fl_X11_36 hv0 (show decode cX11_mostMoved 122 = .ok (.getfield 36, 3) from by decide +kernel) rfl ?_
    refine sr_iload_n (i := 3) (q := 126) C (show decode cX11_mostMoved 125 = .ok (.iload_n 3, 1) from by decide +kernel) rfl rfl rfl ?_
    refine sr_iconst (v := (1 : Int32)) (q := 127) C (show decode cX11_mostMoved 126 = .ok (.iconst 1, 1) from by decide +kernel) (by decide) rfl ?_
    refine sr_cVv (As := [xad κ (lk v0 6), .int v3, .int (1 : Int32)]) (st := []) (b := lk v0 13) (q := 130) C yvX2_lay ml_X11_313 (cnX2_lay (xo κ) (lk v0 13) (lk v0 6) v3 (1 : Int32) (kt hv0 kp_11_13) (kt hv0 kp_11_6)) (kt hv0 kp_11_13) (by decide) rfl rfl rfl (by decide) (by decide) (Nat.le_of_ble_eq_true rfl) rfl (show decode cX11_mostMoved 127 = .ok (.invokevirtual 313, 3) from by decide +kernel) rfl (fun _ => ?_)
    refine sr_aload_n (i := 0) (q := 131) C (show decode cX11_mostMoved 130 = .ok (.aload_n 0, 1) from by decide +kernel) rfl rfl rfl ?_
    refine sr_getr (q := 134) C fl_X11_87 hv0 (show decode cX11_mostMoved 131 = .ok (.getfield 87, 3) from by decide +kernel) rfl ?_
    refine sr_iload_n (i := 1) (q := 135) C (show decode cX11_mostMoved 134 = .ok (.iload_n 1, 1) from by decide +kernel) rfl rfl rfl ?_
    refine sr_cVv (As := [.int v1]) (st := []) (b := lk v0 13) (q := 138) C yvX2_lift ml_X11_322 (cnX2_lift (xo κ) (lk v0 13) v1 (kt hv0 kp_11_13)) (kt hv0 kp_11_13) (by decide) rfl rfl rfl (by decide) (by decide) (Nat.le_of_ble_eq_true rfl) rfl (show decode cX11_mostMoved 135 = .ok (.invokevirtual 322, 3) from by decide +kernel) rfl (fun _ => ?_)
    refine sr_aload_n (i := 0) (q := 139) C (show decode cX11_mostMoved 138 = .ok (.aload_n 0, 1) from by decide +kernel) rfl rfl rfl ?_
    refine sr_getr (q := 142) C fl_X11_87 hv0 (show decode cX11_mostMoved 139 = .ok (.getfield 87, 3) from by decide +kernel) rfl ?_
    refine sr_aload_n (i := 0) (q := 143) C (show decode cX11_mostMoved 142 = .ok (.aload_n 0, 1) from by decide +kernel) rfl rfl rfl ?_
    refine sr_getr (q := 146) C fl_X11_27 hv0 (show decode cX11_mostMoved 143 = .ok (.getfield 27, 3) from by decide +kernel) rfl ?_
    refine sr_iload_n (i := 1) (q := 147) C (show decode cX11_mostMoved 146 = .ok (.iload_n 1, 1) from by decide +kernel) rfl rfl rfl ?_
    refine sr_iload (i := 4) (q := 149) C (show decode cX11_mostMoved 147 = .ok (.iload 4, 2) from by decide +kernel) rfl rfl ?_
    refine sr_iload (i := 5) (q := 151) C (show decode cX11_mostMoved 149 = .ok (.iload 5, 2) from by decide +kernel) rfl rfl ?_
    refine sr_aload_n (i := 0) (q := 152) C (show decode cX11_mostMoved 151 = .ok (.aload_n 0, 1) from by decide +kernel) rfl rfl rfl ?_
    refine sr_getr (q := 155) C fl_X11_36 hv0 (show decode cX11_mostMoved 152 = .ok (.getfield 36, 3) from by decide +kernel) rfl ?_
    refine sr_iload_n (i := 1) (q := 156) C (show decode cX11_mostMoved 155 = .ok (.iload_n 1, 1) from by decide +kernel) rfl rfl rfl ?_
    refine sr_cVi (As := [.int v1]) (st := [.int v5, .int v4, .int v1, xad κ (lk v0 5), xad κ (lk v0 13)]) (b := lk v0 6) (q := 159) C yvX9_leftOf ml_X11_157 (cnX9_leftOf (xo κ) (lk v0 6) v1 (kt hv0 kp_11_6)) (kt hv0 kp_11_6) (by decide) rfl rfl rfl (by decide) (by decide) (Nat.le_of_ble_eq_true rfl) rfl (show decode cX11_mostMoved 156 = .ok (.invokevirtual 157, 3) from by decide +kernel) rfl (fun x156 => ?_)
    refine sr_cVv (As := [xad κ (lk v0 5), .int v1, .int v4, .int v5, .int x156]) (st := []) (b := lk v0 13) (q := 162) C yvX2_put ml_X11_338 (cnX2_put (xo κ) (lk v0 13) (lk v0 5) v1 v4 v5 x156 (kt hv0 kp_11_13) (kt hv0 kp_11_5)) (kt hv0 kp_11_13) (by decide) rfl rfl rfl (by decide) (by decide) (Nat.le_of_ble_eq_true rfl) rfl (show decode cX11_mostMoved 159 = .ok (.invokevirtual 338, 3) from by decide +kernel) rfl (fun _ => ?_)
    refine sr_aload_n (i := 0) (q := 163) C (show decode cX11_mostMoved 162 = .ok (.aload_n 0, 1) from by decide +kernel) rfl rfl rfl ?_
    refine sr_getr (q := 166) C fl_X11_87 hv0 (show decode cX11_mostMoved 163 = .ok (.getfield 87, 3) from by decide +kernel) rfl ?_
    refine sr_cVi (As := []) (st := []) (b := lk v0 13) (q := 169) C yvX2_fill ml_X11_316 (cnX2_fill (xo κ) (lk v0 13) (kt hv0 kp_11_13)) (kt hv0 kp_11_13) (by decide) rfl rfl rfl (by decide) (by decide) (Nat.le_of_ble_eq_true rfl) rfl (show decode cX11_mostMoved 166 = .ok (.invokevirtual 316, 3) from by decide +kernel) rfl (fun x166 => ?_)
    exact sr_ireturn C _ rfl (show decode cX11_mostMoved 169 = .ok (.ireturn, 1) from by decide +kernel)
  · refine sr_sipush (v := (999 : Int32)) (q := 116) C (show decode cX11_mostMoved 113 = .ok (.sipush 999, 3) from by decide +kernel) (by decide) rfl ?_
    exact sr_ireturn C _ rfl (show decode cX11_mostMoved 116 = .ok (.ireturn, 1) from by decide +kernel)
def fnX11_mostMoved_J63 (v0 : Nat) (v1 : Int32) (v2 : Int32) (v3 : Int32) (v4 : Int32) (s0 : Int32) (s1 : Int32) : sm_M Int32 := m_nm (s1 - s0) fun y64 => m_br (v2 = 0)
    (fnX11_mostMoved_J102 v0 v1 v3 v4 y64)
    (m_bnd (fnX7_isInWater (lk v0 5) v4 y64) fun x78 => m_br ((bI x78) = 0)
    (m_ret (-5 : Int32))
    (m_bnd (fnX7_stoneAt (lk v0 5) v4 y64) fun x92 => m_br (x92 = (-1 : Int32))
    (fnX11_mostMoved_J102 v0 v1 v3 v4 y64)
    (m_ret (-5 : Int32))))
set_option maxHeartbeats 4000000 in
set_option maxRecDepth 100000 in
theorem slX11_mostMoved_J63 {κ : sm_X} (C : sm_C κ RX11 cX11_mostMoved 6 5) (v0 : Nat) (v1 : Int32) (v2 : Int32) (v3 : Int32) (v4 : Int32) (s0 : Int32) (s1 : Int32) (hv0 : kd v0 = 11) : sm_S κ (fun r : Int32 => .inr (some (.int r))) (.inl (63, [some (xad κ v0), some (.int v1), some (.int v2), some (.int v3), some (.int v4), none], [.int s0, .int s1])) (fnX11_mostMoved_J63 v0 v1 v2 v3 v4 s0 s1) := by
  unfold fnX11_mostMoved_J63
  refine sr_isub (q := 64) C (show decode cX11_mostMoved 63 = .ok (.isub, 1) from by decide +kernel) rfl ?_
  refine sr_nmi (fun y64 => ?_)
  refine sr_istore (i := 5) (L' := [some (xad κ v0), some (.int v1), some (.int v2), some (.int v3), some (.int v4), some (.int y64)]) (q := 66) C (show decode cX11_mostMoved 64 = .ok (.istore 5, 2) from by decide +kernel) (by decide) rfl rfl ?_
  refine sr_iload_n (i := 2) (q := 67) C (show decode cX11_mostMoved 66 = .ok (.iload_n 2, 1) from by decide +kernel) rfl rfl rfl ?_
  refine sr_if_eq (q := 70) C 102 (show decode cX11_mostMoved 67 = .ok (.ifCond .eq 35, 3) from by decide +kernel) (by decide) rfl ?_ ?_
  · refine sr_weak (L' := [some (xad κ v0), some (.int v1), none, some (.int v3), some (.int v4), some (.int y64)]) ⟨rfl, rfl, rfl, rfl, rfl, trivial⟩ ?_
    exact slX11_mostMoved_J102 C v0 v1 v3 v4 y64 hv0
  · refine sr_aload_n (i := 0) (q := 71) C (show decode cX11_mostMoved 70 = .ok (.aload_n 0, 1) from by decide +kernel) rfl rfl rfl ?_
    refine sr_getr (q := 74) C fl_X11_27 hv0 (show decode cX11_mostMoved 71 = .ok (.getfield 27, 3) from by decide +kernel) rfl ?_
    refine sr_iload (i := 4) (q := 76) C (show decode cX11_mostMoved 74 = .ok (.iload 4, 2) from by decide +kernel) rfl rfl ?_
    refine sr_iload (i := 5) (q := 78) C (show decode cX11_mostMoved 76 = .ok (.iload 5, 2) from by decide +kernel) rfl rfl ?_
    refine sr_cVz (As := [.int v4, .int y64]) (st := []) (b := lk v0 5) (q := 81) C yvX7_isInWater ml_X11_332 (cnX7_isInWater (xo κ) (lk v0 5) v4 y64 (kt hv0 kp_11_5)) (kt hv0 kp_11_5) (by decide) rfl rfl rfl (by decide) (by decide) (Nat.le_of_ble_eq_true rfl) rfl (show decode cX11_mostMoved 78 = .ok (.invokevirtual 332, 3) from by decide +kernel) rfl (fun x78 => ?_)
    refine sr_if_eq (q := 84) C 99 (show decode cX11_mostMoved 81 = .ok (.ifCond .eq 18, 3) from by decide +kernel) (by decide) rfl ?_ ?_
    · refine sr_bipush (v := (-5 : Int32)) (q := 101) C (show decode cX11_mostMoved 99 = .ok (.bipush (-5), 2) from by decide +kernel) (by decide) rfl ?_
      exact sr_ireturn C _ rfl (show decode cX11_mostMoved 101 = .ok (.ireturn, 1) from by decide +kernel)
    · refine sr_aload_n (i := 0) (q := 85) C (show decode cX11_mostMoved 84 = .ok (.aload_n 0, 1) from by decide +kernel) rfl rfl rfl ?_
      refine sr_getr (q := 88) C fl_X11_27 hv0 (show decode cX11_mostMoved 85 = .ok (.getfield 27, 3) from by decide +kernel) rfl ?_
      refine sr_iload (i := 4) (q := 90) C (show decode cX11_mostMoved 88 = .ok (.iload 4, 2) from by decide +kernel) rfl rfl ?_
      refine sr_iload (i := 5) (q := 92) C (show decode cX11_mostMoved 90 = .ok (.iload 5, 2) from by decide +kernel) rfl rfl ?_
      refine sr_cVi (As := [.int v4, .int y64]) (st := []) (b := lk v0 5) (q := 95) C yvX7_stoneAt ml_X11_335 (cnX7_stoneAt (xo κ) (lk v0 5) v4 y64 (kt hv0 kp_11_5)) (kt hv0 kp_11_5) (by decide) rfl rfl rfl (by decide) (by decide) (Nat.le_of_ble_eq_true rfl) rfl (show decode cX11_mostMoved 92 = .ok (.invokevirtual 335, 3) from by decide +kernel) rfl (fun x92 => ?_)
      refine sr_iconst (v := (-1 : Int32)) (q := 96) C (show decode cX11_mostMoved 95 = .ok (.iconst (-1), 1) from by decide +kernel) (by decide) rfl ?_
      refine sr_icmp_eq (q := 99) C 102 (show decode cX11_mostMoved 96 = .ok (.if_icmp .eq 6, 3) from by decide +kernel) (by decide) rfl ?_ ?_
      · refine sr_weak (L' := [some (xad κ v0), some (.int v1), none, some (.int v3), some (.int v4), some (.int y64)]) ⟨rfl, rfl, rfl, rfl, rfl, trivial⟩ ?_
        exact slX11_mostMoved_J102 C v0 v1 v3 v4 y64 hv0
      · refine sr_bipush (v := (-5 : Int32)) (q := 101) C (show decode cX11_mostMoved 99 = .ok (.bipush (-5), 2) from by decide +kernel) (by decide) rfl ?_
        exact sr_ireturn C _ rfl (show decode cX11_mostMoved 101 = .ok (.ireturn, 1) from by decide +kernel)
def fnX11_mostMoved_J52 (v0 : Nat) (v1 : Int32) (v2 : Int32) (v3 : Int32) (v4 : Int32) (s0 : Int32) (s1 : Int32) : sm_M Int32 := m_br (v2 = (4 : Int32))
    (fnX11_mostMoved_J63 v0 v1 v2 v3 v4 (1 : Int32) (s1 + s0))
    (fnX11_mostMoved_J63 v0 v1 v2 v3 v4 (0 : Int32) (s1 + s0))
set_option maxHeartbeats 4000000 in
set_option maxRecDepth 100000 in
theorem slX11_mostMoved_J52 {κ : sm_X} (C : sm_C κ RX11 cX11_mostMoved 6 5) (v0 : Nat) (v1 : Int32) (v2 : Int32) (v3 : Int32) (v4 : Int32) (s0 : Int32) (s1 : Int32) (hv0 : kd v0 = 11) : sm_S κ (fun r : Int32 => .inr (some (.int r))) (.inl (52, [some (xad κ v0), some (.int v1), some (.int v2), some (.int v3), some (.int v4), none], [.int s0, .int s1])) (fnX11_mostMoved_J52 v0 v1 v2 v3 v4 s0 s1) := by
  unfold fnX11_mostMoved_J52
  refine sr_iadd (q := 53) C (show decode cX11_mostMoved 52 = .ok (.iadd, 1) from by decide +kernel) rfl ?_
  refine sr_iload_n (i := 2) (q := 54) C (show decode cX11_mostMoved 53 = .ok (.iload_n 2, 1) from by decide +kernel) rfl rfl rfl ?_
  refine sr_iconst (v := (4 : Int32)) (q := 55) C (show decode cX11_mostMoved 54 = .ok (.iconst 4, 1) from by decide +kernel) (by decide) rfl ?_
  refine sr_icmp_ne (q := 58) C 62 (show decode cX11_mostMoved 55 = .ok (.if_icmp .ne 7, 3) from by decide +kernel) (by decide) rfl ?_ ?_
  · refine sr_iconst (v := (0 : Int32)) (q := 63) C (show decode cX11_mostMoved 62 = .ok (.iconst 0, 1) from by decide +kernel) (by decide) rfl ?_
    exact slX11_mostMoved_J63 C v0 v1 v2 v3 v4 (0 : Int32) (s1 + s0) hv0
  · refine sr_iconst (v := (1 : Int32)) (q := 59) C (show decode cX11_mostMoved 58 = .ok (.iconst 1, 1) from by decide +kernel) (by decide) rfl ?_
    refine sr_goto (q := 63) C (show decode cX11_mostMoved 59 = .ok (.goto 4, 3) from by decide +kernel) (by decide) ?_
    exact slX11_mostMoved_J63 C v0 v1 v2 v3 v4 (1 : Int32) (s1 + s0) hv0
def fnX11_mostMoved_J30 (v0 : Nat) (v1 : Int32) (v2 : Int32) (v3 : Int32) (s0 : Int32) (s1 : Int32) : sm_M Int32 := m_nm (s1 - s0) fun y31 => m_ai (lk (lk v0 5) 9) v1 fun x41 => m_br (v2 = (3 : Int32))
    (fnX11_mostMoved_J52 v0 v1 v2 v3 y31 (1 : Int32) x41)
    (fnX11_mostMoved_J52 v0 v1 v2 v3 y31 (0 : Int32) x41)
set_option maxHeartbeats 4000000 in
set_option maxRecDepth 100000 in
theorem slX11_mostMoved_J30 {κ : sm_X} (C : sm_C κ RX11 cX11_mostMoved 6 5) (v0 : Nat) (v1 : Int32) (v2 : Int32) (v3 : Int32) (s0 : Int32) (s1 : Int32) (hv0 : kd v0 = 11) : sm_S κ (fun r : Int32 => .inr (some (.int r))) (.inl (30, [some (xad κ v0), some (.int v1), some (.int v2), some (.int v3), none, none], [.int s0, .int s1])) (fnX11_mostMoved_J30 v0 v1 v2 v3 s0 s1) := by
  unfold fnX11_mostMoved_J30
  refine sr_isub (q := 31) C (show decode cX11_mostMoved 30 = .ok (.isub, 1) from by decide +kernel) rfl ?_
  refine sr_nmi (fun y31 => ?_)
  refine sr_istore (i := 4) (L' := [some (xad κ v0), some (.int v1), some (.int v2), some (.int v3), some (.int y31), none]) (q := 33) C (show decode cX11_mostMoved 31 = .ok (.istore 4, 2) from by decide +kernel) (by decide) rfl rfl ?_
  refine sr_aload_n (i := 0) (q := 34) C (show decode cX11_mostMoved 33 = .ok (.aload_n 0, 1) from by decide +kernel) rfl rfl rfl ?_
  refine sr_getr (q := 37) C fl_X11_27 hv0 (show decode cX11_mostMoved 34 = .ok (.getfield 27, 3) from by decide +kernel) rfl ?_
  refine sr_getr (q := 40) C fl_X11_154 (kt hv0 kp_11_5) (show decode cX11_mostMoved 37 = .ok (.getfield 154, 3) from by decide +kernel) rfl ?_
  refine sr_iload_n (i := 1) (q := 41) C (show decode cX11_mostMoved 40 = .ok (.iload_n 1, 1) from by decide +kernel) rfl rfl rfl ?_
  refine sr_iaload (q := 42) C (kt (kt hv0 kp_11_5) kp_7_9) (show decode cX11_mostMoved 41 = .ok (.iaload, 1) from by decide +kernel) rfl (fun x41 => ?_)
  refine sr_iload_n (i := 2) (q := 43) C (show decode cX11_mostMoved 42 = .ok (.iload_n 2, 1) from by decide +kernel) rfl rfl rfl ?_
  refine sr_iconst (v := (3 : Int32)) (q := 44) C (show decode cX11_mostMoved 43 = .ok (.iconst 3, 1) from by decide +kernel) (by decide) rfl ?_
  refine sr_icmp_ne (q := 47) C 51 (show decode cX11_mostMoved 44 = .ok (.if_icmp .ne 7, 3) from by decide +kernel) (by decide) rfl ?_ ?_
  · refine sr_iconst (v := (0 : Int32)) (q := 52) C (show decode cX11_mostMoved 51 = .ok (.iconst 0, 1) from by decide +kernel) (by decide) rfl ?_
    exact slX11_mostMoved_J52 C v0 v1 v2 v3 y31 (0 : Int32) x41 hv0
  · refine sr_iconst (v := (1 : Int32)) (q := 48) C (show decode cX11_mostMoved 47 = .ok (.iconst 1, 1) from by decide +kernel) (by decide) rfl ?_
    refine sr_goto (q := 52) C (show decode cX11_mostMoved 48 = .ok (.goto 4, 3) from by decide +kernel) (by decide) ?_
    exact slX11_mostMoved_J52 C v0 v1 v2 v3 y31 (1 : Int32) x41 hv0
def fnX11_mostMoved_J19 (v0 : Nat) (v1 : Int32) (v2 : Int32) (v3 : Int32) (s0 : Int32) (s1 : Int32) : sm_M Int32 := m_br (v2 = (2 : Int32))
    (fnX11_mostMoved_J30 v0 v1 v2 v3 (1 : Int32) (s1 + s0))
    (fnX11_mostMoved_J30 v0 v1 v2 v3 (0 : Int32) (s1 + s0))
set_option maxHeartbeats 4000000 in
set_option maxRecDepth 100000 in
theorem slX11_mostMoved_J19 {κ : sm_X} (C : sm_C κ RX11 cX11_mostMoved 6 5) (v0 : Nat) (v1 : Int32) (v2 : Int32) (v3 : Int32) (s0 : Int32) (s1 : Int32) (hv0 : kd v0 = 11) : sm_S κ (fun r : Int32 => .inr (some (.int r))) (.inl (19, [some (xad κ v0), some (.int v1), some (.int v2), some (.int v3), none, none], [.int s0, .int s1])) (fnX11_mostMoved_J19 v0 v1 v2 v3 s0 s1) := by
  unfold fnX11_mostMoved_J19
  refine sr_iadd (q := 20) C (show decode cX11_mostMoved 19 = .ok (.iadd, 1) from by decide +kernel) rfl ?_
  refine sr_iload_n (i := 2) (q := 21) C (show decode cX11_mostMoved 20 = .ok (.iload_n 2, 1) from by decide +kernel) rfl rfl rfl ?_
  refine sr_iconst (v := (2 : Int32)) (q := 22) C (show decode cX11_mostMoved 21 = .ok (.iconst 2, 1) from by decide +kernel) (by decide) rfl ?_
  refine sr_icmp_ne (q := 25) C 29 (show decode cX11_mostMoved 22 = .ok (.if_icmp .ne 7, 3) from by decide +kernel) (by decide) rfl ?_ ?_
  · refine sr_iconst (v := (0 : Int32)) (q := 30) C (show decode cX11_mostMoved 29 = .ok (.iconst 0, 1) from by decide +kernel) (by decide) rfl ?_
    exact slX11_mostMoved_J30 C v0 v1 v2 v3 (0 : Int32) (s1 + s0) hv0
  · refine sr_iconst (v := (1 : Int32)) (q := 26) C (show decode cX11_mostMoved 25 = .ok (.iconst 1, 1) from by decide +kernel) (by decide) rfl ?_
    refine sr_goto (q := 30) C (show decode cX11_mostMoved 26 = .ok (.goto 4, 3) from by decide +kernel) (by decide) ?_
    exact slX11_mostMoved_J30 C v0 v1 v2 v3 (1 : Int32) (s1 + s0) hv0
def fnX11_mostMoved (v0 : Nat) (v1 : Int32) (v2 : Int32) (v3 : Int32) : sm_M Int32 := m_ai (lk (lk v0 5) 8) v1 fun x8 => m_br (v2 = (1 : Int32))
    (fnX11_mostMoved_J19 v0 v1 v2 v3 (1 : Int32) x8)
    (fnX11_mostMoved_J19 v0 v1 v2 v3 (0 : Int32) x8)
set_option maxHeartbeats 4000000 in
set_option maxRecDepth 100000 in
theorem slX11_mostMoved {κ : sm_X} (C : sm_C κ RX11 cX11_mostMoved 6 5) (v0 : Nat) (v1 : Int32) (v2 : Int32) (v3 : Int32) (hv0 : kd v0 = 11) : sm_S κ (fun r : Int32 => .inr (some (.int r))) (.inl (0, [some (xad κ v0), some (.int v1), some (.int v2), some (.int v3), none, none], [])) (fnX11_mostMoved v0 v1 v2 v3) := by
  unfold fnX11_mostMoved
  refine sr_aload_n (i := 0) (q := 1) C (show decode cX11_mostMoved 0 = .ok (.aload_n 0, 1) from by decide +kernel) rfl rfl rfl ?_
  refine sr_getr (q := 4) C fl_X11_27 hv0 (show decode cX11_mostMoved 1 = .ok (.getfield 27, 3) from by decide +kernel) rfl ?_
  refine sr_getr (q := 7) C fl_X11_150 (kt hv0 kp_11_5) (show decode cX11_mostMoved 4 = .ok (.getfield 150, 3) from by decide +kernel) rfl ?_
  refine sr_iload_n (i := 1) (q := 8) C (show decode cX11_mostMoved 7 = .ok (.iload_n 1, 1) from by decide +kernel) rfl rfl rfl ?_
  refine sr_iaload (q := 9) C (kt (kt hv0 kp_11_5) kp_7_8) (show decode cX11_mostMoved 8 = .ok (.iaload, 1) from by decide +kernel) rfl (fun x8 => ?_)
  refine sr_iload_n (i := 2) (q := 10) C (show decode cX11_mostMoved 9 = .ok (.iload_n 2, 1) from by decide +kernel) rfl rfl rfl ?_
  refine sr_iconst (v := (1 : Int32)) (q := 11) C (show decode cX11_mostMoved 10 = .ok (.iconst 1, 1) from by decide +kernel) (by decide) rfl ?_
  refine sr_icmp_ne (q := 14) C 18 (show decode cX11_mostMoved 11 = .ok (.if_icmp .ne 7, 3) from by decide +kernel) (by decide) rfl ?_ ?_
  · refine sr_iconst (v := (0 : Int32)) (q := 19) C (show decode cX11_mostMoved 18 = .ok (.iconst 0, 1) from by decide +kernel) (by decide) rfl ?_
    exact slX11_mostMoved_J19 C v0 v1 v2 v3 (0 : Int32) x8 hv0
  · refine sr_iconst (v := (1 : Int32)) (q := 15) C (show decode cX11_mostMoved 14 = .ok (.iconst 1, 1) from by decide +kernel) (by decide) rfl ?_
    refine sr_goto (q := 19) C (show decode cX11_mostMoved 15 = .ok (.goto 4, 3) from by decide +kernel) (by decide) ?_
    exact slX11_mostMoved_J19 C v0 v1 v2 v3 (1 : Int32) x8 hv0
theorem cnX11_mostMoved (ω : sm_O) (v0 : Nat) (v1 : Int32) (v2 : Int32) (v3 : Int32) (hv0 : kd v0 = 11) : sm_Mt 5 yX11_mostMoved cX11_mostMoved 6 (some .int) ω [.ref (ω.1 + v0), .int v1, .int v2, .int v3] (fun a => some (.int a)) (fnX11_mostMoved v0 v1 v2 v3) := by
  refine sm_conI (r := fun a => a) (by decide) (fun _ => rfl) (Nat.le_of_ble_eq_true rfl) ?_
  intro κ hκ C
  subst hκ
  exact slX11_mostMoved C v0 v1 v2 v3 hv0
def fnX4_takeFrom (v0 : Nat) (v1 : Nat) : sm_M Unit := m_gi v1 0 fun x2 => m_si v0 0 x2 <| m_gi v1 1 fun x10 => m_si v0 1 x10 <| m_gi v1 2 fun x18 => m_si v0 2 x18 <| m_gi v1 3 fun x26 => m_si v0 3 x26 <| m_gi v1 4 fun x34 => m_si v0 4 x34 <| m_cpi (lk v1 5) (0 : Int32) (lk v0 5) (0 : Int32) (25 : Int32) <| m_cpi (lk v1 6) (0 : Int32) (lk v0 6) (0 : Int32) (25 : Int32) <| m_cpi (lk v1 7) (0 : Int32) (lk v0 7) (0 : Int32) (25 : Int32) <| m_cpi (lk v1 8) (0 : Int32) (lk v0 8) (0 : Int32) (625 : Int32) <| m_cpi (lk v1 9) (0 : Int32) (lk v0 9) (0 : Int32) (25 : Int32) <| m_ret ()
set_option maxHeartbeats 4000000 in
set_option maxRecDepth 100000 in
theorem slX4_takeFrom {κ : sm_X} (C : sm_C κ RX4 cX4_takeFrom 2 1) (v0 : Nat) (v1 : Nat) (hv0 : kd v0 = 4) (hv1 : kd v1 = 4) : sm_S κ (fun _ : Unit => .inr none) (.inl (0, [some (xad κ v0), some (xad κ v1)], [])) (fnX4_takeFrom v0 v1) := by
  unfold fnX4_takeFrom
  refine sr_aload_n (i := 0) (q := 1) C (show decode cX4_takeFrom 0 = .ok (.aload_n 0, 1) from by decide +kernel) rfl rfl rfl ?_
  refine sr_aload_n (i := 1) (q := 2) C (show decode cX4_takeFrom 1 = .ok (.aload_n 1, 1) from by decide +kernel) rfl rfl rfl ?_
  refine sr_geti (q := 5) C fl_X4_27 (Or.inl rfl) hv1 (show decode cX4_takeFrom 2 = .ok (.getfield 27, 3) from by decide +kernel) rfl (fun x2 => ?_)
  refine sr_puti (q := 8) C fp_X4_27 hv0 (show decode cX4_takeFrom 5 = .ok (.putfield 27, 3) from by decide +kernel) rfl ?_
  refine sr_aload_n (i := 0) (q := 9) C (show decode cX4_takeFrom 8 = .ok (.aload_n 0, 1) from by decide +kernel) rfl rfl rfl ?_
  refine sr_aload_n (i := 1) (q := 10) C (show decode cX4_takeFrom 9 = .ok (.aload_n 1, 1) from by decide +kernel) rfl rfl rfl ?_
  refine sr_geti (q := 13) C fl_X4_31 (Or.inl rfl) hv1 (show decode cX4_takeFrom 10 = .ok (.getfield 31, 3) from by decide +kernel) rfl (fun x10 => ?_)
  refine sr_puti (q := 16) C fp_X4_31 hv0 (show decode cX4_takeFrom 13 = .ok (.putfield 31, 3) from by decide +kernel) rfl ?_
  refine sr_aload_n (i := 0) (q := 17) C (show decode cX4_takeFrom 16 = .ok (.aload_n 0, 1) from by decide +kernel) rfl rfl rfl ?_
  refine sr_aload_n (i := 1) (q := 18) C (show decode cX4_takeFrom 17 = .ok (.aload_n 1, 1) from by decide +kernel) rfl rfl rfl ?_
  refine sr_geti (q := 21) C fl_X4_34 (Or.inl rfl) hv1 (show decode cX4_takeFrom 18 = .ok (.getfield 34, 3) from by decide +kernel) rfl (fun x18 => ?_)
  refine sr_puti (q := 24) C fp_X4_34 hv0 (show decode cX4_takeFrom 21 = .ok (.putfield 34, 3) from by decide +kernel) rfl ?_
  refine sr_aload_n (i := 0) (q := 25) C (show decode cX4_takeFrom 24 = .ok (.aload_n 0, 1) from by decide +kernel) rfl rfl rfl ?_
  refine sr_aload_n (i := 1) (q := 26) C (show decode cX4_takeFrom 25 = .ok (.aload_n 1, 1) from by decide +kernel) rfl rfl rfl ?_
  refine sr_geti (q := 29) C fl_X4_37 (Or.inl rfl) hv1 (show decode cX4_takeFrom 26 = .ok (.getfield 37, 3) from by decide +kernel) rfl (fun x26 => ?_)
  refine sr_puti (q := 32) C fp_X4_37 hv0 (show decode cX4_takeFrom 29 = .ok (.putfield 37, 3) from by decide +kernel) rfl ?_
  refine sr_aload_n (i := 0) (q := 33) C (show decode cX4_takeFrom 32 = .ok (.aload_n 0, 1) from by decide +kernel) rfl rfl rfl ?_
  refine sr_aload_n (i := 1) (q := 34) C (show decode cX4_takeFrom 33 = .ok (.aload_n 1, 1) from by decide +kernel) rfl rfl rfl ?_
  refine sr_geti (q := 37) C fl_X4_40 (Or.inl rfl) hv1 (show decode cX4_takeFrom 34 = .ok (.getfield 40, 3) from by decide +kernel) rfl (fun x34 => ?_)
  refine sr_puti (q := 40) C fp_X4_40 hv0 (show decode cX4_takeFrom 37 = .ok (.putfield 40, 3) from by decide +kernel) rfl ?_
  refine sr_aload_n (i := 1) (q := 41) C (show decode cX4_takeFrom 40 = .ok (.aload_n 1, 1) from by decide +kernel) rfl rfl rfl ?_
  refine sr_getr (q := 44) C fl_X4_11 hv1 (show decode cX4_takeFrom 41 = .ok (.getfield 11, 3) from by decide +kernel) rfl ?_
  refine sr_iconst (v := (0 : Int32)) (q := 45) C (show decode cX4_takeFrom 44 = .ok (.iconst 0, 1) from by decide +kernel) (by decide) rfl ?_
  refine sr_aload_n (i := 0) (q := 46) C (show decode cX4_takeFrom 45 = .ok (.aload_n 0, 1) from by decide +kernel) rfl rfl rfl ?_
  refine sr_getr (q := 49) C fl_X4_11 hv0 (show decode cX4_takeFrom 46 = .ok (.getfield 11, 3) from by decide +kernel) rfl ?_
  refine sr_iconst (v := (0 : Int32)) (q := 50) C (show decode cX4_takeFrom 49 = .ok (.iconst 0, 1) from by decide +kernel) (by decide) rfl ?_
  refine sr_bipush (v := (25 : Int32)) (q := 52) C (show decode cX4_takeFrom 50 = .ok (.bipush 25, 2) from by decide +kernel) (by decide) rfl ?_
  refine sr_copyi (st := []) (q := 55) C ml_X4_43 (kt hv1 kp_4_5) (kt hv0 kp_4_5) (by decide) (by decide) (show decode cX4_takeFrom 52 = .ok (.invokestatic 43, 3) from by decide +kernel) rfl ?_
  refine sr_aload_n (i := 1) (q := 56) C (show decode cX4_takeFrom 55 = .ok (.aload_n 1, 1) from by decide +kernel) rfl rfl rfl ?_
  refine sr_getr (q := 59) C fl_X4_15 hv1 (show decode cX4_takeFrom 56 = .ok (.getfield 15, 3) from by decide +kernel) rfl ?_
  refine sr_iconst (v := (0 : Int32)) (q := 60) C (show decode cX4_takeFrom 59 = .ok (.iconst 0, 1) from by decide +kernel) (by decide) rfl ?_
  refine sr_aload_n (i := 0) (q := 61) C (show decode cX4_takeFrom 60 = .ok (.aload_n 0, 1) from by decide +kernel) rfl rfl rfl ?_
  refine sr_getr (q := 64) C fl_X4_15 hv0 (show decode cX4_takeFrom 61 = .ok (.getfield 15, 3) from by decide +kernel) rfl ?_
  refine sr_iconst (v := (0 : Int32)) (q := 65) C (show decode cX4_takeFrom 64 = .ok (.iconst 0, 1) from by decide +kernel) (by decide) rfl ?_
  refine sr_bipush (v := (25 : Int32)) (q := 67) C (show decode cX4_takeFrom 65 = .ok (.bipush 25, 2) from by decide +kernel) (by decide) rfl ?_
  refine sr_copyi (st := []) (q := 70) C ml_X4_43 (kt hv1 kp_4_6) (kt hv0 kp_4_6) (by decide) (by decide) (show decode cX4_takeFrom 67 = .ok (.invokestatic 43, 3) from by decide +kernel) rfl ?_
  refine sr_aload_n (i := 1) (q := 71) C (show decode cX4_takeFrom 70 = .ok (.aload_n 1, 1) from by decide +kernel) rfl rfl rfl ?_
  refine sr_getr (q := 74) C fl_X4_18 hv1 (show decode cX4_takeFrom 71 = .ok (.getfield 18, 3) from by decide +kernel) rfl ?_
  refine sr_iconst (v := (0 : Int32)) (q := 75) C (show decode cX4_takeFrom 74 = .ok (.iconst 0, 1) from by decide +kernel) (by decide) rfl ?_
  refine sr_aload_n (i := 0) (q := 76) C (show decode cX4_takeFrom 75 = .ok (.aload_n 0, 1) from by decide +kernel) rfl rfl rfl ?_
  refine sr_getr (q := 79) C fl_X4_18 hv0 (show decode cX4_takeFrom 76 = .ok (.getfield 18, 3) from by decide +kernel) rfl ?_
  refine sr_iconst (v := (0 : Int32)) (q := 80) C (show decode cX4_takeFrom 79 = .ok (.iconst 0, 1) from by decide +kernel) (by decide) rfl ?_
  refine sr_bipush (v := (25 : Int32)) (q := 82) C (show decode cX4_takeFrom 80 = .ok (.bipush 25, 2) from by decide +kernel) (by decide) rfl ?_
  refine sr_copyi (st := []) (q := 85) C ml_X4_43 (kt hv1 kp_4_7) (kt hv0 kp_4_7) (by decide) (by decide) (show decode cX4_takeFrom 82 = .ok (.invokestatic 43, 3) from by decide +kernel) rfl ?_
  refine sr_aload_n (i := 1) (q := 86) C (show decode cX4_takeFrom 85 = .ok (.aload_n 1, 1) from by decide +kernel) rfl rfl rfl ?_
  refine sr_getr (q := 89) C fl_X4_21 hv1 (show decode cX4_takeFrom 86 = .ok (.getfield 21, 3) from by decide +kernel) rfl ?_
  refine sr_iconst (v := (0 : Int32)) (q := 90) C (show decode cX4_takeFrom 89 = .ok (.iconst 0, 1) from by decide +kernel) (by decide) rfl ?_
  refine sr_aload_n (i := 0) (q := 91) C (show decode cX4_takeFrom 90 = .ok (.aload_n 0, 1) from by decide +kernel) rfl rfl rfl ?_
  refine sr_getr (q := 94) C fl_X4_21 hv0 (show decode cX4_takeFrom 91 = .ok (.getfield 21, 3) from by decide +kernel) rfl ?_
  refine sr_iconst (v := (0 : Int32)) (q := 95) C (show decode cX4_takeFrom 94 = .ok (.iconst 0, 1) from by decide +kernel) (by decide) rfl ?_
  refine sr_sipush (v := (625 : Int32)) (q := 98) C (show decode cX4_takeFrom 95 = .ok (.sipush 625, 3) from by decide +kernel) (by decide) rfl ?_
  refine sr_copyi (st := []) (q := 101) C ml_X4_43 (kt hv1 kp_4_8) (kt hv0 kp_4_8) (by decide) (by decide) (show decode cX4_takeFrom 98 = .ok (.invokestatic 43, 3) from by decide +kernel) rfl ?_
  refine sr_aload_n (i := 1) (q := 102) C (show decode cX4_takeFrom 101 = .ok (.aload_n 1, 1) from by decide +kernel) rfl rfl rfl ?_
  refine sr_getr (q := 105) C fl_X4_24 hv1 (show decode cX4_takeFrom 102 = .ok (.getfield 24, 3) from by decide +kernel) rfl ?_
  refine sr_iconst (v := (0 : Int32)) (q := 106) C (show decode cX4_takeFrom 105 = .ok (.iconst 0, 1) from by decide +kernel) (by decide) rfl ?_
  refine sr_aload_n (i := 0) (q := 107) C (show decode cX4_takeFrom 106 = .ok (.aload_n 0, 1) from by decide +kernel) rfl rfl rfl ?_
  refine sr_getr (q := 110) C fl_X4_24 hv0 (show decode cX4_takeFrom 107 = .ok (.getfield 24, 3) from by decide +kernel) rfl ?_
  refine sr_iconst (v := (0 : Int32)) (q := 111) C (show decode cX4_takeFrom 110 = .ok (.iconst 0, 1) from by decide +kernel) (by decide) rfl ?_
  refine sr_bipush (v := (25 : Int32)) (q := 113) C (show decode cX4_takeFrom 111 = .ok (.bipush 25, 2) from by decide +kernel) (by decide) rfl ?_
  refine sr_copyi (st := []) (q := 116) C ml_X4_43 (kt hv1 kp_4_9) (kt hv0 kp_4_9) (by decide) (by decide) (show decode cX4_takeFrom 113 = .ok (.invokestatic 43, 3) from by decide +kernel) rfl ?_
  exact sr_vreturn C _ rfl (show decode cX4_takeFrom 116 = .ok (.return_, 1) from by decide +kernel)
theorem cnX4_takeFrom (ω : sm_O) (v0 : Nat) (v1 : Nat) (hv0 : kd v0 = 4) (hv1 : kd v1 = 4) : sm_Mt 1 yX4_takeFrom cX4_takeFrom 2 none ω [.ref (ω.1 + v0), .ref (ω.1 + v1)] (fun _ => none) (fnX4_takeFrom v0 v1) := by
  refine sm_conV (by decide) (Nat.le_of_ble_eq_true rfl) ?_
  intro κ hκ C
  subst hκ
  exact slX4_takeFrom C v0 v1 hv0 hv1
def fnX2_restore (v0 : Nat) : sm_M Unit := m_bnd (fnX4_takeFrom (lk v0 1) (lk v0 2)) fun _ => m_ret ()
set_option maxHeartbeats 4000000 in
set_option maxRecDepth 100000 in
theorem slX2_restore {κ : sm_X} (C : sm_C κ RX2 cX2_restore 1 2) (v0 : Nat) (hv0 : kd v0 = 2) : sm_S κ (fun _ : Unit => .inr none) (.inl (0, [some (xad κ v0)], [])) (fnX2_restore v0) := by
  unfold fnX2_restore
  refine sr_aload_n (i := 0) (q := 1) C (show decode cX2_restore 0 = .ok (.aload_n 0, 1) from by decide +kernel) rfl rfl rfl ?_
  refine sr_getr (q := 4) C fl_X2_14 hv0 (show decode cX2_restore 1 = .ok (.getfield 14, 3) from by decide +kernel) rfl ?_
  refine sr_aload_n (i := 0) (q := 5) C (show decode cX2_restore 4 = .ok (.aload_n 0, 1) from by decide +kernel) rfl rfl rfl ?_
  refine sr_getr (q := 8) C fl_X2_18 hv0 (show decode cX2_restore 5 = .ok (.getfield 18, 3) from by decide +kernel) rfl ?_
  refine sr_cVv (As := [xad κ (lk v0 2)]) (st := []) (b := lk v0 1) (q := 11) C yvX4_takeFrom ml_X2_82 (cnX4_takeFrom (xo κ) (lk v0 1) (lk v0 2) (kt hv0 kp_2_1) (kt hv0 kp_2_2)) (kt hv0 kp_2_1) (by decide) rfl rfl rfl (by decide) (by decide) (Nat.le_of_ble_eq_true rfl) rfl (show decode cX2_restore 8 = .ok (.invokevirtual 82, 3) from by decide +kernel) rfl (fun _ => ?_)
  exact sr_vreturn C _ rfl (show decode cX2_restore 11 = .ok (.return_, 1) from by decide +kernel)
theorem cnX2_restore (ω : sm_O) (v0 : Nat) (hv0 : kd v0 = 2) : sm_Mt 2 yX2_restore cX2_restore 1 none ω [.ref (ω.1 + v0)] (fun _ => none) (fnX2_restore v0) := by
  refine sm_conV (by decide) (Nat.le_of_ble_eq_true rfl) ?_
  intro κ hκ C
  subst hκ
  exact slX2_restore C v0 hv0
def fnX11_mostWithOneMore (v0 : Nat) (v1 : Int32) (v2 : Int32) (v3 : Int32) : sm_M Int32 := m_bnd (fnX2_restore (lk v0 13)) fun _ => m_bnd (fnX2_put (lk v0 13) (lk v0 5) (24 : Int32) v1 v2 v3) fun _ => m_bnd (fnX2_fill (lk v0 13)) fun x27 => m_ret x27
set_option maxHeartbeats 4000000 in
set_option maxRecDepth 100000 in
theorem slX11_mostWithOneMore {κ : sm_X} (C : sm_C κ RX11 cX11_mostWithOneMore 4 5) (v0 : Nat) (v1 : Int32) (v2 : Int32) (v3 : Int32) (hv0 : kd v0 = 11) : sm_S κ (fun r : Int32 => .inr (some (.int r))) (.inl (0, [some (xad κ v0), some (.int v1), some (.int v2), some (.int v3)], [])) (fnX11_mostWithOneMore v0 v1 v2 v3) := by
  unfold fnX11_mostWithOneMore
  refine sr_aload_n (i := 0) (q := 1) C (show decode cX11_mostWithOneMore 0 = .ok (.aload_n 0, 1) from by decide +kernel) rfl rfl rfl ?_
  refine sr_getr (q := 4) C fl_X11_87 hv0 (show decode cX11_mostWithOneMore 1 = .ok (.getfield 87, 3) from by decide +kernel) rfl ?_
  refine sr_cVv (As := []) (st := []) (b := lk v0 13) (q := 7) C yvX2_restore ml_X11_356 (cnX2_restore (xo κ) (lk v0 13) (kt hv0 kp_11_13)) (kt hv0 kp_11_13) (by decide) rfl rfl rfl (by decide) (by decide) (Nat.le_of_ble_eq_true rfl) rfl (show decode cX11_mostWithOneMore 4 = .ok (.invokevirtual 356, 3) from by decide +kernel) rfl (fun _ => ?_)
  refine sr_aload_n (i := 0) (q := 8) C (show decode cX11_mostWithOneMore 7 = .ok (.aload_n 0, 1) from by decide +kernel) rfl rfl rfl ?_
  refine sr_getr (q := 11) C fl_X11_87 hv0 (show decode cX11_mostWithOneMore 8 = .ok (.getfield 87, 3) from by decide +kernel) rfl ?_
  refine sr_aload_n (i := 0) (q := 12) C (show decode cX11_mostWithOneMore 11 = .ok (.aload_n 0, 1) from by decide +kernel) rfl rfl rfl ?_
  refine sr_getr (q := 15) C fl_X11_27 hv0 (show decode cX11_mostWithOneMore 12 = .ok (.getfield 27, 3) from by decide +kernel) rfl ?_
  refine sr_bipush (v := (24 : Int32)) (q := 17) C (show decode cX11_mostWithOneMore 15 = .ok (.bipush 24, 2) from by decide +kernel) (by decide) rfl ?_
  refine sr_iload_n (i := 1) (q := 18) C (show decode cX11_mostWithOneMore 17 = .ok (.iload_n 1, 1) from by decide +kernel) rfl rfl rfl ?_
  refine sr_iload_n (i := 2) (q := 19) C (show decode cX11_mostWithOneMore 18 = .ok (.iload_n 2, 1) from by decide +kernel) rfl rfl rfl ?_
  refine sr_iload_n (i := 3) (q := 20) C (show decode cX11_mostWithOneMore 19 = .ok (.iload_n 3, 1) from by decide +kernel) rfl rfl rfl ?_
  refine sr_cVv (As := [xad κ (lk v0 5), .int (24 : Int32), .int v1, .int v2, .int v3]) (st := []) (b := lk v0 13) (q := 23) C yvX2_put ml_X11_338 (cnX2_put (xo κ) (lk v0 13) (lk v0 5) (24 : Int32) v1 v2 v3 (kt hv0 kp_11_13) (kt hv0 kp_11_5)) (kt hv0 kp_11_13) (by decide) rfl rfl rfl (by decide) (by decide) (Nat.le_of_ble_eq_true rfl) rfl (show decode cX11_mostWithOneMore 20 = .ok (.invokevirtual 338, 3) from by decide +kernel) rfl (fun _ => ?_)
  refine sr_aload_n (i := 0) (q := 24) C (show decode cX11_mostWithOneMore 23 = .ok (.aload_n 0, 1) from by decide +kernel) rfl rfl rfl ?_
  refine sr_getr (q := 27) C fl_X11_87 hv0 (show decode cX11_mostWithOneMore 24 = .ok (.getfield 87, 3) from by decide +kernel) rfl ?_
  refine sr_cVi (As := []) (st := []) (b := lk v0 13) (q := 30) C yvX2_fill ml_X11_316 (cnX2_fill (xo κ) (lk v0 13) (kt hv0 kp_11_13)) (kt hv0 kp_11_13) (by decide) rfl rfl rfl (by decide) (by decide) (Nat.le_of_ble_eq_true rfl) rfl (show decode cX11_mostWithOneMore 27 = .ok (.invokevirtual 316, 3) from by decide +kernel) rfl (fun x27 => ?_)
  exact sr_ireturn C _ rfl (show decode cX11_mostWithOneMore 30 = .ok (.ireturn, 1) from by decide +kernel)
theorem cnX11_mostWithOneMore (ω : sm_O) (v0 : Nat) (v1 : Int32) (v2 : Int32) (v3 : Int32) (hv0 : kd v0 = 11) : sm_Mt 5 yX11_mostWithOneMore cX11_mostWithOneMore 4 (some .int) ω [.ref (ω.1 + v0), .int v1, .int v2, .int v3] (fun a => some (.int a)) (fnX11_mostWithOneMore v0 v1 v2 v3) := by
  refine sm_conI (r := fun a => a) (by decide) (fun _ => rfl) (Nat.le_of_ble_eq_true rfl) ?_
  intro κ hκ C
  subst hκ
  exact slX11_mostWithOneMore C v0 v1 v2 v3 hv0
def fnX2_join (v0 : Nat) (v1 : Int32) (v2 : Int32) : sm_M Unit := m_nm (jmin v1 v2) fun y5 => m_nm (jmax v1 v2) fun y11 => m_br (y11 = (98 : Int32))
    (m_gi (lk v0 1) 0 fun x25 => m_si (lk v0 1) 0 (x25 ||| ((1 : Int32) <<< (y5 &&& 31))) <| m_ret ())
    (m_br (y11 = (99 : Int32))
    (m_gi (lk v0 1) 1 fun x50 => m_si (lk v0 1) 1 (x50 ||| ((1 : Int32) <<< (y5 &&& 31))) <| m_ret ())
    (m_ai (lk (lk v0 1) 5) y5 fun x72 => m_sai (lk (lk v0 1) 5) y5 (x72 ||| ((1 : Int32) <<< (y11 &&& 31))) <| m_ai (lk (lk v0 1) 5) y11 fun x89 => m_sai (lk (lk v0 1) 5) y11 (x89 ||| ((1 : Int32) <<< (y5 &&& 31))) <| m_ret ()))
set_option maxHeartbeats 4000000 in
set_option maxRecDepth 100000 in
theorem slX2_join {κ : sm_X} (C : sm_C κ RX2 cX2_join 5 1) (v0 : Nat) (v1 : Int32) (v2 : Int32) (hv0 : kd v0 = 2) : sm_S κ (fun _ : Unit => .inr none) (.inl (0, [some (xad κ v0), some (.int v1), some (.int v2), none, none], [])) (fnX2_join v0 v1 v2) := by
  unfold fnX2_join
  refine sr_iload_n (i := 1) (q := 1) C (show decode cX2_join 0 = .ok (.iload_n 1, 1) from by decide +kernel) rfl rfl rfl ?_
  refine sr_iload_n (i := 2) (q := 2) C (show decode cX2_join 1 = .ok (.iload_n 2, 1) from by decide +kernel) rfl rfl rfl ?_
  refine sr_jmin (st := []) (q := 5) C ml_X2_104 (by decide) (Nat.le_of_ble_eq_true rfl) (show decode cX2_join 2 = .ok (.invokestatic 104, 3) from by decide +kernel) rfl ?_
  refine sr_nmi (fun y5 => ?_)
  refine sr_istore_n (i := 3) (L' := [some (xad κ v0), some (.int v1), some (.int v2), some (.int y5), none]) (q := 6) C (show decode cX2_join 5 = .ok (.istore_n 3, 1) from by decide +kernel) rfl (by decide) rfl rfl ?_
  refine sr_iload_n (i := 1) (q := 7) C (show decode cX2_join 6 = .ok (.iload_n 1, 1) from by decide +kernel) rfl rfl rfl ?_
  refine sr_iload_n (i := 2) (q := 8) C (show decode cX2_join 7 = .ok (.iload_n 2, 1) from by decide +kernel) rfl rfl rfl ?_
  refine sr_jmax (st := []) (q := 11) C ml_X2_110 (by decide) (Nat.le_of_ble_eq_true rfl) (show decode cX2_join 8 = .ok (.invokestatic 110, 3) from by decide +kernel) rfl ?_
  refine sr_nmi (fun y11 => ?_)
  refine sr_istore (i := 4) (L' := [some (xad κ v0), some (.int v1), some (.int v2), some (.int y5), some (.int y11)]) (q := 13) C (show decode cX2_join 11 = .ok (.istore 4, 2) from by decide +kernel) (by decide) rfl rfl ?_
  refine sr_iload (i := 4) (q := 15) C (show decode cX2_join 13 = .ok (.iload 4, 2) from by decide +kernel) rfl rfl ?_
  refine sr_bipush (v := (98 : Int32)) (q := 17) C (show decode cX2_join 15 = .ok (.bipush 98, 2) from by decide +kernel) (by decide) rfl ?_
  refine sr_icmp_ne (q := 20) C 38 (show decode cX2_join 17 = .ok (.if_icmp .ne 21, 3) from by decide +kernel) (by decide) rfl ?_ ?_
  · refine sr_iload (i := 4) (q := 40) C (show decode cX2_join 38 = .ok (.iload 4, 2) from by decide +kernel) rfl rfl ?_
    refine sr_bipush (v := (99 : Int32)) (q := 42) C (show decode cX2_join 40 = .ok (.bipush 99, 2) from by decide +kernel) (by decide) rfl ?_
    refine sr_icmp_ne (q := 45) C 63 (show decode cX2_join 42 = .ok (.if_icmp .ne 21, 3) from by decide +kernel) (by decide) rfl ?_ ?_
    · refine sr_aload_n (i := 0) (q := 64) C (show decode cX2_join 63 = .ok (.aload_n 0, 1) from by decide +kernel) rfl rfl rfl ?_
      refine sr_getr (q := 67) C fl_X2_14 hv0 (show decode cX2_join 64 = .ok (.getfield 14, 3) from by decide +kernel) rfl ?_
      refine sr_getr (q := 70) C fl_X2_54 (kt hv0 kp_2_1) (show decode cX2_join 67 = .ok (.getfield 54, 3) from by decide +kernel) rfl ?_
      refine sr_iload_n (i := 3) (q := 71) C (show decode cX2_join 70 = .ok (.iload_n 3, 1) from by decide +kernel) rfl rfl rfl ?_
      refine sr_dup2 (q := 72) C (show decode cX2_join 71 = .ok (.dup2, 1) from by decide +kernel) rfl rfl rfl ?_
      refine sr_iaload (q := 73) C (kt (kt hv0 kp_2_1) kp_4_5) (show decode cX2_join 72 = .ok (.iaload, 1) from by decide +kernel) rfl (fun x72 => ?_)
      refine sr_iconst (v := (1 : Int32)) (q := 74) C (show decode cX2_join 73 = .ok (.iconst 1, 1) from by decide +kernel) (by decide) rfl ?_
      refine sr_iload (i := 4) (q := 76) C (show decode cX2_join 74 = .ok (.iload 4, 2) from by decide +kernel) rfl rfl ?_
      refine sr_ishl (q := 77) C (show decode cX2_join 76 = .ok (.ishl, 1) from by decide +kernel) rfl ?_
      refine sr_ior (q := 78) C (show decode cX2_join 77 = .ok (.ior, 1) from by decide +kernel) rfl ?_
      refine sr_iastore (q := 79) C (kt (kt hv0 kp_2_1) kp_4_5) (show decode cX2_join 78 = .ok (.iastore, 1) from by decide +kernel) rfl ?_
      refine sr_aload_n (i := 0) (q := 80) C (show decode cX2_join 79 = .ok (.aload_n 0, 1) from by decide +kernel) rfl rfl rfl ?_
      refine sr_getr (q := 83) C fl_X2_14 hv0 (show decode cX2_join 80 = .ok (.getfield 14, 3) from by decide +kernel) rfl ?_
      refine sr_getr (q := 86) C fl_X2_54 (kt hv0 kp_2_1) (show decode cX2_join 83 = .ok (.getfield 54, 3) from by decide +kernel) rfl ?_
      refine sr_iload (i := 4) (q := 88) C (show decode cX2_join 86 = .ok (.iload 4, 2) from by decide +kernel) rfl rfl ?_
      refine sr_dup2 (q := 89) C (show decode cX2_join 88 = .ok (.dup2, 1) from by decide +kernel) rfl rfl rfl ?_
      refine sr_iaload (q := 90) C (kt (kt hv0 kp_2_1) kp_4_5) (show decode cX2_join 89 = .ok (.iaload, 1) from by decide +kernel) rfl (fun x89 => ?_)
      refine sr_iconst (v := (1 : Int32)) (q := 91) C (show decode cX2_join 90 = .ok (.iconst 1, 1) from by decide +kernel) (by decide) rfl ?_
      refine sr_iload_n (i := 3) (q := 92) C (show decode cX2_join 91 = .ok (.iload_n 3, 1) from by decide +kernel) rfl rfl rfl ?_
      refine sr_ishl (q := 93) C (show decode cX2_join 92 = .ok (.ishl, 1) from by decide +kernel) rfl ?_
      refine sr_ior (q := 94) C (show decode cX2_join 93 = .ok (.ior, 1) from by decide +kernel) rfl ?_
      refine sr_iastore (q := 95) C (kt (kt hv0 kp_2_1) kp_4_5) (show decode cX2_join 94 = .ok (.iastore, 1) from by decide +kernel) rfl ?_
      exact sr_vreturn C _ rfl (show decode cX2_join 95 = .ok (.return_, 1) from by decide +kernel)
    · refine sr_aload_n (i := 0) (q := 46) C (show decode cX2_join 45 = .ok (.aload_n 0, 1) from by decide +kernel) rfl rfl rfl ?_
      refine sr_getr (q := 49) C fl_X2_14 hv0 (show decode cX2_join 46 = .ok (.getfield 14, 3) from by decide +kernel) rfl ?_
      refine sr_dup (q := 50) C (show decode cX2_join 49 = .ok (.dup, 1) from by decide +kernel) rfl rfl ?_
      refine sr_geti (q := 53) C fl_X2_52 (Or.inl rfl) (kt hv0 kp_2_1) (show decode cX2_join 50 = .ok (.getfield 52, 3) from by decide +kernel) rfl (fun x50 => ?_)
      refine sr_iconst (v := (1 : Int32)) (q := 54) C (show decode cX2_join 53 = .ok (.iconst 1, 1) from by decide +kernel) (by decide) rfl ?_
      refine sr_iload_n (i := 3) (q := 55) C (show decode cX2_join 54 = .ok (.iload_n 3, 1) from by decide +kernel) rfl rfl rfl ?_
      refine sr_ishl (q := 56) C (show decode cX2_join 55 = .ok (.ishl, 1) from by decide +kernel) rfl ?_
      refine sr_ior (q := 57) C (show decode cX2_join 56 = .ok (.ior, 1) from by decide +kernel) rfl ?_
      refine sr_puti (q := 60) C fp_X2_52 (kt hv0 kp_2_1) (show decode cX2_join 57 = .ok (.putfield 52, 3) from by decide +kernel) rfl ?_
      refine sr_goto (q := 95) C (show decode cX2_join 60 = .ok (.goto 35, 3) from by decide +kernel) (by decide) ?_
      exact sr_vreturn C _ rfl (show decode cX2_join 95 = .ok (.return_, 1) from by decide +kernel)
  · refine sr_aload_n (i := 0) (q := 21) C (show decode cX2_join 20 = .ok (.aload_n 0, 1) from by decide +kernel) rfl rfl rfl ?_
    refine sr_getr (q := 24) C fl_X2_14 hv0 (show decode cX2_join 21 = .ok (.getfield 14, 3) from by decide +kernel) rfl ?_
    refine sr_dup (q := 25) C (show decode cX2_join 24 = .ok (.dup, 1) from by decide +kernel) rfl rfl ?_
    refine sr_geti (q := 28) C fl_X2_47 (Or.inl rfl) (kt hv0 kp_2_1) (show decode cX2_join 25 = .ok (.getfield 47, 3) from by decide +kernel) rfl (fun x25 => ?_)
    refine sr_iconst (v := (1 : Int32)) (q := 29) C (show decode cX2_join 28 = .ok (.iconst 1, 1) from by decide +kernel) (by decide) rfl ?_
    refine sr_iload_n (i := 3) (q := 30) C (show decode cX2_join 29 = .ok (.iload_n 3, 1) from by decide +kernel) rfl rfl rfl ?_
    refine sr_ishl (q := 31) C (show decode cX2_join 30 = .ok (.ishl, 1) from by decide +kernel) rfl ?_
    refine sr_ior (q := 32) C (show decode cX2_join 31 = .ok (.ior, 1) from by decide +kernel) rfl ?_
    refine sr_puti (q := 35) C fp_X2_47 (kt hv0 kp_2_1) (show decode cX2_join 32 = .ok (.putfield 47, 3) from by decide +kernel) rfl ?_
    refine sr_goto (q := 95) C (show decode cX2_join 35 = .ok (.goto 60, 3) from by decide +kernel) (by decide) ?_
    exact sr_vreturn C _ rfl (show decode cX2_join 95 = .ok (.return_, 1) from by decide +kernel)
theorem cnX2_join (ω : sm_O) (v0 : Nat) (v1 : Int32) (v2 : Int32) (hv0 : kd v0 = 2) : sm_Mt 1 yX2_join cX2_join 5 none ω [.ref (ω.1 + v0), .int v1, .int v2] (fun _ => none) (fnX2_join v0 v1 v2) := by
  refine sm_conV (by decide) (Nat.le_of_ble_eq_true rfl) ?_
  intro κ hκ C
  subst hκ
  exact slX2_join C v0 v1 v2 hv0
def fnX4_canEnter (v0 : Nat) (v1 : Int32) : sm_M Bool := m_br (v1 = (98 : Int32))
    (m_ret true)
    (m_br ((25 : Int32) ≤ v1)
    (m_ret false)
    (m_gi v0 3 fun x13 => m_br (((x13 >>> (v1 &&& 31)) &&& (1 : Int32)) = 0)
    (m_ret false)
    (m_ret true)))
set_option maxHeartbeats 4000000 in
set_option maxRecDepth 100000 in
theorem slX4_canEnter {κ : sm_X} (C : sm_C κ RX4 cX4_canEnter 2 1) (v0 : Nat) (v1 : Int32) (hv0 : kd v0 = 4) : sm_S κ (fun r : Bool => .inr (some (.int (bI r)))) (.inl (0, [some (xad κ v0), some (.int v1)], [])) (fnX4_canEnter v0 v1) := by
  unfold fnX4_canEnter
  refine sr_iload_n (i := 1) (q := 1) C (show decode cX4_canEnter 0 = .ok (.iload_n 1, 1) from by decide +kernel) rfl rfl rfl ?_
  refine sr_bipush (v := (98 : Int32)) (q := 3) C (show decode cX4_canEnter 1 = .ok (.bipush 98, 2) from by decide +kernel) (by decide) rfl ?_
  refine sr_icmp_eq (q := 6) C 23 (show decode cX4_canEnter 3 = .ok (.if_icmp .eq 20, 3) from by decide +kernel) (by decide) rfl ?_ ?_
  · refine sr_iconst (v := (1 : Int32)) (q := 24) C (show decode cX4_canEnter 23 = .ok (.iconst 1, 1) from by decide +kernel) (by decide) rfl ?_
    refine sr_goto (q := 28) C (show decode cX4_canEnter 24 = .ok (.goto 4, 3) from by decide +kernel) (by decide) ?_
    exact sr_ireturn C true rfl (show decode cX4_canEnter 28 = .ok (.ireturn, 1) from by decide +kernel)
  · refine sr_iload_n (i := 1) (q := 7) C (show decode cX4_canEnter 6 = .ok (.iload_n 1, 1) from by decide +kernel) rfl rfl rfl ?_
    refine sr_bipush (v := (25 : Int32)) (q := 9) C (show decode cX4_canEnter 7 = .ok (.bipush 25, 2) from by decide +kernel) (by decide) rfl ?_
    refine sr_icmp_ge (q := 12) C 27 (show decode cX4_canEnter 9 = .ok (.if_icmp .ge 18, 3) from by decide +kernel) (by decide) rfl ?_ ?_
    · refine sr_iconst (v := (0 : Int32)) (q := 28) C (show decode cX4_canEnter 27 = .ok (.iconst 0, 1) from by decide +kernel) (by decide) rfl ?_
      exact sr_ireturn C false rfl (show decode cX4_canEnter 28 = .ok (.ireturn, 1) from by decide +kernel)
    · refine sr_aload_n (i := 0) (q := 13) C (show decode cX4_canEnter 12 = .ok (.aload_n 0, 1) from by decide +kernel) rfl rfl rfl ?_
      refine sr_geti (q := 16) C fl_X4_37 (Or.inl rfl) hv0 (show decode cX4_canEnter 13 = .ok (.getfield 37, 3) from by decide +kernel) rfl (fun x13 => ?_)
      refine sr_iload_n (i := 1) (q := 17) C (show decode cX4_canEnter 16 = .ok (.iload_n 1, 1) from by decide +kernel) rfl rfl rfl ?_
      refine sr_ishr (q := 18) C (show decode cX4_canEnter 17 = .ok (.ishr, 1) from by decide +kernel) rfl ?_
      refine sr_iconst (v := (1 : Int32)) (q := 19) C (show decode cX4_canEnter 18 = .ok (.iconst 1, 1) from by decide +kernel) (by decide) rfl ?_
      refine sr_iand (q := 20) C (show decode cX4_canEnter 19 = .ok (.iand, 1) from by decide +kernel) rfl ?_
      refine sr_if_eq (q := 23) C 27 (show decode cX4_canEnter 20 = .ok (.ifCond .eq 7, 3) from by decide +kernel) (by decide) rfl ?_ ?_
      · refine sr_iconst (v := (0 : Int32)) (q := 28) C (show decode cX4_canEnter 27 = .ok (.iconst 0, 1) from by decide +kernel) (by decide) rfl ?_
        exact sr_ireturn C false rfl (show decode cX4_canEnter 28 = .ok (.ireturn, 1) from by decide +kernel)
      · refine sr_iconst (v := (1 : Int32)) (q := 24) C (show decode cX4_canEnter 23 = .ok (.iconst 1, 1) from by decide +kernel) (by decide) rfl ?_
        refine sr_goto (q := 28) C (show decode cX4_canEnter 24 = .ok (.goto 4, 3) from by decide +kernel) (by decide) ?_
        exact sr_ireturn C true rfl (show decode cX4_canEnter 28 = .ok (.ireturn, 1) from by decide +kernel)
theorem cnX4_canEnter (ω : sm_O) (v0 : Nat) (v1 : Int32) (hv0 : kd v0 = 4) : sm_Mt 1 yX4_canEnter cX4_canEnter 2 (some .boolean) ω [.ref (ω.1 + v0), .int v1] (fun a => some (.int (bI a))) (fnX4_canEnter v0 v1) := by
  refine sm_conI (r := bI) (by decide) bI_nar (Nat.le_of_ble_eq_true rfl) ?_
  intro κ hκ C
  subst hκ
  exact slX4_canEnter C v0 v1 hv0
def fnX4_canLeave (v0 : Nat) (v1 : Int32) : sm_M Bool := m_br (v1 = (98 : Int32))
    (m_ret true)
    (m_br ((25 : Int32) ≤ v1)
    (m_ret false)
    (m_gi v0 4 fun x13 => m_br (((x13 >>> (v1 &&& 31)) &&& (1 : Int32)) = 0)
    (m_ret false)
    (m_ret true)))
set_option maxHeartbeats 4000000 in
set_option maxRecDepth 100000 in
theorem slX4_canLeave {κ : sm_X} (C : sm_C κ RX4 cX4_canLeave 2 1) (v0 : Nat) (v1 : Int32) (hv0 : kd v0 = 4) : sm_S κ (fun r : Bool => .inr (some (.int (bI r)))) (.inl (0, [some (xad κ v0), some (.int v1)], [])) (fnX4_canLeave v0 v1) := by
  unfold fnX4_canLeave
  refine sr_iload_n (i := 1) (q := 1) C (show decode cX4_canLeave 0 = .ok (.iload_n 1, 1) from by decide +kernel) rfl rfl rfl ?_
  refine sr_bipush (v := (98 : Int32)) (q := 3) C (show decode cX4_canLeave 1 = .ok (.bipush 98, 2) from by decide +kernel) (by decide) rfl ?_
  refine sr_icmp_eq (q := 6) C 23 (show decode cX4_canLeave 3 = .ok (.if_icmp .eq 20, 3) from by decide +kernel) (by decide) rfl ?_ ?_
  · refine sr_iconst (v := (1 : Int32)) (q := 24) C (show decode cX4_canLeave 23 = .ok (.iconst 1, 1) from by decide +kernel) (by decide) rfl ?_
    refine sr_goto (q := 28) C (show decode cX4_canLeave 24 = .ok (.goto 4, 3) from by decide +kernel) (by decide) ?_
    exact sr_ireturn C true rfl (show decode cX4_canLeave 28 = .ok (.ireturn, 1) from by decide +kernel)
  · refine sr_iload_n (i := 1) (q := 7) C (show decode cX4_canLeave 6 = .ok (.iload_n 1, 1) from by decide +kernel) rfl rfl rfl ?_
    refine sr_bipush (v := (25 : Int32)) (q := 9) C (show decode cX4_canLeave 7 = .ok (.bipush 25, 2) from by decide +kernel) (by decide) rfl ?_
    refine sr_icmp_ge (q := 12) C 27 (show decode cX4_canLeave 9 = .ok (.if_icmp .ge 18, 3) from by decide +kernel) (by decide) rfl ?_ ?_
    · refine sr_iconst (v := (0 : Int32)) (q := 28) C (show decode cX4_canLeave 27 = .ok (.iconst 0, 1) from by decide +kernel) (by decide) rfl ?_
      exact sr_ireturn C false rfl (show decode cX4_canLeave 28 = .ok (.ireturn, 1) from by decide +kernel)
    · refine sr_aload_n (i := 0) (q := 13) C (show decode cX4_canLeave 12 = .ok (.aload_n 0, 1) from by decide +kernel) rfl rfl rfl ?_
      refine sr_geti (q := 16) C fl_X4_40 (Or.inl rfl) hv0 (show decode cX4_canLeave 13 = .ok (.getfield 40, 3) from by decide +kernel) rfl (fun x13 => ?_)
      refine sr_iload_n (i := 1) (q := 17) C (show decode cX4_canLeave 16 = .ok (.iload_n 1, 1) from by decide +kernel) rfl rfl rfl ?_
      refine sr_ishr (q := 18) C (show decode cX4_canLeave 17 = .ok (.ishr, 1) from by decide +kernel) rfl ?_
      refine sr_iconst (v := (1 : Int32)) (q := 19) C (show decode cX4_canLeave 18 = .ok (.iconst 1, 1) from by decide +kernel) (by decide) rfl ?_
      refine sr_iand (q := 20) C (show decode cX4_canLeave 19 = .ok (.iand, 1) from by decide +kernel) rfl ?_
      refine sr_if_eq (q := 23) C 27 (show decode cX4_canLeave 20 = .ok (.ifCond .eq 7, 3) from by decide +kernel) (by decide) rfl ?_ ?_
      · refine sr_iconst (v := (0 : Int32)) (q := 28) C (show decode cX4_canLeave 27 = .ok (.iconst 0, 1) from by decide +kernel) (by decide) rfl ?_
        exact sr_ireturn C false rfl (show decode cX4_canLeave 28 = .ok (.ireturn, 1) from by decide +kernel)
      · refine sr_iconst (v := (1 : Int32)) (q := 24) C (show decode cX4_canLeave 23 = .ok (.iconst 1, 1) from by decide +kernel) (by decide) rfl ?_
        refine sr_goto (q := 28) C (show decode cX4_canLeave 24 = .ok (.goto 4, 3) from by decide +kernel) (by decide) ?_
        exact sr_ireturn C true rfl (show decode cX4_canLeave 28 = .ok (.ireturn, 1) from by decide +kernel)
theorem cnX4_canLeave (ω : sm_O) (v0 : Nat) (v1 : Int32) (hv0 : kd v0 = 4) : sm_Mt 1 yX4_canLeave cX4_canLeave 2 (some .boolean) ω [.ref (ω.1 + v0), .int v1] (fun a => some (.int (bI a))) (fnX4_canLeave v0 v1) := by
  refine sm_conI (r := bI) (by decide) bI_nar (Nat.le_of_ble_eq_true rfl) ?_
  intro κ hκ C
  subst hκ
  exact slX4_canLeave C v0 v1 hv0
def fnX2_linkHelps_J22 (v0 : Nat) (v1 : Int32) (v2 : Int32) : sm_M Bool := m_bnd (fnX4_canLeave (lk v0 2) v2) fun x27 => m_br ((bI x27) = 0)
    (m_ret false)
    (m_bnd (fnX4_canEnter (lk v0 2) v1) fun x38 => m_br ((bI x38) = 0)
    (m_ret true)
    (m_ret false))
set_option maxHeartbeats 4000000 in
set_option maxRecDepth 100000 in
theorem slX2_linkHelps_J22 {κ : sm_X} (C : sm_C κ RX2 cX2_linkHelps 3 2) (v0 : Nat) (v1 : Int32) (v2 : Int32) (hv0 : kd v0 = 2) : sm_S κ (fun r : Bool => .inr (some (.int (bI r)))) (.inl (22, [some (xad κ v0), some (.int v1), some (.int v2)], [])) (fnX2_linkHelps_J22 v0 v1 v2) := by
  unfold fnX2_linkHelps_J22
  refine sr_aload_n (i := 0) (q := 23) C (show decode cX2_linkHelps 22 = .ok (.aload_n 0, 1) from by decide +kernel) rfl rfl rfl ?_
  refine sr_getr (q := 26) C fl_X2_18 hv0 (show decode cX2_linkHelps 23 = .ok (.getfield 18, 3) from by decide +kernel) rfl ?_
  refine sr_iload_n (i := 2) (q := 27) C (show decode cX2_linkHelps 26 = .ok (.iload_n 2, 1) from by decide +kernel) rfl rfl rfl ?_
  refine sr_cVz (As := [.int v2]) (st := []) (b := lk v0 2) (q := 30) C yvX4_canLeave ml_X2_113 (cnX4_canLeave (xo κ) (lk v0 2) v2 (kt hv0 kp_2_2)) (kt hv0 kp_2_2) (by decide) rfl rfl rfl (by decide) (by decide) (Nat.le_of_ble_eq_true rfl) rfl (show decode cX2_linkHelps 27 = .ok (.invokevirtual 113, 3) from by decide +kernel) rfl (fun x27 => ?_)
  refine sr_if_eq (q := 33) C 48 (show decode cX2_linkHelps 30 = .ok (.ifCond .eq 18, 3) from by decide +kernel) (by decide) rfl ?_ ?_
  · refine sr_iconst (v := (0 : Int32)) (q := 49) C (show decode cX2_linkHelps 48 = .ok (.iconst 0, 1) from by decide +kernel) (by decide) rfl ?_
    exact sr_ireturn C false rfl (show decode cX2_linkHelps 49 = .ok (.ireturn, 1) from by decide +kernel)
  · refine sr_aload_n (i := 0) (q := 34) C (show decode cX2_linkHelps 33 = .ok (.aload_n 0, 1) from by decide +kernel) rfl rfl rfl ?_
    refine sr_getr (q := 37) C fl_X2_18 hv0 (show decode cX2_linkHelps 34 = .ok (.getfield 18, 3) from by decide +kernel) rfl ?_
    refine sr_iload_n (i := 1) (q := 38) C (show decode cX2_linkHelps 37 = .ok (.iload_n 1, 1) from by decide +kernel) rfl rfl rfl ?_
    refine sr_cVz (As := [.int v1]) (st := []) (b := lk v0 2) (q := 41) C yvX4_canEnter ml_X2_117 (cnX4_canEnter (xo κ) (lk v0 2) v1 (kt hv0 kp_2_2)) (kt hv0 kp_2_2) (by decide) rfl rfl rfl (by decide) (by decide) (Nat.le_of_ble_eq_true rfl) rfl (show decode cX2_linkHelps 38 = .ok (.invokevirtual 117, 3) from by decide +kernel) rfl (fun x38 => ?_)
    refine sr_if_ne (q := 44) C 48 (show decode cX2_linkHelps 41 = .ok (.ifCond .ne 7, 3) from by decide +kernel) (by decide) rfl ?_ ?_
    · refine sr_iconst (v := (0 : Int32)) (q := 49) C (show decode cX2_linkHelps 48 = .ok (.iconst 0, 1) from by decide +kernel) (by decide) rfl ?_
      exact sr_ireturn C false rfl (show decode cX2_linkHelps 49 = .ok (.ireturn, 1) from by decide +kernel)
    · refine sr_iconst (v := (1 : Int32)) (q := 45) C (show decode cX2_linkHelps 44 = .ok (.iconst 1, 1) from by decide +kernel) (by decide) rfl ?_
      refine sr_goto (q := 49) C (show decode cX2_linkHelps 45 = .ok (.goto 4, 3) from by decide +kernel) (by decide) ?_
      exact sr_ireturn C true rfl (show decode cX2_linkHelps 49 = .ok (.ireturn, 1) from by decide +kernel)
def fnX2_linkHelps (v0 : Nat) (v1 : Int32) (v2 : Int32) : sm_M Bool := m_bnd (fnX4_canLeave (lk v0 2) v1) fun x5 => m_br ((bI x5) = 0)
    (fnX2_linkHelps_J22 v0 v1 v2)
    (m_bnd (fnX4_canEnter (lk v0 2) v2) fun x16 => m_br ((bI x16) = 0)
    (m_ret true)
    (fnX2_linkHelps_J22 v0 v1 v2))
set_option maxHeartbeats 4000000 in
set_option maxRecDepth 100000 in
theorem slX2_linkHelps {κ : sm_X} (C : sm_C κ RX2 cX2_linkHelps 3 2) (v0 : Nat) (v1 : Int32) (v2 : Int32) (hv0 : kd v0 = 2) : sm_S κ (fun r : Bool => .inr (some (.int (bI r)))) (.inl (0, [some (xad κ v0), some (.int v1), some (.int v2)], [])) (fnX2_linkHelps v0 v1 v2) := by
  unfold fnX2_linkHelps
  refine sr_aload_n (i := 0) (q := 1) C (show decode cX2_linkHelps 0 = .ok (.aload_n 0, 1) from by decide +kernel) rfl rfl rfl ?_
  refine sr_getr (q := 4) C fl_X2_18 hv0 (show decode cX2_linkHelps 1 = .ok (.getfield 18, 3) from by decide +kernel) rfl ?_
  refine sr_iload_n (i := 1) (q := 5) C (show decode cX2_linkHelps 4 = .ok (.iload_n 1, 1) from by decide +kernel) rfl rfl rfl ?_
  refine sr_cVz (As := [.int v1]) (st := []) (b := lk v0 2) (q := 8) C yvX4_canLeave ml_X2_113 (cnX4_canLeave (xo κ) (lk v0 2) v1 (kt hv0 kp_2_2)) (kt hv0 kp_2_2) (by decide) rfl rfl rfl (by decide) (by decide) (Nat.le_of_ble_eq_true rfl) rfl (show decode cX2_linkHelps 5 = .ok (.invokevirtual 113, 3) from by decide +kernel) rfl (fun x5 => ?_)
  refine sr_if_eq (q := 11) C 22 (show decode cX2_linkHelps 8 = .ok (.ifCond .eq 14, 3) from by decide +kernel) (by decide) rfl ?_ ?_
  · exact slX2_linkHelps_J22 C v0 v1 v2 hv0
  · refine sr_aload_n (i := 0) (q := 12) C (show decode cX2_linkHelps 11 = .ok (.aload_n 0, 1) from by decide +kernel) rfl rfl rfl ?_
    refine sr_getr (q := 15) C fl_X2_18 hv0 (show decode cX2_linkHelps 12 = .ok (.getfield 18, 3) from by decide +kernel) rfl ?_
    refine sr_iload_n (i := 2) (q := 16) C (show decode cX2_linkHelps 15 = .ok (.iload_n 2, 1) from by decide +kernel) rfl rfl rfl ?_
    refine sr_cVz (As := [.int v2]) (st := []) (b := lk v0 2) (q := 19) C yvX4_canEnter ml_X2_117 (cnX4_canEnter (xo κ) (lk v0 2) v2 (kt hv0 kp_2_2)) (kt hv0 kp_2_2) (by decide) rfl rfl rfl (by decide) (by decide) (Nat.le_of_ble_eq_true rfl) rfl (show decode cX2_linkHelps 16 = .ok (.invokevirtual 117, 3) from by decide +kernel) rfl (fun x16 => ?_)
    refine sr_if_eq (q := 22) C 44 (show decode cX2_linkHelps 19 = .ok (.ifCond .eq 25, 3) from by decide +kernel) (by decide) rfl ?_ ?_
    · refine sr_iconst (v := (1 : Int32)) (q := 45) C (show decode cX2_linkHelps 44 = .ok (.iconst 1, 1) from by decide +kernel) (by decide) rfl ?_
      refine sr_goto (q := 49) C (show decode cX2_linkHelps 45 = .ok (.goto 4, 3) from by decide +kernel) (by decide) ?_
      exact sr_ireturn C true rfl (show decode cX2_linkHelps 49 = .ok (.ireturn, 1) from by decide +kernel)
    · exact slX2_linkHelps_J22 C v0 v1 v2 hv0
theorem cnX2_linkHelps (ω : sm_O) (v0 : Nat) (v1 : Int32) (v2 : Int32) (hv0 : kd v0 = 2) : sm_Mt 2 yX2_linkHelps cX2_linkHelps 3 (some .boolean) ω [.ref (ω.1 + v0), .int v1, .int v2] (fun a => some (.int (bI a))) (fnX2_linkHelps v0 v1 v2) := by
  refine sm_conI (r := bI) (by decide) bI_nar (Nat.le_of_ble_eq_true rfl) ?_
  intro κ hκ C
  subst hκ
  exact slX2_linkHelps C v0 v1 v2 hv0
