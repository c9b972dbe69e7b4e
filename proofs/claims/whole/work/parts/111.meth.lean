def fnX6_readHand_J51 (v0 : Nat) (v1 : Int32) : sm_M Unit := m_bnd (fnX6_readNumber v0 (0 : Int32) (v1 - (1 : Int32))) fun x56 => m_gi v0 1 fun x61 => m_br (x61 = 0)
    (m_br (x56 < 0)
    (m_ret ())
    (m_br (v1 ≤ x56)
    (m_ret ())
    (m_sai (lk (lk v0 0) 16) v1 x56 <| m_sai (lk (lk v0 0) 16) x56 v1 <| m_ret ())))
    (m_ret ())
set_option maxHeartbeats 4000000 in
set_option maxRecDepth 100000 in
theorem slX6_readHand_J51 {κ : sm_X} (C : sm_C κ RX6 cX6_readHand 3 7) (v0 : Nat) (v1 : Int32) (hv0 : kd v0 = 6) : sm_S κ (fun _ : Unit => .inr none) (.inl (51, [some (xad κ v0), some (.int v1), none], [])) (fnX6_readHand_J51 v0 v1) := by
  unfold fnX6_readHand_J51
  refine sr_aload_n (i := 0) (q := 52) C (show decode cX6_readHand 51 = .ok (.aload_n 0, 1) from by decide +kernel) rfl rfl rfl ?_
  refine sr_iconst (v := (0 : Int32)) (q := 53) C (show decode cX6_readHand 52 = .ok (.iconst 0, 1) from by decide +kernel) (by decide) rfl ?_
  refine sr_iload_n (i := 1) (q := 54) C (show decode cX6_readHand 53 = .ok (.iload_n 1, 1) from by decide +kernel) rfl rfl rfl ?_
  refine sr_iconst (v := (1 : Int32)) (q := 55) C (show decode cX6_readHand 54 = .ok (.iconst 1, 1) from by decide +kernel) (by decide) rfl ?_
  refine sr_isub (q := 56) C (show decode cX6_readHand 55 = .ok (.isub, 1) from by decide +kernel) rfl ?_
  refine sr_cVi (As := [.int (0 : Int32), .int (v1 - (1 : Int32))]) (st := []) (b := v0) (q := 59) C yvX6_readNumber ml_X6_122 (cnX6_readNumber (xo κ) v0 (0 : Int32) (v1 - (1 : Int32)) hv0) hv0 (by decide) rfl rfl rfl (by decide) (by decide) (Nat.le_of_ble_eq_true rfl) rfl (show decode cX6_readHand 56 = .ok (.invokevirtual 122, 3) from by decide +kernel) rfl (fun x56 => ?_)
  refine sr_istore_n (i := 2) (L' := [some (xad κ v0), some (.int v1), some (.int x56)]) (q := 60) C (show decode cX6_readHand 59 = .ok (.istore_n 2, 1) from by decide +kernel) rfl (by decide) rfl rfl ?_
  refine sr_aload_n (i := 0) (q := 61) C (show decode cX6_readHand 60 = .ok (.aload_n 0, 1) from by decide +kernel) rfl rfl rfl ?_
  refine sr_geti (q := 64) C fl_X6_35 (Or.inl rfl) hv0 (show decode cX6_readHand 61 = .ok (.getfield 35, 3) from by decide +kernel) rfl (fun x61 => ?_)
  refine sr_if_ne (q := 67) C 96 (show decode cX6_readHand 64 = .ok (.ifCond .ne 32, 3) from by decide +kernel) (by decide) rfl ?_ ?_
  · exact sr_vreturn C _ rfl (show decode cX6_readHand 96 = .ok (.return_, 1) from by decide +kernel)
  · refine sr_iload_n (i := 2) (q := 68) C (show decode cX6_readHand 67 = .ok (.iload_n 2, 1) from by decide +kernel) rfl rfl rfl ?_
    refine sr_if_lt (q := 71) C 96 (show decode cX6_readHand 68 = .ok (.ifCond .lt 28, 3) from by decide +kernel) (by decide) rfl ?_ ?_
    · exact sr_vreturn C _ rfl (show decode cX6_readHand 96 = .ok (.return_, 1) from by decide +kernel)
    · refine sr_iload_n (i := 2) (q := 72) C (show decode cX6_readHand 71 = .ok (.iload_n 2, 1) from by decide +kernel) rfl rfl rfl ?_
      refine sr_iload_n (i := 1) (q := 73) C (show decode cX6_readHand 72 = .ok (.iload_n 1, 1) from by decide +kernel) rfl rfl rfl ?_
      refine sr_icmp_ge (q := 76) C 96 (show decode cX6_readHand 73 = .ok (.if_icmp .ge 23, 3) from by decide +kernel) (by decide) rfl ?_ ?_
      · exact sr_vreturn C _ rfl (show decode cX6_readHand 96 = .ok (.return_, 1) from by decide +kernel)
      · refine sr_aload_n (i := 0) (q := 77) C (show decode cX6_readHand 76 = .ok (.aload_n 0, 1) from by decide +kernel) rfl rfl rfl ?_
        refine sr_getr (q := 80) C fl_X6_12 hv0 (show decode cX6_readHand 77 = .ok (.getfield 12, 3) from by decide +kernel) rfl ?_
        refine sr_getr (q := 83) C fl_X6_164 (kt hv0 kp_6_0) (show decode cX6_readHand 80 = .ok (.getfield 164, 3) from by decide +kernel) rfl ?_
        refine sr_iload_n (i := 1) (q := 84) C (show decode cX6_readHand 83 = .ok (.iload_n 1, 1) from by decide +kernel) rfl rfl rfl ?_
        refine sr_iload_n (i := 2) (q := 85) C (show decode cX6_readHand 84 = .ok (.iload_n 2, 1) from by decide +kernel) rfl rfl rfl ?_
        refine sr_iastore (q := 86) C (kt (kt hv0 kp_6_0) kp_7_16) (show decode cX6_readHand 85 = .ok (.iastore, 1) from by decide +kernel) rfl ?_
        refine sr_aload_n (i := 0) (q := 87) C (show decode cX6_readHand 86 = .ok (.aload_n 0, 1) from by decide +kernel) rfl rfl rfl ?_
        refine sr_getr (q := 90) C fl_X6_12 hv0 (show decode cX6_readHand 87 = .ok (.getfield 12, 3) from by decide +kernel) rfl ?_
        refine sr_getr (q := 93) C fl_X6_164 (kt hv0 kp_6_0) (show decode cX6_readHand 90 = .ok (.getfield 164, 3) from by decide +kernel) rfl ?_
        refine sr_iload_n (i := 2) (q := 94) C (show decode cX6_readHand 93 = .ok (.iload_n 2, 1) from by decide +kernel) rfl rfl rfl ?_
        refine sr_iload_n (i := 1) (q := 95) C (show decode cX6_readHand 94 = .ok (.iload_n 1, 1) from by decide +kernel) rfl rfl rfl ?_
        refine sr_iastore (q := 96) C (kt (kt hv0 kp_6_0) kp_7_16) (show decode cX6_readHand 95 = .ok (.iastore, 1) from by decide +kernel) rfl ?_
        exact sr_vreturn C _ rfl (show decode cX6_readHand 96 = .ok (.return_, 1) from by decide +kernel)
def fnX6_readHand (v0 : Nat) (v1 : Int32) : sm_M Unit := m_bnd (fnX6_readFlag v0 14) fun x3 => m_gi v0 1 fun x8 => m_br (x8 = 0)
    (m_gi v0 7 fun x15 => m_br (x15 = (2 : Int32))
    (m_gi v0 8 fun x23 => m_br (v1 ≤ x23)
    (fnX6_readHand_J51 v0 v1)
    (m_gi v0 8 fun x38 => m_ai (lk (lk v0 0) 16) x38 fun x41 => m_br (x41 = (-1 : Int32))
    (fnX6_readHand_J51 v0 v1)
    (m_bnd (fnX6_refuse v0 (2 : Int32)) fun _ => fnX6_readHand_J51 v0 v1)))
    (fnX6_readHand_J51 v0 v1))
    (fnX6_readHand_J51 v0 v1)
set_option maxHeartbeats 4000000 in
set_option maxRecDepth 100000 in
theorem slX6_readHand {κ : sm_X} (C : sm_C κ RX6 cX6_readHand 3 7) (v0 : Nat) (v1 : Int32) (hv0 : kd v0 = 6) : sm_S κ (fun _ : Unit => .inr none) (.inl (0, [some (xad κ v0), some (.int v1), none], [])) (fnX6_readHand v0 v1) := by
  unfold fnX6_readHand
  refine sr_aload_n (i := 0) (q := 1) C (show decode cX6_readHand 0 = .ok (.aload_n 0, 1) from by decide +kernel) rfl rfl rfl ?_
  refine sr_ldcS (i := 14) (q := 3) C sc_X6_167 (show decode cX6_readHand 1 = .ok (.ldc 167, 2) from by decide +kernel) rfl ?_
  refine sr_cVz (As := [xst κ 14]) (st := []) (b := v0) (q := 6) C yvX6_readFlag ml_X6_156 (cnX6_readFlag (xo κ) v0 14 hv0 (by decide)) hv0 (by decide) rfl rfl rfl (by decide) (by decide) (Nat.le_of_ble_eq_true rfl) rfl (show decode cX6_readHand 3 = .ok (.invokevirtual 156, 3) from by decide +kernel) rfl (fun x3 => ?_)
  refine sr_pop (q := 7) C (show decode cX6_readHand 6 = .ok (.pop, 1) from by decide +kernel) rfl rfl ?_
  refine sr_aload_n (i := 0) (q := 8) C (show decode cX6_readHand 7 = .ok (.aload_n 0, 1) from by decide +kernel) rfl rfl rfl ?_
  refine sr_geti (q := 11) C fl_X6_35 (Or.inl rfl) hv0 (show decode cX6_readHand 8 = .ok (.getfield 35, 3) from by decide +kernel) rfl (fun x8 => ?_)
  refine sr_if_ne (q := 14) C 51 (show decode cX6_readHand 11 = .ok (.ifCond .ne 40, 3) from by decide +kernel) (by decide) rfl ?_ ?_
  · exact slX6_readHand_J51 C v0 v1 hv0
  · refine sr_aload_n (i := 0) (q := 15) C (show decode cX6_readHand 14 = .ok (.aload_n 0, 1) from by decide +kernel) rfl rfl rfl ?_
    refine sr_geti (q := 18) C fl_X6_54 (Or.inl rfl) hv0 (show decode cX6_readHand 15 = .ok (.getfield 54, 3) from by decide +kernel) rfl (fun x15 => ?_)
    refine sr_iconst (v := (2 : Int32)) (q := 19) C (show decode cX6_readHand 18 = .ok (.iconst 2, 1) from by decide +kernel) (by decide) rfl ?_
    refine sr_icmp_ne (q := 22) C 51 (show decode cX6_readHand 19 = .ok (.if_icmp .ne 32, 3) from by decide +kernel) (by decide) rfl ?_ ?_
    · exact slX6_readHand_J51 C v0 v1 hv0
    · refine sr_aload_n (i := 0) (q := 23) C (show decode cX6_readHand 22 = .ok (.aload_n 0, 1) from by decide +kernel) rfl rfl rfl ?_
      refine sr_geti (q := 26) C fl_X6_113 (Or.inl rfl) hv0 (show decode cX6_readHand 23 = .ok (.getfield 113, 3) from by decide +kernel) rfl (fun x23 => ?_)
      refine sr_iload_n (i := 1) (q := 27) C (show decode cX6_readHand 26 = .ok (.iload_n 1, 1) from by decide +kernel) rfl rfl rfl ?_
      refine sr_icmp_ge (q := 30) C 51 (show decode cX6_readHand 27 = .ok (.if_icmp .ge 24, 3) from by decide +kernel) (by decide) rfl ?_ ?_
      · exact slX6_readHand_J51 C v0 v1 hv0
      · refine sr_aload_n (i := 0) (q := 31) C (show decode cX6_readHand 30 = .ok (.aload_n 0, 1) from by decide +kernel) rfl rfl rfl ?_
        refine sr_getr (q := 34) C fl_X6_12 hv0 (show decode cX6_readHand 31 = .ok (.getfield 12, 3) from by decide +kernel) rfl ?_
        refine sr_getr (q := 37) C fl_X6_164 (kt hv0 kp_6_0) (show decode cX6_readHand 34 = .ok (.getfield 164, 3) from by decide +kernel) rfl ?_
        refine sr_aload_n (i := 0) (q := 38) C (show decode cX6_readHand 37 = .ok (.aload_n 0, 1) from by decide +kernel) rfl rfl rfl ?_
        refine sr_geti (q := 41) C fl_X6_113 (Or.inl rfl) hv0 (show decode cX6_readHand 38 = .ok (.getfield 113, 3) from by decide +kernel) rfl (fun x38 => ?_)
        refine sr_iaload (q := 42) C (kt (kt hv0 kp_6_0) kp_7_16) (show decode cX6_readHand 41 = .ok (.iaload, 1) from by decide +kernel) rfl (fun x41 => ?_)
        refine sr_iconst (v := (-1 : Int32)) (q := 43) C (show decode cX6_readHand 42 = .ok (.iconst (-1), 1) from by decide +kernel) (by decide) rfl ?_
        refine sr_icmp_eq (q := 46) C 51 (show decode cX6_readHand 43 = .ok (.if_icmp .eq 8, 3) from by decide +kernel) (by decide) rfl ?_ ?_
        · exact slX6_readHand_J51 C v0 v1 hv0
        · refine sr_aload_n (i := 0) (q := 47) C (show decode cX6_readHand 46 = .ok (.aload_n 0, 1) from by decide +kernel) rfl rfl rfl ?_
          refine sr_iconst (v := (2 : Int32)) (q := 48) C (show decode cX6_readHand 47 = .ok (.iconst 2, 1) from by decide +kernel) (by decide) rfl ?_
          refine sr_cVv (As := [.int (2 : Int32)]) (st := []) (b := v0) (q := 51) C yvX6_refuse ml_X6_69 (cnX6_refuse (xo κ) v0 (2 : Int32) hv0) hv0 (by decide) rfl rfl rfl (by decide) (by decide) (Nat.le_of_ble_eq_true rfl) rfl (show decode cX6_readHand 48 = .ok (.invokevirtual 69, 3) from by decide +kernel) rfl (fun _ => ?_)
          exact slX6_readHand_J51 C v0 v1 hv0
theorem cnX6_readHand (ω : sm_O) (v0 : Nat) (v1 : Int32) (hv0 : kd v0 = 6) : sm_Mt 7 yX6_readHand cX6_readHand 3 none ω [.ref (ω.1 + v0), .int v1] (fun _ => none) (fnX6_readHand v0 v1) := by
  refine sm_conV (by decide) (Nat.le_of_ble_eq_true rfl) ?_
  intro κ hκ C
  subst hκ
  exact slX6_readHand C v0 v1 hv0
def fnX6_readPair_J13 (v0 : Nat) (v2 : Int32) (v3 : Int32) : sm_M Int32 := m_bnd (fnX6_readNumber v0 v2 v3) fun x16 => m_ret x16
set_option maxHeartbeats 4000000 in
set_option maxRecDepth 100000 in
theorem slX6_readPair_J13 {κ : sm_X} (C : sm_C κ RX6 cX6_readPair 4 7) (v0 : Nat) (v2 : Int32) (v3 : Int32) (hv0 : kd v0 = 6) : sm_S κ (fun r : Int32 => .inr (some (.int r))) (.inl (13, [some (xad κ v0), none, some (.int v2), some (.int v3)], [])) (fnX6_readPair_J13 v0 v2 v3) := by
  unfold fnX6_readPair_J13
  refine sr_aload_n (i := 0) (q := 14) C (show decode cX6_readPair 13 = .ok (.aload_n 0, 1) from by decide +kernel) rfl rfl rfl ?_
  refine sr_iload_n (i := 2) (q := 15) C (show decode cX6_readPair 14 = .ok (.iload_n 2, 1) from by decide +kernel) rfl rfl rfl ?_
  refine sr_iload_n (i := 3) (q := 16) C (show decode cX6_readPair 15 = .ok (.iload_n 3, 1) from by decide +kernel) rfl rfl rfl ?_
  refine sr_cVi (As := [.int v2, .int v3]) (st := []) (b := v0) (q := 19) C yvX6_readNumber ml_X6_122 (cnX6_readNumber (xo κ) v0 v2 v3 hv0) hv0 (by decide) rfl rfl rfl (by decide) (by decide) (Nat.le_of_ble_eq_true rfl) rfl (show decode cX6_readPair 16 = .ok (.invokevirtual 122, 3) from by decide +kernel) rfl (fun x16 => ?_)
  exact sr_ireturn C _ rfl (show decode cX6_readPair 19 = .ok (.ireturn, 1) from by decide +kernel)
def fnX6_readPair (v0 : Nat) (v1 : Nat) (v2 : Int32) (v3 : Int32) : sm_M Int32 := m_bnd (fnX6_readFlag v0 v1) fun x2 => m_br ((bI x2) = 0)
    (m_bnd (fnX6_refuse v0 (1 : Int32)) fun _ => fnX6_readPair_J13 v0 v2 v3)
    (fnX6_readPair_J13 v0 v2 v3)
set_option maxHeartbeats 4000000 in
set_option maxRecDepth 100000 in
theorem slX6_readPair {κ : sm_X} (C : sm_C κ RX6 cX6_readPair 4 7) (v0 : Nat) (v1 : Nat) (v2 : Int32) (v3 : Int32) (hv0 : kd v0 = 6) (hv1 : v1 < strN) : sm_S κ (fun r : Int32 => .inr (some (.int r))) (.inl (0, [some (xad κ v0), some (xst κ v1), some (.int v2), some (.int v3)], [])) (fnX6_readPair v0 v1 v2 v3) := by
  unfold fnX6_readPair
  refine sr_aload_n (i := 0) (q := 1) C (show decode cX6_readPair 0 = .ok (.aload_n 0, 1) from by decide +kernel) rfl rfl rfl ?_
  refine sr_aload_n (i := 1) (q := 2) C (show decode cX6_readPair 1 = .ok (.aload_n 1, 1) from by decide +kernel) rfl rfl rfl ?_
  refine sr_cVz (As := [xst κ v1]) (st := []) (b := v0) (q := 5) C yvX6_readFlag ml_X6_156 (cnX6_readFlag (xo κ) v0 v1 hv0 hv1) hv0 (by decide) rfl rfl rfl (by decide) (by decide) (Nat.le_of_ble_eq_true rfl) rfl (show decode cX6_readPair 2 = .ok (.invokevirtual 156, 3) from by decide +kernel) rfl (fun x2 => ?_)
  refine sr_if_ne (q := 8) C 13 (show decode cX6_readPair 5 = .ok (.ifCond .ne 8, 3) from by decide +kernel) (by decide) rfl ?_ ?_
  · refine sr_weak (L' := [some (xad κ v0), none, some (.int v2), some (.int v3)]) ⟨rfl, rfl, rfl, trivial⟩ ?_
    exact slX6_readPair_J13 C v0 v2 v3 hv0
  · refine sr_aload_n (i := 0) (q := 9) C (show decode cX6_readPair 8 = .ok (.aload_n 0, 1) from by decide +kernel) rfl rfl rfl ?_
    refine sr_iconst (v := (1 : Int32)) (q := 10) C (show decode cX6_readPair 9 = .ok (.iconst 1, 1) from by decide +kernel) (by decide) rfl ?_
    refine sr_cVv (As := [.int (1 : Int32)]) (st := []) (b := v0) (q := 13) C yvX6_refuse ml_X6_69 (cnX6_refuse (xo κ) v0 (1 : Int32) hv0) hv0 (by decide) rfl rfl rfl (by decide) (by decide) (Nat.le_of_ble_eq_true rfl) rfl (show decode cX6_readPair 10 = .ok (.invokevirtual 69, 3) from by decide +kernel) rfl (fun _ => ?_)
    refine sr_weak (L' := [some (xad κ v0), none, some (.int v2), some (.int v3)]) ⟨rfl, rfl, rfl, trivial⟩ ?_
    exact slX6_readPair_J13 C v0 v2 v3 hv0
theorem cnX6_readPair (ω : sm_O) (v0 : Nat) (v1 : Nat) (v2 : Int32) (v3 : Int32) (hv0 : kd v0 = 6) (hv1 : v1 < strN) : sm_Mt 7 yX6_readPair cX6_readPair 4 (some .int) ω [.ref (ω.1 + v0), .ref (ω.2.2.2.1 v1), .int v2, .int v3] (fun a => some (.int a)) (fnX6_readPair v0 v1 v2 v3) := by
  refine sm_conI (r := fun a => a) (by decide) (fun _ => rfl) (Nat.le_of_ble_eq_true rfl) ?_
  intro κ hκ C
  subst hκ
  exact slX6_readPair C v0 v1 v2 v3 hv0 hv1
def fnX6_readPerson_J157 (v0 : Nat) : sm_M Unit := m_gi (lk v0 0) 5 fun x162 => m_si (lk v0 0) 5 (x162 + (1 : Int32)) <| m_ret ()
set_option maxHeartbeats 4000000 in
set_option maxRecDepth 100000 in
theorem slX6_readPerson_J157 {κ : sm_X} (C : sm_C κ RX6 cX6_readPerson 2 8) (v0 : Nat) (hv0 : kd v0 = 6) : sm_S κ (fun _ : Unit => .inr none) (.inl (157, [some (xad κ v0), none], [])) (fnX6_readPerson_J157 v0) := by
  unfold fnX6_readPerson_J157
  refine sr_aload_n (i := 0) (q := 158) C (show decode cX6_readPerson 157 = .ok (.aload_n 0, 1) from by decide +kernel) rfl rfl rfl ?_
  refine sr_getr (q := 161) C fl_X6_12 hv0 (show decode cX6_readPerson 158 = .ok (.getfield 12, 3) from by decide +kernel) rfl ?_
  refine sr_dup (q := 162) C (show decode cX6_readPerson 161 = .ok (.dup, 1) from by decide +kernel) rfl rfl ?_
  refine sr_geti (q := 165) C fl_X6_137 (Or.inl rfl) (kt hv0 kp_6_0) (show decode cX6_readPerson 162 = .ok (.getfield 137, 3) from by decide +kernel) rfl (fun x162 => ?_)
  refine sr_iconst (v := (1 : Int32)) (q := 166) C (show decode cX6_readPerson 165 = .ok (.iconst 1, 1) from by decide +kernel) (by decide) rfl ?_
  refine sr_iadd (q := 167) C (show decode cX6_readPerson 166 = .ok (.iadd, 1) from by decide +kernel) rfl ?_
  refine sr_puti (q := 170) C fp_X6_137 (kt hv0 kp_6_0) (show decode cX6_readPerson 167 = .ok (.putfield 137, 3) from by decide +kernel) rfl ?_
  exact sr_vreturn C _ rfl (show decode cX6_readPerson 170 = .ok (.return_, 1) from by decide +kernel)
def fnX6_readPerson_J129 (v0 : Nat) (v1 : Int32) (s0 : Int32) (s1 : Int32) (s2 : Nat) : sm_M Unit := m_si s2 7 (s1 ||| s0) <| m_sai (lk (lk v0 0) 16) v1 (-1 : Int32) <| m_bnd (fnX6_isWord v0 14) fun x146 => m_br ((bI x146) = 0)
    (fnX6_readPerson_J157 v0)
    (m_bnd (fnX6_readHand v0 v1) fun _ => fnX6_readPerson_J157 v0)
set_option maxHeartbeats 4000000 in
set_option maxRecDepth 100000 in
theorem slX6_readPerson_J129 {κ : sm_X} (C : sm_C κ RX6 cX6_readPerson 2 8) (v0 : Nat) (v1 : Int32) (s0 : Int32) (s1 : Int32) (s2 : Nat) (hv0 : kd v0 = 6) (hs2 : kd s2 = 7) : sm_S κ (fun _ : Unit => .inr none) (.inl (129, [some (xad κ v0), some (.int v1)], [.int s0, .int s1, xad κ s2])) (fnX6_readPerson_J129 v0 v1 s0 s1 s2) := by
  unfold fnX6_readPerson_J129
  refine sr_ior (q := 130) C (show decode cX6_readPerson 129 = .ok (.ior, 1) from by decide +kernel) rfl ?_
  refine sr_puti (q := 133) C fp_X6_159 hs2 (show decode cX6_readPerson 130 = .ok (.putfield 159, 3) from by decide +kernel) rfl ?_
  refine sr_aload_n (i := 0) (q := 134) C (show decode cX6_readPerson 133 = .ok (.aload_n 0, 1) from by decide +kernel) rfl rfl rfl ?_
  refine sr_getr (q := 137) C fl_X6_12 hv0 (show decode cX6_readPerson 134 = .ok (.getfield 12, 3) from by decide +kernel) rfl ?_
  refine sr_getr (q := 140) C fl_X6_164 (kt hv0 kp_6_0) (show decode cX6_readPerson 137 = .ok (.getfield 164, 3) from by decide +kernel) rfl ?_
  refine sr_iload_n (i := 1) (q := 141) C (show decode cX6_readPerson 140 = .ok (.iload_n 1, 1) from by decide +kernel) rfl rfl rfl ?_
  refine sr_iconst (v := (-1 : Int32)) (q := 142) C (show decode cX6_readPerson 141 = .ok (.iconst (-1), 1) from by decide +kernel) (by decide) rfl ?_
  refine sr_iastore (q := 143) C (kt (kt hv0 kp_6_0) kp_7_16) (show decode cX6_readPerson 142 = .ok (.iastore, 1) from by decide +kernel) rfl ?_
  refine sr_aload_n (i := 0) (q := 144) C (show decode cX6_readPerson 143 = .ok (.aload_n 0, 1) from by decide +kernel) rfl rfl rfl ?_
  refine sr_ldcS (i := 14) (q := 146) C sc_X6_167 (show decode cX6_readPerson 144 = .ok (.ldc 167, 2) from by decide +kernel) rfl ?_
  refine sr_cVz (As := [xst κ 14]) (st := []) (b := v0) (q := 149) C yvX6_isWord ml_X6_65 (cnX6_isWord (xo κ) v0 14 hv0 (by decide)) hv0 (by decide) rfl rfl rfl (by decide) (by decide) (Nat.le_of_ble_eq_true rfl) rfl (show decode cX6_readPerson 146 = .ok (.invokevirtual 65, 3) from by decide +kernel) rfl (fun x146 => ?_)
  refine sr_if_eq (q := 152) C 157 (show decode cX6_readPerson 149 = .ok (.ifCond .eq 8, 3) from by decide +kernel) (by decide) rfl ?_ ?_
  · refine sr_weak (L' := [some (xad κ v0), none]) ⟨rfl, trivial⟩ ?_
    exact slX6_readPerson_J157 C v0 hv0
  · refine sr_aload_n (i := 0) (q := 153) C (show decode cX6_readPerson 152 = .ok (.aload_n 0, 1) from by decide +kernel) rfl rfl rfl ?_
    refine sr_iload_n (i := 1) (q := 154) C (show decode cX6_readPerson 153 = .ok (.iload_n 1, 1) from by decide +kernel) rfl rfl rfl ?_
    refine sr_cVv (As := [.int v1]) (st := []) (b := v0) (q := 157) C yvX6_readHand ml_X6_168 (cnX6_readHand (xo κ) v0 v1 hv0) hv0 (by decide) rfl rfl rfl (by decide) (by decide) (Nat.le_of_ble_eq_true rfl) rfl (show decode cX6_readPerson 154 = .ok (.invokevirtual 168, 3) from by decide +kernel) rfl (fun _ => ?_)
    refine sr_weak (L' := [some (xad κ v0), none]) ⟨rfl, trivial⟩ ?_
    exact slX6_readPerson_J157 C v0 hv0
def fnX6_readPerson_J101 (v0 : Nat) (v1 : Int32) (s0 : Int32) (s1 : Int32) (s2 : Nat) : sm_M Unit := m_si s2 6 (s1 ||| s0) <| m_gi (lk v0 0) 7 fun x110 => m_bnd (fnX6_readFlag v0 13) fun x116 => m_br ((bI x116) = 0)
    (fnX6_readPerson_J129 v0 v1 (0 : Int32) x110 (lk v0 0))
    (fnX6_readPerson_J129 v0 v1 ((1 : Int32) <<< (v1 &&& 31)) x110 (lk v0 0))
set_option maxHeartbeats 4000000 in
set_option maxRecDepth 100000 in
theorem slX6_readPerson_J101 {κ : sm_X} (C : sm_C κ RX6 cX6_readPerson 2 8) (v0 : Nat) (v1 : Int32) (s0 : Int32) (s1 : Int32) (s2 : Nat) (hv0 : kd v0 = 6) (hs2 : kd s2 = 7) : sm_S κ (fun _ : Unit => .inr none) (.inl (101, [some (xad κ v0), some (.int v1)], [.int s0, .int s1, xad κ s2])) (fnX6_readPerson_J101 v0 v1 s0 s1 s2) := by
  unfold fnX6_readPerson_J101
  refine sr_ior (q := 102) C (show decode cX6_readPerson 101 = .ok (.ior, 1) from by decide +kernel) rfl ?_
  refine sr_puti (q := 105) C fp_X6_152 hs2 (show decode cX6_readPerson 102 = .ok (.putfield 152, 3) from by decide +kernel) rfl ?_
  refine sr_aload_n (i := 0) (q := 106) C (show decode cX6_readPerson 105 = .ok (.aload_n 0, 1) from by decide +kernel) rfl rfl rfl ?_
  refine sr_getr (q := 109) C fl_X6_12 hv0 (show decode cX6_readPerson 106 = .ok (.getfield 12, 3) from by decide +kernel) rfl ?_
  refine sr_dup (q := 110) C (show decode cX6_readPerson 109 = .ok (.dup, 1) from by decide +kernel) rfl rfl ?_
  refine sr_geti (q := 113) C fl_X6_159 (Or.inl rfl) (kt hv0 kp_6_0) (show decode cX6_readPerson 110 = .ok (.getfield 159, 3) from by decide +kernel) rfl (fun x110 => ?_)
  refine sr_aload_n (i := 0) (q := 114) C (show decode cX6_readPerson 113 = .ok (.aload_n 0, 1) from by decide +kernel) rfl rfl rfl ?_
  refine sr_ldcS (i := 13) (q := 116) C sc_X6_162 (show decode cX6_readPerson 114 = .ok (.ldc 162, 2) from by decide +kernel) rfl ?_
  refine sr_cVz (As := [xst κ 13]) (st := [.int x110, xad κ (lk v0 0)]) (b := v0) (q := 119) C yvX6_readFlag ml_X6_156 (cnX6_readFlag (xo κ) v0 13 hv0 (by decide)) hv0 (by decide) rfl rfl rfl (by decide) (by decide) (Nat.le_of_ble_eq_true rfl) rfl (show decode cX6_readPerson 116 = .ok (.invokevirtual 156, 3) from by decide +kernel) rfl (fun x116 => ?_)
  refine sr_if_eq (q := 122) C 128 (show decode cX6_readPerson 119 = .ok (.ifCond .eq 9, 3) from by decide +kernel) (by decide) rfl ?_ ?_
  · refine sr_iconst (v := (0 : Int32)) (q := 129) C (show decode cX6_readPerson 128 = .ok (.iconst 0, 1) from by decide +kernel) (by decide) rfl ?_
    exact slX6_readPerson_J129 C v0 v1 (0 : Int32) x110 (lk v0 0) hv0 (kt hv0 kp_6_0)
  · refine sr_iconst (v := (1 : Int32)) (q := 123) C (show decode cX6_readPerson 122 = .ok (.iconst 1, 1) from by decide +kernel) (by decide) rfl ?_
    refine sr_iload_n (i := 1) (q := 124) C (show decode cX6_readPerson 123 = .ok (.iload_n 1, 1) from by decide +kernel) rfl rfl rfl ?_
    refine sr_ishl (q := 125) C (show decode cX6_readPerson 124 = .ok (.ishl, 1) from by decide +kernel) rfl ?_
    refine sr_goto (q := 129) C (show decode cX6_readPerson 125 = .ok (.goto 4, 3) from by decide +kernel) (by decide) ?_
    exact slX6_readPerson_J129 C v0 v1 ((1 : Int32) <<< (v1 &&& 31)) x110 (lk v0 0) hv0 (kt hv0 kp_6_0)
def fnX6_readPerson (v0 : Nat) : sm_M Unit := m_gi (lk v0 0) 5 fun x4 => m_br (x4 < (8 : Int32))
    (m_bnd (fnX6_advance v0) fun _ => m_bnd (fnX6_readPair v0 9 (1 : Int32) (9 : Int32)) fun x38 => m_sai (lk (lk v0 0) 13) x4 x38 <| m_bnd (fnX6_readPair v0 10 (1 : Int32) (3 : Int32)) fun x55 => m_sai (lk (lk v0 0) 14) x4 x55 <| m_bnd (fnX6_readPair v0 11 (0 : Int32) (99 : Int32)) fun x73 => m_sai (lk (lk v0 0) 15) x4 x73 <| m_gi (lk v0 0) 6 fun x82 => m_bnd (fnX6_readFlag v0 12) fun x88 => m_br ((bI x88) = 0)
    (fnX6_readPerson_J101 v0 x4 (0 : Int32) x82 (lk v0 0))
    (fnX6_readPerson_J101 v0 x4 ((1 : Int32) <<< (x4 &&& 31)) x82 (lk v0 0)))
    (m_bnd (fnX6_refuse v0 (3 : Int32)) fun _ => m_ret ())
set_option maxHeartbeats 4000000 in
set_option maxRecDepth 100000 in
theorem slX6_readPerson {κ : sm_X} (C : sm_C κ RX6 cX6_readPerson 2 8) (v0 : Nat) (hv0 : kd v0 = 6) : sm_S κ (fun _ : Unit => .inr none) (.inl (0, [some (xad κ v0), none], [])) (fnX6_readPerson v0) := by
  unfold fnX6_readPerson
  refine sr_aload_n (i := 0) (q := 1) C (show decode cX6_readPerson 0 = .ok (.aload_n 0, 1) from by decide +kernel) rfl rfl rfl ?_
  refine sr_getr (q := 4) C fl_X6_12 hv0 (show decode cX6_readPerson 1 = .ok (.getfield 12, 3) from by decide +kernel) rfl ?_
  refine sr_geti (q := 7) C fl_X6_137 (Or.inl rfl) (kt hv0 kp_6_0) (show decode cX6_readPerson 4 = .ok (.getfield 137, 3) from by decide +kernel) rfl (fun x4 => ?_)
  refine sr_istore_n (i := 1) (L' := [some (xad κ v0), some (.int x4)]) (q := 8) C (show decode cX6_readPerson 7 = .ok (.istore_n 1, 1) from by decide +kernel) rfl (by decide) rfl rfl ?_
  refine sr_iload_n (i := 1) (q := 9) C (show decode cX6_readPerson 8 = .ok (.iload_n 1, 1) from by decide +kernel) rfl rfl rfl ?_
  refine sr_bipush (v := (8 : Int32)) (q := 11) C (show decode cX6_readPerson 9 = .ok (.bipush 8, 2) from by decide +kernel) (by decide) rfl ?_
  refine sr_icmp_lt (q := 14) C 20 (show decode cX6_readPerson 11 = .ok (.if_icmp .lt 9, 3) from by decide +kernel) (by decide) rfl ?_ ?_
  · refine sr_aload_n (i := 0) (q := 21) C (show decode cX6_readPerson 20 = .ok (.aload_n 0, 1) from by decide +kernel) rfl rfl rfl ?_
    refine sr_cVv (As := []) (st := []) (b := v0) (q := 24) C yvX6_advance ml_X6_51 (cnX6_advance (xo κ) v0 hv0) hv0 (by decide) rfl rfl rfl (by decide) (by decide) (Nat.le_of_ble_eq_true rfl) rfl (show decode cX6_readPerson 21 = .ok (.invokevirtual 51, 3) from by decide +kernel) rfl (fun _ => ?_)
    refine sr_aload_n (i := 0) (q := 25) C (show decode cX6_readPerson 24 = .ok (.aload_n 0, 1) from by decide +kernel) rfl rfl rfl ?_
    refine sr_getr (q := 28) C fl_X6_12 hv0 (show decode cX6_readPerson 25 = .ok (.getfield 12, 3) from by decide +kernel) rfl ?_
    refine sr_getr (q := 31) C fl_X6_140 (kt hv0 kp_6_0) (show decode cX6_readPerson 28 = .ok (.getfield 140, 3) from by decide +kernel) rfl ?_
    refine sr_iload_n (i := 1) (q := 32) C (show decode cX6_readPerson 31 = .ok (.iload_n 1, 1) from by decide +kernel) rfl rfl rfl ?_
    refine sr_aload_n (i := 0) (q := 33) C (show decode cX6_readPerson 32 = .ok (.aload_n 0, 1) from by decide +kernel) rfl rfl rfl ?_
    refine sr_ldcS (i := 9) (q := 35) C sc_X6_143 (show decode cX6_readPerson 33 = .ok (.ldc 143, 2) from by decide +kernel) rfl ?_
    refine sr_iconst (v := (1 : Int32)) (q := 36) C (show decode cX6_readPerson 35 = .ok (.iconst 1, 1) from by decide +kernel) (by decide) rfl ?_
    refine sr_bipush (v := (9 : Int32)) (q := 38) C (show decode cX6_readPerson 36 = .ok (.bipush 9, 2) from by decide +kernel) (by decide) rfl ?_
    refine sr_cVi (As := [xst κ 9, .int (1 : Int32), .int (9 : Int32)]) (st := [.int x4, xad κ (lk (lk v0 0) 13)]) (b := v0) (q := 41) C yvX6_readPair ml_X6_93 (cnX6_readPair (xo κ) v0 9 (1 : Int32) (9 : Int32) hv0 (by decide)) hv0 (by decide) rfl rfl rfl (by decide) (by decide) (Nat.le_of_ble_eq_true rfl) rfl (show decode cX6_readPerson 38 = .ok (.invokevirtual 93, 3) from by decide +kernel) rfl (fun x38 => ?_)
    refine sr_iastore (q := 42) C (kt (kt hv0 kp_6_0) kp_7_13) (show decode cX6_readPerson 41 = .ok (.iastore, 1) from by decide +kernel) rfl ?_
    refine sr_aload_n (i := 0) (q := 43) C (show decode cX6_readPerson 42 = .ok (.aload_n 0, 1) from by decide +kernel) rfl rfl rfl ?_
    refine sr_getr (q := 46) C fl_X6_12 hv0 (show decode cX6_readPerson 43 = .ok (.getfield 12, 3) from by decide +kernel) rfl ?_
    refine sr_getr (q := 49) C fl_X6_144 (kt hv0 kp_6_0) (show decode cX6_readPerson 46 = .ok (.getfield 144, 3) from by decide +kernel) rfl ?_
    refine sr_iload_n (i := 1) (q := 50) C (show decode cX6_readPerson 49 = .ok (.iload_n 1, 1) from by decide +kernel) rfl rfl rfl ?_
    refine sr_aload_n (i := 0) (q := 51) C (show decode cX6_readPerson 50 = .ok (.aload_n 0, 1) from by decide +kernel) rfl rfl rfl ?_
    refine sr_ldcS (i := 10) (q := 53) C sc_X6_147 (show decode cX6_readPerson 51 = .ok (.ldc 147, 2) from by decide +kernel) rfl ?_
    refine sr_iconst (v := (1 : Int32)) (q := 54) C (show decode cX6_readPerson 53 = .ok (.iconst 1, 1) from by decide +kernel) (by decide) rfl ?_
    refine sr_iconst (v := (3 : Int32)) (q := 55) C (show decode cX6_readPerson 54 = .ok (.iconst 3, 1) from by decide +kernel) (by decide) rfl ?_
    refine sr_cVi (As := [xst κ 10, .int (1 : Int32), .int (3 : Int32)]) (st := [.int x4, xad κ (lk (lk v0 0) 14)]) (b := v0) (q := 58) C yvX6_readPair ml_X6_93 (cnX6_readPair (xo κ) v0 10 (1 : Int32) (3 : Int32) hv0 (by decide)) hv0 (by decide) rfl rfl rfl (by decide) (by decide) (Nat.le_of_ble_eq_true rfl) rfl (show decode cX6_readPerson 55 = .ok (.invokevirtual 93, 3) from by decide +kernel) rfl (fun x55 => ?_)
    refine sr_iastore (q := 59) C (kt (kt hv0 kp_6_0) kp_7_14) (show decode cX6_readPerson 58 = .ok (.iastore, 1) from by decide +kernel) rfl ?_
    refine sr_aload_n (i := 0) (q := 60) C (show decode cX6_readPerson 59 = .ok (.aload_n 0, 1) from by decide +kernel) rfl rfl rfl ?_
    refine sr_getr (q := 63) C fl_X6_12 hv0 (show decode cX6_readPerson 60 = .ok (.getfield 12, 3) from by decide +kernel) rfl ?_
    refine sr_getr (q := 66) C fl_X6_148 (kt hv0 kp_6_0) (show decode cX6_readPerson 63 = .ok (.getfield 148, 3) from by decide +kernel) rfl ?_
    refine sr_iload_n (i := 1) (q := 67) C (show decode cX6_readPerson 66 = .ok (.iload_n 1, 1) from by decide +kernel) rfl rfl rfl ?_
    refine sr_aload_n (i := 0) (q := 68) C (show decode cX6_readPerson 67 = .ok (.aload_n 0, 1) from by decide +kernel) rfl rfl rfl ?_
    refine sr_ldcS (i := 11) (q := 70) C sc_X6_151 (show decode cX6_readPerson 68 = .ok (.ldc 151, 2) from by decide +kernel) rfl ?_
    refine sr_iconst (v := (0 : Int32)) (q := 71) C (show decode cX6_readPerson 70 = .ok (.iconst 0, 1) from by decide +kernel) (by decide) rfl ?_
    refine sr_bipush (v := (99 : Int32)) (q := 73) C (show decode cX6_readPerson 71 = .ok (.bipush 99, 2) from by decide +kernel) (by decide) rfl ?_
    refine sr_cVi (As := [xst κ 11, .int (0 : Int32), .int (99 : Int32)]) (st := [.int x4, xad κ (lk (lk v0 0) 15)]) (b := v0) (q := 76) C yvX6_readPair ml_X6_93 (cnX6_readPair (xo κ) v0 11 (0 : Int32) (99 : Int32) hv0 (by decide)) hv0 (by decide) rfl rfl rfl (by decide) (by decide) (Nat.le_of_ble_eq_true rfl) rfl (show decode cX6_readPerson 73 = .ok (.invokevirtual 93, 3) from by decide +kernel) rfl (fun x73 => ?_)
    refine sr_iastore (q := 77) C (kt (kt hv0 kp_6_0) kp_7_15) (show decode cX6_readPerson 76 = .ok (.iastore, 1) from by decide +kernel) rfl ?_
    refine sr_aload_n (i := 0) (q := 78) C (show decode cX6_readPerson 77 = .ok (.aload_n 0, 1) from by decide +kernel) rfl rfl rfl ?_
    refine sr_getr (q := 81) C fl_X6_12 hv0 (show decode cX6_readPerson 78 = .ok (.getfield 12, 3) from by decide +kernel) rfl ?_
    refine sr_dup (q := 82) C (show decode cX6_readPerson 81 = .ok (.dup, 1) from by decide +kernel) rfl rfl ?_
    refine sr_geti (q := 85) C fl_X6_152 (Or.inl rfl) (kt hv0 kp_6_0) (show decode cX6_readPerson 82 = .ok (.getfield 152, 3) from by decide +kernel) rfl (fun x82 => ?_)
    refine sr_aload_n (i := 0) (q := 86) C (show decode cX6_readPerson 85 = .ok (.aload_n 0, 1) from by decide +kernel) rfl rfl rfl ?_
    refine sr_ldcS (i := 12) (q := 88) C sc_X6_155 (show decode cX6_readPerson 86 = .ok (.ldc 155, 2) from by decide +kernel) rfl ?_
    refine sr_cVz (As := [xst κ 12]) (st := [.int x82, xad κ (lk v0 0)]) (b := v0) (q := 91) C yvX6_readFlag ml_X6_156 (cnX6_readFlag (xo κ) v0 12 hv0 (by decide)) hv0 (by decide) rfl rfl rfl (by decide) (by decide) (Nat.le_of_ble_eq_true rfl) rfl (show decode cX6_readPerson 88 = .ok (.invokevirtual 156, 3) from by decide +kernel) rfl (fun x88 => ?_)
    refine sr_if_eq (q := 94) C 100 (show decode cX6_readPerson 91 = .ok (.ifCond .eq 9, 3) from by decide +kernel) (by decide) rfl ?_ ?_
    · refine sr_iconst (v := (0 : Int32)) (q := 101) C (show decode cX6_readPerson 100 = .ok (.iconst 0, 1) from by decide +kernel) (by decide) rfl ?_
      exact slX6_readPerson_J101 C v0 x4 (0 : Int32) x82 (lk v0 0) hv0 (kt hv0 kp_6_0)
    · refine sr_iconst (v := (1 : Int32)) (q := 95) C (show decode cX6_readPerson 94 = .ok (.iconst 1, 1) from by decide +kernel) (by decide) rfl ?_
      refine sr_iload_n (i := 1) (q := 96) C (show decode cX6_readPerson 95 = .ok (.iload_n 1, 1) from by decide +kernel) rfl rfl rfl ?_
      refine sr_ishl (q := 97) C (show decode cX6_readPerson 96 = .ok (.ishl, 1) from by decide +kernel) rfl ?_
      refine sr_goto (q := 101) C (show decode cX6_readPerson 97 = .ok (.goto 4, 3) from by decide +kernel) (by decide) ?_
      exact slX6_readPerson_J101 C v0 x4 ((1 : Int32) <<< (x4 &&& 31)) x82 (lk v0 0) hv0 (kt hv0 kp_6_0)
  · refine sr_aload_n (i := 0) (q := 15) C (show decode cX6_readPerson 14 = .ok (.aload_n 0, 1) from by decide +kernel) rfl rfl rfl ?_
    refine sr_iconst (v := (3 : Int32)) (q := 16) C (show decode cX6_readPerson 15 = .ok (.iconst 3, 1) from by decide +kernel) (by decide) rfl ?_
    refine sr_cVv (As := [.int (3 : Int32)]) (st := []) (b := v0) (q := 19) C yvX6_refuse ml_X6_69 (cnX6_refuse (xo κ) v0 (3 : Int32) hv0) hv0 (by decide) rfl rfl rfl (by decide) (by decide) (Nat.le_of_ble_eq_true rfl) rfl (show decode cX6_readPerson 16 = .ok (.invokevirtual 69, 3) from by decide +kernel) rfl (fun _ => ?_)
    exact sr_vreturn C _ rfl (show decode cX6_readPerson 19 = .ok (.return_, 1) from by decide +kernel)
theorem cnX6_readPerson (ω : sm_O) (v0 : Nat) (hv0 : kd v0 = 6) : sm_Mt 8 yX6_readPerson cX6_readPerson 2 none ω [.ref (ω.1 + v0)] (fun _ => none) (fnX6_readPerson v0) := by
  refine sm_conV (by decide) (Nat.le_of_ble_eq_true rfl) ?_
  intro κ hκ C
  subst hκ
  exact slX6_readPerson C v0 hv0
def fnX6_readPlank_J12 (v0 : Nat) : sm_M Unit := m_si v0 10 (1 : Int32) <| m_bnd (fnX6_readPair v0 15 (1 : Int32) (9 : Int32)) fun x27 => m_si (lk v0 0) 3 x27 <| m_ret ()
set_option maxHeartbeats 4000000 in
set_option maxRecDepth 100000 in
theorem slX6_readPlank_J12 {κ : sm_X} (C : sm_C κ RX6 cX6_readPlank 1 8) (v0 : Nat) (hv0 : kd v0 = 6) : sm_S κ (fun _ : Unit => .inr none) (.inl (12, [some (xad κ v0)], [])) (fnX6_readPlank_J12 v0) := by
  unfold fnX6_readPlank_J12
  refine sr_aload_n (i := 0) (q := 13) C (show decode cX6_readPlank 12 = .ok (.aload_n 0, 1) from by decide +kernel) rfl rfl rfl ?_
  refine sr_iconst (v := (1 : Int32)) (q := 14) C (show decode cX6_readPlank 13 = .ok (.iconst 1, 1) from by decide +kernel) (by decide) rfl ?_
  refine sr_putx (q := 17) C fp_X6_47 (Or.inr rfl) rfl rfl hv0 (show decode cX6_readPlank 14 = .ok (.putfield 47, 3) from by decide +kernel) rfl ?_
  refine sr_aload_n (i := 0) (q := 18) C (show decode cX6_readPlank 17 = .ok (.aload_n 0, 1) from by decide +kernel) rfl rfl rfl ?_
  refine sr_getr (q := 21) C fl_X6_12 hv0 (show decode cX6_readPlank 18 = .ok (.getfield 12, 3) from by decide +kernel) rfl ?_
  refine sr_aload_n (i := 0) (q := 22) C (show decode cX6_readPlank 21 = .ok (.aload_n 0, 1) from by decide +kernel) rfl rfl rfl ?_
  refine sr_ldcS (i := 15) (q := 24) C sc_X6_86 (show decode cX6_readPlank 22 = .ok (.ldc 86, 2) from by decide +kernel) rfl ?_
  refine sr_iconst (v := (1 : Int32)) (q := 25) C (show decode cX6_readPlank 24 = .ok (.iconst 1, 1) from by decide +kernel) (by decide) rfl ?_
  refine sr_bipush (v := (9 : Int32)) (q := 27) C (show decode cX6_readPlank 25 = .ok (.bipush 9, 2) from by decide +kernel) (by decide) rfl ?_
  refine sr_cVi (As := [xst κ 15, .int (1 : Int32), .int (9 : Int32)]) (st := [xad κ (lk v0 0)]) (b := v0) (q := 30) C yvX6_readPair ml_X6_93 (cnX6_readPair (xo κ) v0 15 (1 : Int32) (9 : Int32) hv0 (by decide)) hv0 (by decide) rfl rfl rfl (by decide) (by decide) (Nat.le_of_ble_eq_true rfl) rfl (show decode cX6_readPlank 27 = .ok (.invokevirtual 93, 3) from by decide +kernel) rfl (fun x27 => ?_)
  refine sr_puti (q := 33) C fp_X6_171 (kt hv0 kp_6_0) (show decode cX6_readPlank 30 = .ok (.putfield 171, 3) from by decide +kernel) rfl ?_
  exact sr_vreturn C _ rfl (show decode cX6_readPlank 33 = .ok (.return_, 1) from by decide +kernel)
def fnX6_readPlank (v0 : Nat) : sm_M Unit := m_gi v0 10 fun x1 => m_br (x1 = 0)
    (fnX6_readPlank_J12 v0)
    (m_bnd (fnX6_refuse v0 (2 : Int32)) fun _ => fnX6_readPlank_J12 v0)
set_option maxHeartbeats 4000000 in
set_option maxRecDepth 100000 in
theorem slX6_readPlank {κ : sm_X} (C : sm_C κ RX6 cX6_readPlank 1 8) (v0 : Nat) (hv0 : kd v0 = 6) : sm_S κ (fun _ : Unit => .inr none) (.inl (0, [some (xad κ v0)], [])) (fnX6_readPlank v0) := by
  unfold fnX6_readPlank
  refine sr_aload_n (i := 0) (q := 1) C (show decode cX6_readPlank 0 = .ok (.aload_n 0, 1) from by decide +kernel) rfl rfl rfl ?_
  refine sr_geti (q := 4) C fl_X6_47 (Or.inr rfl) hv0 (show decode cX6_readPlank 1 = .ok (.getfield 47, 3) from by decide +kernel) rfl (fun x1 => ?_)
  refine sr_if_eq (q := 7) C 12 (show decode cX6_readPlank 4 = .ok (.ifCond .eq 8, 3) from by decide +kernel) (by decide) rfl ?_ ?_
  · exact slX6_readPlank_J12 C v0 hv0
  · refine sr_aload_n (i := 0) (q := 8) C (show decode cX6_readPlank 7 = .ok (.aload_n 0, 1) from by decide +kernel) rfl rfl rfl ?_
    refine sr_iconst (v := (2 : Int32)) (q := 9) C (show decode cX6_readPlank 8 = .ok (.iconst 2, 1) from by decide +kernel) (by decide) rfl ?_
    refine sr_cVv (As := [.int (2 : Int32)]) (st := []) (b := v0) (q := 12) C yvX6_refuse ml_X6_69 (cnX6_refuse (xo κ) v0 (2 : Int32) hv0) hv0 (by decide) rfl rfl rfl (by decide) (by decide) (Nat.le_of_ble_eq_true rfl) rfl (show decode cX6_readPlank 9 = .ok (.invokevirtual 69, 3) from by decide +kernel) rfl (fun _ => ?_)
    exact slX6_readPlank_J12 C v0 hv0
theorem cnX6_readPlank (ω : sm_O) (v0 : Nat) (hv0 : kd v0 = 6) : sm_Mt 8 yX6_readPlank cX6_readPlank 1 none ω [.ref (ω.1 + v0)] (fun _ => none) (fnX6_readPlank v0) := by
  refine sm_conV (by decide) (Nat.le_of_ble_eq_true rfl) ?_
  intro κ hκ C
  subst hκ
  exact slX6_readPlank C v0 hv0
def fnX6_readStone_J247 (v0 : Nat) (s0 : Int32) (s1 : Int32) (s2 : Nat) : sm_M Unit := m_si s2 9 (s1 + s0) <| m_gi (lk v0 0) 4 fun x256 => m_si (lk v0 0) 4 (x256 + (1 : Int32)) <| m_ret ()
set_option maxHeartbeats 4000000 in
set_option maxRecDepth 100000 in
theorem slX6_readStone_J247 {κ : sm_X} (C : sm_C κ RX6 cX6_readStone 2 8) (v0 : Nat) (s0 : Int32) (s1 : Int32) (s2 : Nat) (hv0 : kd v0 = 6) (hs2 : kd s2 = 6) : sm_S κ (fun _ : Unit => .inr none) (.inl (247, [some (xad κ v0), none], [.int s0, .int s1, xad κ s2])) (fnX6_readStone_J247 v0 s0 s1 s2) := by
  unfold fnX6_readStone_J247
  refine sr_iadd (q := 248) C (show decode cX6_readStone 247 = .ok (.iadd, 1) from by decide +kernel) rfl ?_
  refine sr_puti (q := 251) C fp_X6_44 hs2 (show decode cX6_readStone 248 = .ok (.putfield 44, 3) from by decide +kernel) rfl ?_
  refine sr_aload_n (i := 0) (q := 252) C (show decode cX6_readStone 251 = .ok (.aload_n 0, 1) from by decide +kernel) rfl rfl rfl ?_
  refine sr_getr (q := 255) C fl_X6_12 hv0 (show decode cX6_readStone 252 = .ok (.getfield 12, 3) from by decide +kernel) rfl ?_
  refine sr_dup (q := 256) C (show decode cX6_readStone 255 = .ok (.dup, 1) from by decide +kernel) rfl rfl ?_
  refine sr_geti (q := 259) C fl_X6_104 (Or.inl rfl) (kt hv0 kp_6_0) (show decode cX6_readStone 256 = .ok (.getfield 104, 3) from by decide +kernel) rfl (fun x256 => ?_)
  refine sr_iconst (v := (1 : Int32)) (q := 260) C (show decode cX6_readStone 259 = .ok (.iconst 1, 1) from by decide +kernel) (by decide) rfl ?_
  refine sr_iadd (q := 261) C (show decode cX6_readStone 260 = .ok (.iadd, 1) from by decide +kernel) rfl ?_
  refine sr_puti (q := 264) C fp_X6_104 (kt hv0 kp_6_0) (show decode cX6_readStone 261 = .ok (.putfield 104, 3) from by decide +kernel) rfl ?_
  exact sr_vreturn C _ rfl (show decode cX6_readStone 264 = .ok (.return_, 1) from by decide +kernel)
def fnX6_readStone_J224 (v0 : Nat) (v1 : Int32) (s0 : Int32) (s1 : Int32) (s2 : Nat) : sm_M Unit := m_sai s2 s1 s0 <| m_gi v0 9 fun x227 => m_ai (lk (lk v0 0) 12) v1 fun x238 => m_br (x238 ≤ 0)
    (fnX6_readStone_J247 v0 (0 : Int32) x227 v0)
    (fnX6_readStone_J247 v0 (1 : Int32) x227 v0)
set_option maxHeartbeats 4000000 in
set_option maxRecDepth 100000 in
theorem slX6_readStone_J224 {κ : sm_X} (C : sm_C κ RX6 cX6_readStone 2 8) (v0 : Nat) (v1 : Int32) (s0 : Int32) (s1 : Int32) (s2 : Nat) (hv0 : kd v0 = 6) (hs2 : kd s2 = 20) : sm_S κ (fun _ : Unit => .inr none) (.inl (224, [some (xad κ v0), some (.int v1)], [.int s0, .int s1, xad κ s2])) (fnX6_readStone_J224 v0 v1 s0 s1 s2) := by
  unfold fnX6_readStone_J224
  refine sr_iastore (q := 225) C hs2 (show decode cX6_readStone 224 = .ok (.iastore, 1) from by decide +kernel) rfl ?_
  refine sr_aload_n (i := 0) (q := 226) C (show decode cX6_readStone 225 = .ok (.aload_n 0, 1) from by decide +kernel) rfl rfl rfl ?_
  refine sr_dup (q := 227) C (show decode cX6_readStone 226 = .ok (.dup, 1) from by decide +kernel) rfl rfl ?_
  refine sr_geti (q := 230) C fl_X6_44 (Or.inl rfl) hv0 (show decode cX6_readStone 227 = .ok (.getfield 44, 3) from by decide +kernel) rfl (fun x227 => ?_)
  refine sr_aload_n (i := 0) (q := 231) C (show decode cX6_readStone 230 = .ok (.aload_n 0, 1) from by decide +kernel) rfl rfl rfl ?_
  refine sr_getr (q := 234) C fl_X6_12 hv0 (show decode cX6_readStone 231 = .ok (.getfield 12, 3) from by decide +kernel) rfl ?_
  refine sr_getr (q := 237) C fl_X6_135 (kt hv0 kp_6_0) (show decode cX6_readStone 234 = .ok (.getfield 135, 3) from by decide +kernel) rfl ?_
  refine sr_iload_n (i := 1) (q := 238) C (show decode cX6_readStone 237 = .ok (.iload_n 1, 1) from by decide +kernel) rfl rfl rfl ?_
  refine sr_iaload (q := 239) C (kt (kt hv0 kp_6_0) kp_7_12) (show decode cX6_readStone 238 = .ok (.iaload, 1) from by decide +kernel) rfl (fun x238 => ?_)
  refine sr_if_le (q := 242) C 246 (show decode cX6_readStone 239 = .ok (.ifCond .le 7, 3) from by decide +kernel) (by decide) rfl ?_ ?_
  · refine sr_iconst (v := (0 : Int32)) (q := 247) C (show decode cX6_readStone 246 = .ok (.iconst 0, 1) from by decide +kernel) (by decide) rfl ?_
    refine sr_weak (L' := [some (xad κ v0), none]) ⟨rfl, trivial⟩ ?_
    exact slX6_readStone_J247 C v0 (0 : Int32) x227 v0 hv0 hv0
  · refine sr_iconst (v := (1 : Int32)) (q := 243) C (show decode cX6_readStone 242 = .ok (.iconst 1, 1) from by decide +kernel) (by decide) rfl ?_
    refine sr_goto (q := 247) C (show decode cX6_readStone 243 = .ok (.goto 4, 3) from by decide +kernel) (by decide) ?_
    refine sr_weak (L' := [some (xad κ v0), none]) ⟨rfl, trivial⟩ ?_
    exact slX6_readStone_J247 C v0 (1 : Int32) x227 v0 hv0 hv0
def fnX6_readStone_J194 (v0 : Nat) (v1 : Int32) : sm_M Unit := m_bnd (fnX6_isWord v0 7) fun x205 => m_br ((bI x205) = 0)
    (fnX6_readStone_J224 v0 v1 (0 : Int32) v1 (lk (lk v0 0) 12))
    (m_bnd (fnX6_readPair v0 7 (1 : Int32) (99 : Int32)) fun x217 => fnX6_readStone_J224 v0 v1 x217 v1 (lk (lk v0 0) 12))
set_option maxHeartbeats 4000000 in
set_option maxRecDepth 100000 in
theorem slX6_readStone_J194 {κ : sm_X} (C : sm_C κ RX6 cX6_readStone 2 8) (v0 : Nat) (v1 : Int32) (hv0 : kd v0 = 6) : sm_S κ (fun _ : Unit => .inr none) (.inl (194, [some (xad κ v0), some (.int v1)], [])) (fnX6_readStone_J194 v0 v1) := by
  unfold fnX6_readStone_J194
  refine sr_aload_n (i := 0) (q := 195) C (show decode cX6_readStone 194 = .ok (.aload_n 0, 1) from by decide +kernel) rfl rfl rfl ?_
  refine sr_getr (q := 198) C fl_X6_12 hv0 (show decode cX6_readStone 195 = .ok (.getfield 12, 3) from by decide +kernel) rfl ?_
  refine sr_getr (q := 201) C fl_X6_135 (kt hv0 kp_6_0) (show decode cX6_readStone 198 = .ok (.getfield 135, 3) from by decide +kernel) rfl ?_
  refine sr_iload_n (i := 1) (q := 202) C (show decode cX6_readStone 201 = .ok (.iload_n 1, 1) from by decide +kernel) rfl rfl rfl ?_
  refine sr_aload_n (i := 0) (q := 203) C (show decode cX6_readStone 202 = .ok (.aload_n 0, 1) from by decide +kernel) rfl rfl rfl ?_
  refine sr_ldcS (i := 7) (q := 205) C sc_X6_133 (show decode cX6_readStone 203 = .ok (.ldc 133, 2) from by decide +kernel) rfl ?_
  refine sr_cVz (As := [xst κ 7]) (st := [.int v1, xad κ (lk (lk v0 0) 12)]) (b := v0) (q := 208) C yvX6_isWord ml_X6_65 (cnX6_isWord (xo κ) v0 7 hv0 (by decide)) hv0 (by decide) rfl rfl rfl (by decide) (by decide) (Nat.le_of_ble_eq_true rfl) rfl (show decode cX6_readStone 205 = .ok (.invokevirtual 65, 3) from by decide +kernel) rfl (fun x205 => ?_)
  refine sr_if_eq (q := 211) C 223 (show decode cX6_readStone 208 = .ok (.ifCond .eq 15, 3) from by decide +kernel) (by decide) rfl ?_ ?_
  · refine sr_iconst (v := (0 : Int32)) (q := 224) C (show decode cX6_readStone 223 = .ok (.iconst 0, 1) from by decide +kernel) (by decide) rfl ?_
    exact slX6_readStone_J224 C v0 v1 (0 : Int32) v1 (lk (lk v0 0) 12) hv0 (kt (kt hv0 kp_6_0) kp_7_12)
  · refine sr_aload_n (i := 0) (q := 212) C (show decode cX6_readStone 211 = .ok (.aload_n 0, 1) from by decide +kernel) rfl rfl rfl ?_
    refine sr_ldcS (i := 7) (q := 214) C sc_X6_133 (show decode cX6_readStone 212 = .ok (.ldc 133, 2) from by decide +kernel) rfl ?_
    refine sr_iconst (v := (1 : Int32)) (q := 215) C (show decode cX6_readStone 214 = .ok (.iconst 1, 1) from by decide +kernel) (by decide) rfl ?_
    refine sr_bipush (v := (99 : Int32)) (q := 217) C (show decode cX6_readStone 215 = .ok (.bipush 99, 2) from by decide +kernel) (by decide) rfl ?_
    refine sr_cVi (As := [xst κ 7, .int (1 : Int32), .int (99 : Int32)]) (st := [.int v1, xad κ (lk (lk v0 0) 12)]) (b := v0) (q := 220) C yvX6_readPair ml_X6_93 (cnX6_readPair (xo κ) v0 7 (1 : Int32) (99 : Int32) hv0 (by decide)) hv0 (by decide) rfl rfl rfl (by decide) (by decide) (Nat.le_of_ble_eq_true rfl) rfl (show decode cX6_readStone 217 = .ok (.invokevirtual 93, 3) from by decide +kernel) rfl (fun x217 => ?_)
    refine sr_goto (q := 224) C (show decode cX6_readStone 220 = .ok (.goto 4, 3) from by decide +kernel) (by decide) ?_
    exact slX6_readStone_J224 C v0 v1 x217 v1 (lk (lk v0 0) 12) hv0 (kt (kt hv0 kp_6_0) kp_7_12)
def fnX6_readStone_J164 (v0 : Nat) (v1 : Int32) (s0 : Int32) (s1 : Int32) (s2 : Nat) : sm_M Unit := m_sai s2 s1 s0 <| m_gi v0 1 fun x166 => m_br (x166 = 0)
    (m_bnd (fnX6_isWord v0 7) fun x175 => m_br ((bI x175) = 0)
    (fnX6_readStone_J194 v0 v1)
    (m_gi v0 9 fun x182 => m_br (x182 < (4 : Int32))
    (fnX6_readStone_J194 v0 v1)
    (m_bnd (fnX6_refuse v0 (2 : Int32)) fun _ => fnX6_readStone_J194 v0 v1)))
    (fnX6_readStone_J194 v0 v1)
set_option maxHeartbeats 4000000 in
set_option maxRecDepth 100000 in
theorem slX6_readStone_J164 {κ : sm_X} (C : sm_C κ RX6 cX6_readStone 2 8) (v0 : Nat) (v1 : Int32) (s0 : Int32) (s1 : Int32) (s2 : Nat) (hv0 : kd v0 = 6) (hs2 : kd s2 = 20) : sm_S κ (fun _ : Unit => .inr none) (.inl (164, [some (xad κ v0), some (.int v1)], [.int s0, .int s1, xad κ s2])) (fnX6_readStone_J164 v0 v1 s0 s1 s2) := by
  unfold fnX6_readStone_J164
  refine sr_iastore (q := 165) C hs2 (show decode cX6_readStone 164 = .ok (.iastore, 1) from by decide +kernel) rfl ?_
  refine sr_aload_n (i := 0) (q := 166) C (show decode cX6_readStone 165 = .ok (.aload_n 0, 1) from by decide +kernel) rfl rfl rfl ?_
  refine sr_geti (q := 169) C fl_X6_35 (Or.inl rfl) hv0 (show decode cX6_readStone 166 = .ok (.getfield 35, 3) from by decide +kernel) rfl (fun x166 => ?_)
  refine sr_if_ne (q := 172) C 194 (show decode cX6_readStone 169 = .ok (.ifCond .ne 25, 3) from by decide +kernel) (by decide) rfl ?_ ?_
  · exact slX6_readStone_J194 C v0 v1 hv0
  · refine sr_aload_n (i := 0) (q := 173) C (show decode cX6_readStone 172 = .ok (.aload_n 0, 1) from by decide +kernel) rfl rfl rfl ?_
    refine sr_ldcS (i := 7) (q := 175) C sc_X6_133 (show decode cX6_readStone 173 = .ok (.ldc 133, 2) from by decide +kernel) rfl ?_
    refine sr_cVz (As := [xst κ 7]) (st := []) (b := v0) (q := 178) C yvX6_isWord ml_X6_65 (cnX6_isWord (xo κ) v0 7 hv0 (by decide)) hv0 (by decide) rfl rfl rfl (by decide) (by decide) (Nat.le_of_ble_eq_true rfl) rfl (show decode cX6_readStone 175 = .ok (.invokevirtual 65, 3) from by decide +kernel) rfl (fun x175 => ?_)
    refine sr_if_eq (q := 181) C 194 (show decode cX6_readStone 178 = .ok (.ifCond .eq 16, 3) from by decide +kernel) (by decide) rfl ?_ ?_
    · exact slX6_readStone_J194 C v0 v1 hv0
    · refine sr_aload_n (i := 0) (q := 182) C (show decode cX6_readStone 181 = .ok (.aload_n 0, 1) from by decide +kernel) rfl rfl rfl ?_
      refine sr_geti (q := 185) C fl_X6_44 (Or.inl rfl) hv0 (show decode cX6_readStone 182 = .ok (.getfield 44, 3) from by decide +kernel) rfl (fun x182 => ?_)
      refine sr_iconst (v := (4 : Int32)) (q := 186) C (show decode cX6_readStone 185 = .ok (.iconst 4, 1) from by decide +kernel) (by decide) rfl ?_
      refine sr_icmp_lt (q := 189) C 194 (show decode cX6_readStone 186 = .ok (.if_icmp .lt 8, 3) from by decide +kernel) (by decide) rfl ?_ ?_
      · exact slX6_readStone_J194 C v0 v1 hv0
      · refine sr_aload_n (i := 0) (q := 190) C (show decode cX6_readStone 189 = .ok (.aload_n 0, 1) from by decide +kernel) rfl rfl rfl ?_
        refine sr_iconst (v := (2 : Int32)) (q := 191) C (show decode cX6_readStone 190 = .ok (.iconst 2, 1) from by decide +kernel) (by decide) rfl ?_
        refine sr_cVv (As := [.int (2 : Int32)]) (st := []) (b := v0) (q := 194) C yvX6_refuse ml_X6_69 (cnX6_refuse (xo κ) v0 (2 : Int32) hv0) hv0 (by decide) rfl rfl rfl (by decide) (by decide) (Nat.le_of_ble_eq_true rfl) rfl (show decode cX6_readStone 191 = .ok (.invokevirtual 69, 3) from by decide +kernel) rfl (fun _ => ?_)
        exact slX6_readStone_J194 C v0 v1 hv0
def fnX6_readStone_J93 (v0 : Nat) (v1 : Int32) : sm_M Unit := m_gi (lk v0 0) 1 fun x107 => m_bnd (fnX6_readNumber v0 (1 : Int32) (x107 - (1 : Int32))) fun x112 => m_sai (lk (lk v0 0) 9) v1 x112 <| m_bnd (fnX6_readPair v0 5 (1 : Int32) (9 : Int32)) fun x130 => m_sai (lk (lk v0 0) 10) v1 x130 <| m_bnd (fnX6_isWord v0 6) fun x145 => m_br ((bI x145) = 0)
    (fnX6_readStone_J164 v0 v1 (0 : Int32) v1 (lk (lk v0 0) 11))
    (m_bnd (fnX6_readPair v0 6 (1 : Int32) (23 : Int32)) fun x157 => fnX6_readStone_J164 v0 v1 x157 v1 (lk (lk v0 0) 11))
set_option maxHeartbeats 4000000 in
set_option maxRecDepth 100000 in
theorem slX6_readStone_J93 {κ : sm_X} (C : sm_C κ RX6 cX6_readStone 2 8) (v0 : Nat) (v1 : Int32) (hv0 : kd v0 = 6) : sm_S κ (fun _ : Unit => .inr none) (.inl (93, [some (xad κ v0), some (.int v1)], [])) (fnX6_readStone_J93 v0 v1) := by
  unfold fnX6_readStone_J93
  refine sr_aload_n (i := 0) (q := 94) C (show decode cX6_readStone 93 = .ok (.aload_n 0, 1) from by decide +kernel) rfl rfl rfl ?_
  refine sr_getr (q := 97) C fl_X6_12 hv0 (show decode cX6_readStone 94 = .ok (.getfield 12, 3) from by decide +kernel) rfl ?_
  refine sr_getr (q := 100) C fl_X6_119 (kt hv0 kp_6_0) (show decode cX6_readStone 97 = .ok (.getfield 119, 3) from by decide +kernel) rfl ?_
  refine sr_iload_n (i := 1) (q := 101) C (show decode cX6_readStone 100 = .ok (.iload_n 1, 1) from by decide +kernel) rfl rfl rfl ?_
  refine sr_aload_n (i := 0) (q := 102) C (show decode cX6_readStone 101 = .ok (.aload_n 0, 1) from by decide +kernel) rfl rfl rfl ?_
  refine sr_iconst (v := (1 : Int32)) (q := 103) C (show decode cX6_readStone 102 = .ok (.iconst 1, 1) from by decide +kernel) (by decide) rfl ?_
  refine sr_aload_n (i := 0) (q := 104) C (show decode cX6_readStone 103 = .ok (.aload_n 0, 1) from by decide +kernel) rfl rfl rfl ?_
  refine sr_getr (q := 107) C fl_X6_12 hv0 (show decode cX6_readStone 104 = .ok (.getfield 12, 3) from by decide +kernel) rfl ?_
  refine sr_geti (q := 110) C fl_X6_97 (Or.inl rfl) (kt hv0 kp_6_0) (show decode cX6_readStone 107 = .ok (.getfield 97, 3) from by decide +kernel) rfl (fun x107 => ?_)
  refine sr_iconst (v := (1 : Int32)) (q := 111) C (show decode cX6_readStone 110 = .ok (.iconst 1, 1) from by decide +kernel) (by decide) rfl ?_
  refine sr_isub (q := 112) C (show decode cX6_readStone 111 = .ok (.isub, 1) from by decide +kernel) rfl ?_
  refine sr_cVi (As := [.int (1 : Int32), .int (x107 - (1 : Int32))]) (st := [.int v1, xad κ (lk (lk v0 0) 9)]) (b := v0) (q := 115) C yvX6_readNumber ml_X6_122 (cnX6_readNumber (xo κ) v0 (1 : Int32) (x107 - (1 : Int32)) hv0) hv0 (by decide) rfl rfl rfl (by decide) (by decide) (Nat.le_of_ble_eq_true rfl) rfl (show decode cX6_readStone 112 = .ok (.invokevirtual 122, 3) from by decide +kernel) rfl (fun x112 => ?_)
  refine sr_iastore (q := 116) C (kt (kt hv0 kp_6_0) kp_7_9) (show decode cX6_readStone 115 = .ok (.iastore, 1) from by decide +kernel) rfl ?_
  refine sr_aload_n (i := 0) (q := 117) C (show decode cX6_readStone 116 = .ok (.aload_n 0, 1) from by decide +kernel) rfl rfl rfl ?_
  refine sr_getr (q := 120) C fl_X6_12 hv0 (show decode cX6_readStone 117 = .ok (.getfield 12, 3) from by decide +kernel) rfl ?_
  refine sr_getr (q := 123) C fl_X6_125 (kt hv0 kp_6_0) (show decode cX6_readStone 120 = .ok (.getfield 125, 3) from by decide +kernel) rfl ?_
  refine sr_iload_n (i := 1) (q := 124) C (show decode cX6_readStone 123 = .ok (.iload_n 1, 1) from by decide +kernel) rfl rfl rfl ?_
  refine sr_aload_n (i := 0) (q := 125) C (show decode cX6_readStone 124 = .ok (.aload_n 0, 1) from by decide +kernel) rfl rfl rfl ?_
  refine sr_ldcS (i := 5) (q := 127) C sc_X6_128 (show decode cX6_readStone 125 = .ok (.ldc 128, 2) from by decide +kernel) rfl ?_
  refine sr_iconst (v := (1 : Int32)) (q := 128) C (show decode cX6_readStone 127 = .ok (.iconst 1, 1) from by decide +kernel) (by decide) rfl ?_
  refine sr_bipush (v := (9 : Int32)) (q := 130) C (show decode cX6_readStone 128 = .ok (.bipush 9, 2) from by decide +kernel) (by decide) rfl ?_
  refine sr_cVi (As := [xst κ 5, .int (1 : Int32), .int (9 : Int32)]) (st := [.int v1, xad κ (lk (lk v0 0) 10)]) (b := v0) (q := 133) C yvX6_readPair ml_X6_93 (cnX6_readPair (xo κ) v0 5 (1 : Int32) (9 : Int32) hv0 (by decide)) hv0 (by decide) rfl rfl rfl (by decide) (by decide) (Nat.le_of_ble_eq_true rfl) rfl (show decode cX6_readStone 130 = .ok (.invokevirtual 93, 3) from by decide +kernel) rfl (fun x130 => ?_)
  refine sr_iastore (q := 134) C (kt (kt hv0 kp_6_0) kp_7_10) (show decode cX6_readStone 133 = .ok (.iastore, 1) from by decide +kernel) rfl ?_
  refine sr_aload_n (i := 0) (q := 135) C (show decode cX6_readStone 134 = .ok (.aload_n 0, 1) from by decide +kernel) rfl rfl rfl ?_
  refine sr_getr (q := 138) C fl_X6_12 hv0 (show decode cX6_readStone 135 = .ok (.getfield 12, 3) from by decide +kernel) rfl ?_
  refine sr_getr (q := 141) C fl_X6_129 (kt hv0 kp_6_0) (show decode cX6_readStone 138 = .ok (.getfield 129, 3) from by decide +kernel) rfl ?_
  refine sr_iload_n (i := 1) (q := 142) C (show decode cX6_readStone 141 = .ok (.iload_n 1, 1) from by decide +kernel) rfl rfl rfl ?_
  refine sr_aload_n (i := 0) (q := 143) C (show decode cX6_readStone 142 = .ok (.aload_n 0, 1) from by decide +kernel) rfl rfl rfl ?_
  refine sr_ldcS (i := 6) (q := 145) C sc_X6_132 (show decode cX6_readStone 143 = .ok (.ldc 132, 2) from by decide +kernel) rfl ?_
  refine sr_cVz (As := [xst κ 6]) (st := [.int v1, xad κ (lk (lk v0 0) 11)]) (b := v0) (q := 148) C yvX6_isWord ml_X6_65 (cnX6_isWord (xo κ) v0 6 hv0 (by decide)) hv0 (by decide) rfl rfl rfl (by decide) (by decide) (Nat.le_of_ble_eq_true rfl) rfl (show decode cX6_readStone 145 = .ok (.invokevirtual 65, 3) from by decide +kernel) rfl (fun x145 => ?_)
  refine sr_if_eq (q := 151) C 163 (show decode cX6_readStone 148 = .ok (.ifCond .eq 15, 3) from by decide +kernel) (by decide) rfl ?_ ?_
  · refine sr_iconst (v := (0 : Int32)) (q := 164) C (show decode cX6_readStone 163 = .ok (.iconst 0, 1) from by decide +kernel) (by decide) rfl ?_
    exact slX6_readStone_J164 C v0 v1 (0 : Int32) v1 (lk (lk v0 0) 11) hv0 (kt (kt hv0 kp_6_0) kp_7_11)
  · refine sr_aload_n (i := 0) (q := 152) C (show decode cX6_readStone 151 = .ok (.aload_n 0, 1) from by decide +kernel) rfl rfl rfl ?_
    refine sr_ldcS (i := 6) (q := 154) C sc_X6_132 (show decode cX6_readStone 152 = .ok (.ldc 132, 2) from by decide +kernel) rfl ?_
    refine sr_iconst (v := (1 : Int32)) (q := 155) C (show decode cX6_readStone 154 = .ok (.iconst 1, 1) from by decide +kernel) (by decide) rfl ?_
    refine sr_bipush (v := (23 : Int32)) (q := 157) C (show decode cX6_readStone 155 = .ok (.bipush 23, 2) from by decide +kernel) (by decide) rfl ?_
    refine sr_cVi (As := [xst κ 6, .int (1 : Int32), .int (23 : Int32)]) (st := [.int v1, xad κ (lk (lk v0 0) 11)]) (b := v0) (q := 160) C yvX6_readPair ml_X6_93 (cnX6_readPair (xo κ) v0 6 (1 : Int32) (23 : Int32) hv0 (by decide)) hv0 (by decide) rfl rfl rfl (by decide) (by decide) (Nat.le_of_ble_eq_true rfl) rfl (show decode cX6_readStone 157 = .ok (.invokevirtual 93, 3) from by decide +kernel) rfl (fun x157 => ?_)
    refine sr_goto (q := 164) C (show decode cX6_readStone 160 = .ok (.goto 4, 3) from by decide +kernel) (by decide) ?_
    exact slX6_readStone_J164 C v0 v1 x157 v1 (lk (lk v0 0) 11) hv0 (kt (kt hv0 kp_6_0) kp_7_11)
def fnX6_readStone (v0 : Nat) : sm_M Unit := m_gi (lk v0 0) 4 fun x4 => m_br (x4 < (24 : Int32))
    (m_bnd (fnX6_advance v0) fun _ => m_gi (lk v0 0) 2 fun x40 => m_bnd (fnX6_readPair v0 4 (0 : Int32) (x40 - (1 : Int32))) fun x45 => m_sai (lk (lk v0 0) 8) x4 x45 <| m_gi v0 1 fun x50 => m_br (x50 = 0)
    (m_gi v0 7 fun x57 => m_br (x57 = (2 : Int32))
    (m_ai (lk (lk v0 0) 8) x4 fun x76 => m_gi v0 8 fun x78 => m_bnd (fnX7_stoneAt (lk v0 0) x76 x78) fun x81 => m_br (x81 = (-1 : Int32))
    (fnX6_readStone_J93 v0 x4)
    (m_bnd (fnX6_refuse v0 (2 : Int32)) fun _ => fnX6_readStone_J93 v0 x4))
    (fnX6_readStone_J93 v0 x4))
    (fnX6_readStone_J93 v0 x4))
    (m_bnd (fnX6_refuse v0 (3 : Int32)) fun _ => m_ret ())
set_option maxHeartbeats 4000000 in
set_option maxRecDepth 100000 in
theorem slX6_readStone {κ : sm_X} (C : sm_C κ RX6 cX6_readStone 2 8) (v0 : Nat) (hv0 : kd v0 = 6) : sm_S κ (fun _ : Unit => .inr none) (.inl (0, [some (xad κ v0), none], [])) (fnX6_readStone v0) := by
  unfold fnX6_readStone
  refine sr_aload_n (i := 0) (q := 1) C (show decode cX6_readStone 0 = .ok (.aload_n 0, 1) from by decide +kernel) rfl rfl rfl ?_
  refine sr_getr (q := 4) C fl_X6_12 hv0 (show decode cX6_readStone 1 = .ok (.getfield 12, 3) from by decide +kernel) rfl ?_
  refine sr_geti (q := 7) C fl_X6_104 (Or.inl rfl) (kt hv0 kp_6_0) (show decode cX6_readStone 4 = .ok (.getfield 104, 3) from by decide +kernel) rfl (fun x4 => ?_)
  refine sr_istore_n (i := 1) (L' := [some (xad κ v0), some (.int x4)]) (q := 8) C (show decode cX6_readStone 7 = .ok (.istore_n 1, 1) from by decide +kernel) rfl (by decide) rfl rfl ?_
  refine sr_iload_n (i := 1) (q := 9) C (show decode cX6_readStone 8 = .ok (.iload_n 1, 1) from by decide +kernel) rfl rfl rfl ?_
  refine sr_bipush (v := (24 : Int32)) (q := 11) C (show decode cX6_readStone 9 = .ok (.bipush 24, 2) from by decide +kernel) (by decide) rfl ?_
  refine sr_icmp_lt (q := 14) C 20 (show decode cX6_readStone 11 = .ok (.if_icmp .lt 9, 3) from by decide +kernel) (by decide) rfl ?_ ?_
  · refine sr_aload_n (i := 0) (q := 21) C (show decode cX6_readStone 20 = .ok (.aload_n 0, 1) from by decide +kernel) rfl rfl rfl ?_
    refine sr_cVv (As := []) (st := []) (b := v0) (q := 24) C yvX6_advance ml_X6_51 (cnX6_advance (xo κ) v0 hv0) hv0 (by decide) rfl rfl rfl (by decide) (by decide) (Nat.le_of_ble_eq_true rfl) rfl (show decode cX6_readStone 21 = .ok (.invokevirtual 51, 3) from by decide +kernel) rfl (fun _ => ?_)
    refine sr_aload_n (i := 0) (q := 25) C (show decode cX6_readStone 24 = .ok (.aload_n 0, 1) from by decide +kernel) rfl rfl rfl ?_
    refine sr_getr (q := 28) C fl_X6_12 hv0 (show decode cX6_readStone 25 = .ok (.getfield 12, 3) from by decide +kernel) rfl ?_
    refine sr_getr (q := 31) C fl_X6_107 (kt hv0 kp_6_0) (show decode cX6_readStone 28 = .ok (.getfield 107, 3) from by decide +kernel) rfl ?_
    refine sr_iload_n (i := 1) (q := 32) C (show decode cX6_readStone 31 = .ok (.iload_n 1, 1) from by decide +kernel) rfl rfl rfl ?_
    refine sr_aload_n (i := 0) (q := 33) C (show decode cX6_readStone 32 = .ok (.aload_n 0, 1) from by decide +kernel) rfl rfl rfl ?_
    refine sr_ldcS (i := 4) (q := 35) C sc_X6_111 (show decode cX6_readStone 33 = .ok (.ldc 111, 2) from by decide +kernel) rfl ?_
    refine sr_iconst (v := (0 : Int32)) (q := 36) C (show decode cX6_readStone 35 = .ok (.iconst 0, 1) from by decide +kernel) (by decide) rfl ?_
    refine sr_aload_n (i := 0) (q := 37) C (show decode cX6_readStone 36 = .ok (.aload_n 0, 1) from by decide +kernel) rfl rfl rfl ?_
    refine sr_getr (q := 40) C fl_X6_12 hv0 (show decode cX6_readStone 37 = .ok (.getfield 12, 3) from by decide +kernel) rfl ?_
    refine sr_geti (q := 43) C fl_X6_101 (Or.inl rfl) (kt hv0 kp_6_0) (show decode cX6_readStone 40 = .ok (.getfield 101, 3) from by decide +kernel) rfl (fun x40 => ?_)
    refine sr_iconst (v := (1 : Int32)) (q := 44) C (show decode cX6_readStone 43 = .ok (.iconst 1, 1) from by decide +kernel) (by decide) rfl ?_
    refine sr_isub (q := 45) C (show decode cX6_readStone 44 = .ok (.isub, 1) from by decide +kernel) rfl ?_
    refine sr_cVi (As := [xst κ 4, .int (0 : Int32), .int (x40 - (1 : Int32))]) (st := [.int x4, xad κ (lk (lk v0 0) 8)]) (b := v0) (q := 48) C yvX6_readPair ml_X6_93 (cnX6_readPair (xo κ) v0 4 (0 : Int32) (x40 - (1 : Int32)) hv0 (by decide)) hv0 (by decide) rfl rfl rfl (by decide) (by decide) (Nat.le_of_ble_eq_true rfl) rfl (show decode cX6_readStone 45 = .ok (.invokevirtual 93, 3) from by decide +kernel) rfl (fun x45 => ?_)
    refine sr_iastore (q := 49) C (kt (kt hv0 kp_6_0) kp_7_8) (show decode cX6_readStone 48 = .ok (.iastore, 1) from by decide +kernel) rfl ?_
    refine sr_aload_n (i := 0) (q := 50) C (show decode cX6_readStone 49 = .ok (.aload_n 0, 1) from by decide +kernel) rfl rfl rfl ?_
    refine sr_geti (q := 53) C fl_X6_35 (Or.inl rfl) hv0 (show decode cX6_readStone 50 = .ok (.getfield 35, 3) from by decide +kernel) rfl (fun x50 => ?_)
    refine sr_if_ne (q := 56) C 93 (show decode cX6_readStone 53 = .ok (.ifCond .ne 40, 3) from by decide +kernel) (by decide) rfl ?_ ?_
    · exact slX6_readStone_J93 C v0 x4 hv0
    · refine sr_aload_n (i := 0) (q := 57) C (show decode cX6_readStone 56 = .ok (.aload_n 0, 1) from by decide +kernel) rfl rfl rfl ?_
      refine sr_geti (q := 60) C fl_X6_54 (Or.inl rfl) hv0 (show decode cX6_readStone 57 = .ok (.getfield 54, 3) from by decide +kernel) rfl (fun x57 => ?_)
      refine sr_iconst (v := (2 : Int32)) (q := 61) C (show decode cX6_readStone 60 = .ok (.iconst 2, 1) from by decide +kernel) (by decide) rfl ?_
      refine sr_icmp_ne (q := 64) C 93 (show decode cX6_readStone 61 = .ok (.if_icmp .ne 32, 3) from by decide +kernel) (by decide) rfl ?_ ?_
      · exact slX6_readStone_J93 C v0 x4 hv0
      · refine sr_aload_n (i := 0) (q := 65) C (show decode cX6_readStone 64 = .ok (.aload_n 0, 1) from by decide +kernel) rfl rfl rfl ?_
        refine sr_getr (q := 68) C fl_X6_12 hv0 (show decode cX6_readStone 65 = .ok (.getfield 12, 3) from by decide +kernel) rfl ?_
        refine sr_aload_n (i := 0) (q := 69) C (show decode cX6_readStone 68 = .ok (.aload_n 0, 1) from by decide +kernel) rfl rfl rfl ?_
        refine sr_getr (q := 72) C fl_X6_12 hv0 (show decode cX6_readStone 69 = .ok (.getfield 12, 3) from by decide +kernel) rfl ?_
        refine sr_getr (q := 75) C fl_X6_107 (kt hv0 kp_6_0) (show decode cX6_readStone 72 = .ok (.getfield 107, 3) from by decide +kernel) rfl ?_
        refine sr_iload_n (i := 1) (q := 76) C (show decode cX6_readStone 75 = .ok (.iload_n 1, 1) from by decide +kernel) rfl rfl rfl ?_
        refine sr_iaload (q := 77) C (kt (kt hv0 kp_6_0) kp_7_8) (show decode cX6_readStone 76 = .ok (.iaload, 1) from by decide +kernel) rfl (fun x76 => ?_)
        refine sr_aload_n (i := 0) (q := 78) C (show decode cX6_readStone 77 = .ok (.aload_n 0, 1) from by decide +kernel) rfl rfl rfl ?_
        refine sr_geti (q := 81) C fl_X6_113 (Or.inl rfl) hv0 (show decode cX6_readStone 78 = .ok (.getfield 113, 3) from by decide +kernel) rfl (fun x78 => ?_)
        refine sr_cVi (As := [.int x76, .int x78]) (st := []) (b := lk v0 0) (q := 84) C yvX7_stoneAt ml_X6_116 (cnX7_stoneAt (xo κ) (lk v0 0) x76 x78 (kt hv0 kp_6_0)) (kt hv0 kp_6_0) (by decide) rfl rfl rfl (by decide) (by decide) (Nat.le_of_ble_eq_true rfl) rfl (show decode cX6_readStone 81 = .ok (.invokevirtual 116, 3) from by decide +kernel) rfl (fun x81 => ?_)
        refine sr_iconst (v := (-1 : Int32)) (q := 85) C (show decode cX6_readStone 84 = .ok (.iconst (-1), 1) from by decide +kernel) (by decide) rfl ?_
        refine sr_icmp_eq (q := 88) C 93 (show decode cX6_readStone 85 = .ok (.if_icmp .eq 8, 3) from by decide +kernel) (by decide) rfl ?_ ?_
        · exact slX6_readStone_J93 C v0 x4 hv0
        · refine sr_aload_n (i := 0) (q := 89) C (show decode cX6_readStone 88 = .ok (.aload_n 0, 1) from by decide +kernel) rfl rfl rfl ?_
          refine sr_iconst (v := (2 : Int32)) (q := 90) C (show decode cX6_readStone 89 = .ok (.iconst 2, 1) from by decide +kernel) (by decide) rfl ?_
          refine sr_cVv (As := [.int (2 : Int32)]) (st := []) (b := v0) (q := 93) C yvX6_refuse ml_X6_69 (cnX6_refuse (xo κ) v0 (2 : Int32) hv0) hv0 (by decide) rfl rfl rfl (by decide) (by decide) (Nat.le_of_ble_eq_true rfl) rfl (show decode cX6_readStone 90 = .ok (.invokevirtual 69, 3) from by decide +kernel) rfl (fun _ => ?_)
          exact slX6_readStone_J93 C v0 x4 hv0
  · refine sr_aload_n (i := 0) (q := 15) C (show decode cX6_readStone 14 = .ok (.aload_n 0, 1) from by decide +kernel) rfl rfl rfl ?_
    refine sr_iconst (v := (3 : Int32)) (q := 16) C (show decode cX6_readStone 15 = .ok (.iconst 3, 1) from by decide +kernel) (by decide) rfl ?_
    refine sr_cVv (As := [.int (3 : Int32)]) (st := []) (b := v0) (q := 19) C yvX6_refuse ml_X6_69 (cnX6_refuse (xo κ) v0 (3 : Int32) hv0) hv0 (by decide) rfl rfl rfl (by decide) (by decide) (Nat.le_of_ble_eq_true rfl) rfl (show decode cX6_readStone 16 = .ok (.invokevirtual 69, 3) from by decide +kernel) rfl (fun _ => ?_)
    exact sr_vreturn C _ rfl (show decode cX6_readStone 19 = .ok (.return_, 1) from by decide +kernel)
theorem cnX6_readStone (ω : sm_O) (v0 : Nat) (hv0 : kd v0 = 6) : sm_Mt 8 yX6_readStone cX6_readStone 2 none ω [.ref (ω.1 + v0)] (fun _ => none) (fnX6_readStone v0) := by
  refine sm_conV (by decide) (Nat.le_of_ble_eq_true rfl) ?_
  intro κ hκ C
  subst hκ
  exact slX6_readStone C v0 hv0
def fnX6_readWater (v0 : Nat) : sm_M Unit := m_bnd (fnX6_advance v0) fun _ => m_bnd (fnX6_readPair v0 1 (2 : Int32) (12 : Int32)) fun x14 => m_si (lk v0 0) 1 x14 <| m_bnd (fnX6_readPair v0 2 (1 : Int32) (20 : Int32)) fun x30 => m_si (lk v0 0) 2 x30 <| m_ret ()
set_option maxHeartbeats 4000000 in
set_option maxRecDepth 100000 in
theorem slX6_readWater {κ : sm_X} (C : sm_C κ RX6 cX6_readWater 1 8) (v0 : Nat) (hv0 : kd v0 = 6) : sm_S κ (fun _ : Unit => .inr none) (.inl (0, [some (xad κ v0)], [])) (fnX6_readWater v0) := by
  unfold fnX6_readWater
  refine sr_aload_n (i := 0) (q := 1) C (show decode cX6_readWater 0 = .ok (.aload_n 0, 1) from by decide +kernel) rfl rfl rfl ?_
  refine sr_cVv (As := []) (st := []) (b := v0) (q := 4) C yvX6_advance ml_X6_51 (cnX6_advance (xo κ) v0 hv0) hv0 (by decide) rfl rfl rfl (by decide) (by decide) (Nat.le_of_ble_eq_true rfl) rfl (show decode cX6_readWater 1 = .ok (.invokevirtual 51, 3) from by decide +kernel) rfl (fun _ => ?_)
  refine sr_aload_n (i := 0) (q := 5) C (show decode cX6_readWater 4 = .ok (.aload_n 0, 1) from by decide +kernel) rfl rfl rfl ?_
  refine sr_getr (q := 8) C fl_X6_12 hv0 (show decode cX6_readWater 5 = .ok (.getfield 12, 3) from by decide +kernel) rfl ?_
  refine sr_aload_n (i := 0) (q := 9) C (show decode cX6_readWater 8 = .ok (.aload_n 0, 1) from by decide +kernel) rfl rfl rfl ?_
  refine sr_ldcS (i := 1) (q := 11) C sc_X6_91 (show decode cX6_readWater 9 = .ok (.ldc 91, 2) from by decide +kernel) rfl ?_
  refine sr_iconst (v := (2 : Int32)) (q := 12) C (show decode cX6_readWater 11 = .ok (.iconst 2, 1) from by decide +kernel) (by decide) rfl ?_
  refine sr_bipush (v := (12 : Int32)) (q := 14) C (show decode cX6_readWater 12 = .ok (.bipush 12, 2) from by decide +kernel) (by decide) rfl ?_
  refine sr_cVi (As := [xst κ 1, .int (2 : Int32), .int (12 : Int32)]) (st := [xad κ (lk v0 0)]) (b := v0) (q := 17) C yvX6_readPair ml_X6_93 (cnX6_readPair (xo κ) v0 1 (2 : Int32) (12 : Int32) hv0 (by decide)) hv0 (by decide) rfl rfl rfl (by decide) (by decide) (Nat.le_of_ble_eq_true rfl) rfl (show decode cX6_readWater 14 = .ok (.invokevirtual 93, 3) from by decide +kernel) rfl (fun x14 => ?_)
  refine sr_puti (q := 20) C fp_X6_97 (kt hv0 kp_6_0) (show decode cX6_readWater 17 = .ok (.putfield 97, 3) from by decide +kernel) rfl ?_
  refine sr_aload_n (i := 0) (q := 21) C (show decode cX6_readWater 20 = .ok (.aload_n 0, 1) from by decide +kernel) rfl rfl rfl ?_
  refine sr_getr (q := 24) C fl_X6_12 hv0 (show decode cX6_readWater 21 = .ok (.getfield 12, 3) from by decide +kernel) rfl ?_
  refine sr_aload_n (i := 0) (q := 25) C (show decode cX6_readWater 24 = .ok (.aload_n 0, 1) from by decide +kernel) rfl rfl rfl ?_
  refine sr_ldcS (i := 2) (q := 27) C sc_X6_99 (show decode cX6_readWater 25 = .ok (.ldc 99, 2) from by decide +kernel) rfl ?_
  refine sr_iconst (v := (1 : Int32)) (q := 28) C (show decode cX6_readWater 27 = .ok (.iconst 1, 1) from by decide +kernel) (by decide) rfl ?_
  refine sr_bipush (v := (20 : Int32)) (q := 30) C (show decode cX6_readWater 28 = .ok (.bipush 20, 2) from by decide +kernel) (by decide) rfl ?_
  refine sr_cVi (As := [xst κ 2, .int (1 : Int32), .int (20 : Int32)]) (st := [xad κ (lk v0 0)]) (b := v0) (q := 33) C yvX6_readPair ml_X6_93 (cnX6_readPair (xo κ) v0 2 (1 : Int32) (20 : Int32) hv0 (by decide)) hv0 (by decide) rfl rfl rfl (by decide) (by decide) (Nat.le_of_ble_eq_true rfl) rfl (show decode cX6_readWater 30 = .ok (.invokevirtual 93, 3) from by decide +kernel) rfl (fun x30 => ?_)
  refine sr_puti (q := 36) C fp_X6_101 (kt hv0 kp_6_0) (show decode cX6_readWater 33 = .ok (.putfield 101, 3) from by decide +kernel) rfl ?_
  exact sr_vreturn C _ rfl (show decode cX6_readWater 36 = .ok (.return_, 1) from by decide +kernel)
theorem cnX6_readWater (ω : sm_O) (v0 : Nat) (hv0 : kd v0 = 6) : sm_Mt 8 yX6_readWater cX6_readWater 1 none ω [.ref (ω.1 + v0)] (fun _ => none) (fnX6_readWater v0) := by
  refine sm_conV (by decide) (Nat.le_of_ble_eq_true rfl) ?_
  intro κ hκ C
  subst hκ
  exact slX6_readWater C v0 hv0
def fnX6_readLine_J118 (v0 : Nat) : sm_M Unit := m_gi v0 1 fun x119 => m_br (x119 = 0)
    (m_bnd (fnX6_advance v0) fun _ => m_gi (lk v0 0) 0 fun x134 => m_si (lk v0 0) 0 (x134 + (1 : Int32)) <| m_ret ())
    (m_ret ())
set_option maxHeartbeats 4000000 in
set_option maxRecDepth 100000 in
theorem slX6_readLine_J118 {κ : sm_X} (C : sm_C κ RX6 cX6_readLine 2 9) (v0 : Nat) (hv0 : kd v0 = 6) : sm_S κ (fun _ : Unit => .inr none) (.inl (118, [some (xad κ v0), none], [])) (fnX6_readLine_J118 v0) := by
  unfold fnX6_readLine_J118
  refine sr_aload_n (i := 0) (q := 119) C (show decode cX6_readLine 118 = .ok (.aload_n 0, 1) from by decide +kernel) rfl rfl rfl ?_
  refine sr_geti (q := 122) C fl_X6_35 (Or.inl rfl) hv0 (show decode cX6_readLine 119 = .ok (.getfield 35, 3) from by decide +kernel) rfl (fun x119 => ?_)
  refine sr_if_ne (q := 125) C 142 (show decode cX6_readLine 122 = .ok (.ifCond .ne 20, 3) from by decide +kernel) (by decide) rfl ?_ ?_
  · exact sr_vreturn C _ rfl (show decode cX6_readLine 142 = .ok (.return_, 1) from by decide +kernel)
  · refine sr_aload_n (i := 0) (q := 126) C (show decode cX6_readLine 125 = .ok (.aload_n 0, 1) from by decide +kernel) rfl rfl rfl ?_
    refine sr_cVv (As := []) (st := []) (b := v0) (q := 129) C yvX6_advance ml_X6_51 (cnX6_advance (xo κ) v0 hv0) hv0 (by decide) rfl rfl rfl (by decide) (by decide) (Nat.le_of_ble_eq_true rfl) rfl (show decode cX6_readLine 126 = .ok (.invokevirtual 51, 3) from by decide +kernel) rfl (fun _ => ?_)
    refine sr_aload_n (i := 0) (q := 130) C (show decode cX6_readLine 129 = .ok (.aload_n 0, 1) from by decide +kernel) rfl rfl rfl ?_
    refine sr_getr (q := 133) C fl_X6_12 hv0 (show decode cX6_readLine 130 = .ok (.getfield 12, 3) from by decide +kernel) rfl ?_
    refine sr_dup (q := 134) C (show decode cX6_readLine 133 = .ok (.dup, 1) from by decide +kernel) rfl rfl ?_
    refine sr_geti (q := 137) C fl_X6_60 (Or.inl rfl) (kt hv0 kp_6_0) (show decode cX6_readLine 134 = .ok (.getfield 60, 3) from by decide +kernel) rfl (fun x134 => ?_)
    refine sr_iconst (v := (1 : Int32)) (q := 138) C (show decode cX6_readLine 137 = .ok (.iconst 1, 1) from by decide +kernel) (by decide) rfl ?_
    refine sr_iadd (q := 139) C (show decode cX6_readLine 138 = .ok (.iadd, 1) from by decide +kernel) rfl ?_
    refine sr_puti (q := 142) C fp_X6_60 (kt hv0 kp_6_0) (show decode cX6_readLine 139 = .ok (.putfield 60, 3) from by decide +kernel) rfl ?_
    exact sr_vreturn C _ rfl (show decode cX6_readLine 142 = .ok (.return_, 1) from by decide +kernel)
def fnX6_readLine_J98 (v0 : Nat) : sm_M Unit := m_gi v0 1 fun x99 => m_br (x99 = 0)
    (m_gi v0 7 fun x106 => m_br (x106 = (3 : Int32))
    (fnX6_readLine_J118 v0)
    (m_bnd (fnX6_refuse v0 (1 : Int32)) fun _ => fnX6_readLine_J118 v0))
    (fnX6_readLine_J118 v0)
set_option maxHeartbeats 4000000 in
set_option maxRecDepth 100000 in
theorem slX6_readLine_J98 {κ : sm_X} (C : sm_C κ RX6 cX6_readLine 2 9) (v0 : Nat) (hv0 : kd v0 = 6) : sm_S κ (fun _ : Unit => .inr none) (.inl (98, [some (xad κ v0), none], [])) (fnX6_readLine_J98 v0) := by
  unfold fnX6_readLine_J98
  refine sr_aload_n (i := 0) (q := 99) C (show decode cX6_readLine 98 = .ok (.aload_n 0, 1) from by decide +kernel) rfl rfl rfl ?_
  refine sr_geti (q := 102) C fl_X6_35 (Or.inl rfl) hv0 (show decode cX6_readLine 99 = .ok (.getfield 35, 3) from by decide +kernel) rfl (fun x99 => ?_)
  refine sr_if_ne (q := 105) C 118 (show decode cX6_readLine 102 = .ok (.ifCond .ne 16, 3) from by decide +kernel) (by decide) rfl ?_ ?_
  · exact slX6_readLine_J118 C v0 hv0
  · refine sr_aload_n (i := 0) (q := 106) C (show decode cX6_readLine 105 = .ok (.aload_n 0, 1) from by decide +kernel) rfl rfl rfl ?_
    refine sr_geti (q := 109) C fl_X6_54 (Or.inl rfl) hv0 (show decode cX6_readLine 106 = .ok (.getfield 54, 3) from by decide +kernel) rfl (fun x106 => ?_)
    refine sr_iconst (v := (3 : Int32)) (q := 110) C (show decode cX6_readLine 109 = .ok (.iconst 3, 1) from by decide +kernel) (by decide) rfl ?_
    refine sr_icmp_eq (q := 113) C 118 (show decode cX6_readLine 110 = .ok (.if_icmp .eq 8, 3) from by decide +kernel) (by decide) rfl ?_ ?_
    · exact slX6_readLine_J118 C v0 hv0
    · refine sr_aload_n (i := 0) (q := 114) C (show decode cX6_readLine 113 = .ok (.aload_n 0, 1) from by decide +kernel) rfl rfl rfl ?_
      refine sr_iconst (v := (1 : Int32)) (q := 115) C (show decode cX6_readLine 114 = .ok (.iconst 1, 1) from by decide +kernel) (by decide) rfl ?_
      refine sr_cVv (As := [.int (1 : Int32)]) (st := []) (b := v0) (q := 118) C yvX6_refuse ml_X6_69 (cnX6_refuse (xo κ) v0 (1 : Int32) hv0) hv0 (by decide) rfl rfl rfl (by decide) (by decide) (Nat.le_of_ble_eq_true rfl) rfl (show decode cX6_readLine 115 = .ok (.invokevirtual 69, 3) from by decide +kernel) rfl (fun _ => ?_)
      exact slX6_readLine_J118 C v0 hv0
def fnX6_readLine_J15 (v0 : Nat) (s0 : Int32) : sm_M Unit := m_bnd (fnX6_isWord v0 0) fun x20 => m_br (s0 = (bI x20))
    (m_br (s0 = 0)
    (m_bnd (fnX6_isWord v0 3) fun x48 => m_br ((bI x48) = 0)
    (m_bnd (fnX6_isWord v0 8) fun x64 => m_br ((bI x64) = 0)
    (m_bnd (fnX6_isWord v0 15) fun x80 => m_br ((bI x80) = 0)
    (m_bnd (fnX6_refuse v0 (1 : Int32)) fun _ => fnX6_readLine_J98 v0)
    (m_bnd (fnX6_readPlank v0) fun _ => fnX6_readLine_J98 v0))
    (m_bnd (fnX6_readPerson v0) fun _ => fnX6_readLine_J98 v0))
    (m_bnd (fnX6_readStone v0) fun _ => fnX6_readLine_J98 v0))
    (m_bnd (fnX6_readWater v0) fun _ => fnX6_readLine_J98 v0))
    (m_bnd (fnX6_refuse v0 (1 : Int32)) fun _ => fnX6_readLine_J98 v0)
set_option maxHeartbeats 4000000 in
set_option maxRecDepth 100000 in
theorem slX6_readLine_J15 {κ : sm_X} (C : sm_C κ RX6 cX6_readLine 2 9) (v0 : Nat) (s0 : Int32) (hv0 : kd v0 = 6) : sm_S κ (fun _ : Unit => .inr none) (.inl (15, [some (xad κ v0), none], [.int s0])) (fnX6_readLine_J15 v0 s0) := by
  unfold fnX6_readLine_J15
  refine sr_istore_n (i := 1) (L' := [some (xad κ v0), some (.int s0)]) (q := 16) C (show decode cX6_readLine 15 = .ok (.istore_n 1, 1) from by decide +kernel) rfl (by decide) rfl rfl ?_
  refine sr_iload_n (i := 1) (q := 17) C (show decode cX6_readLine 16 = .ok (.iload_n 1, 1) from by decide +kernel) rfl rfl rfl ?_
  refine sr_aload_n (i := 0) (q := 18) C (show decode cX6_readLine 17 = .ok (.aload_n 0, 1) from by decide +kernel) rfl rfl rfl ?_
  refine sr_ldcS (i := 0) (q := 20) C sc_X6_63 (show decode cX6_readLine 18 = .ok (.ldc 63, 2) from by decide +kernel) rfl ?_
  refine sr_cVz (As := [xst κ 0]) (st := [.int s0]) (b := v0) (q := 23) C yvX6_isWord ml_X6_65 (cnX6_isWord (xo κ) v0 0 hv0 (by decide)) hv0 (by decide) rfl rfl rfl (by decide) (by decide) (Nat.le_of_ble_eq_true rfl) rfl (show decode cX6_readLine 20 = .ok (.invokevirtual 65, 3) from by decide +kernel) rfl (fun x20 => ?_)
  refine sr_icmp_eq (q := 26) C 34 (show decode cX6_readLine 23 = .ok (.if_icmp .eq 11, 3) from by decide +kernel) (by decide) rfl ?_ ?_
  · refine sr_iload_n (i := 1) (q := 35) C (show decode cX6_readLine 34 = .ok (.iload_n 1, 1) from by decide +kernel) rfl rfl rfl ?_
    refine sr_if_eq (q := 38) C 45 (show decode cX6_readLine 35 = .ok (.ifCond .eq 10, 3) from by decide +kernel) (by decide) rfl ?_ ?_
    · refine sr_aload_n (i := 0) (q := 46) C (show decode cX6_readLine 45 = .ok (.aload_n 0, 1) from by decide +kernel) rfl rfl rfl ?_
      refine sr_ldcS (i := 3) (q := 48) C sc_X6_76 (show decode cX6_readLine 46 = .ok (.ldc 76, 2) from by decide +kernel) rfl ?_
      refine sr_cVz (As := [xst κ 3]) (st := []) (b := v0) (q := 51) C yvX6_isWord ml_X6_65 (cnX6_isWord (xo κ) v0 3 hv0 (by decide)) hv0 (by decide) rfl rfl rfl (by decide) (by decide) (Nat.le_of_ble_eq_true rfl) rfl (show decode cX6_readLine 48 = .ok (.invokevirtual 65, 3) from by decide +kernel) rfl (fun x48 => ?_)
      refine sr_if_eq (q := 54) C 61 (show decode cX6_readLine 51 = .ok (.ifCond .eq 10, 3) from by decide +kernel) (by decide) rfl ?_ ?_
      · refine sr_aload_n (i := 0) (q := 62) C (show decode cX6_readLine 61 = .ok (.aload_n 0, 1) from by decide +kernel) rfl rfl rfl ?_
        refine sr_ldcS (i := 8) (q := 64) C sc_X6_81 (show decode cX6_readLine 62 = .ok (.ldc 81, 2) from by decide +kernel) rfl ?_
        refine sr_cVz (As := [xst κ 8]) (st := []) (b := v0) (q := 67) C yvX6_isWord ml_X6_65 (cnX6_isWord (xo κ) v0 8 hv0 (by decide)) hv0 (by decide) rfl rfl rfl (by decide) (by decide) (Nat.le_of_ble_eq_true rfl) rfl (show decode cX6_readLine 64 = .ok (.invokevirtual 65, 3) from by decide +kernel) rfl (fun x64 => ?_)
        refine sr_if_eq (q := 70) C 77 (show decode cX6_readLine 67 = .ok (.ifCond .eq 10, 3) from by decide +kernel) (by decide) rfl ?_ ?_
        · refine sr_aload_n (i := 0) (q := 78) C (show decode cX6_readLine 77 = .ok (.aload_n 0, 1) from by decide +kernel) rfl rfl rfl ?_
          refine sr_ldcS (i := 15) (q := 80) C sc_X6_86 (show decode cX6_readLine 78 = .ok (.ldc 86, 2) from by decide +kernel) rfl ?_
          refine sr_cVz (As := [xst κ 15]) (st := []) (b := v0) (q := 83) C yvX6_isWord ml_X6_65 (cnX6_isWord (xo κ) v0 15 hv0 (by decide)) hv0 (by decide) rfl rfl rfl (by decide) (by decide) (Nat.le_of_ble_eq_true rfl) rfl (show decode cX6_readLine 80 = .ok (.invokevirtual 65, 3) from by decide +kernel) rfl (fun x80 => ?_)
          refine sr_if_eq (q := 86) C 93 (show decode cX6_readLine 83 = .ok (.ifCond .eq 10, 3) from by decide +kernel) (by decide) rfl ?_ ?_
          · refine sr_aload_n (i := 0) (q := 94) C (show decode cX6_readLine 93 = .ok (.aload_n 0, 1) from by decide +kernel) rfl rfl rfl ?_
            refine sr_iconst (v := (1 : Int32)) (q := 95) C (show decode cX6_readLine 94 = .ok (.iconst 1, 1) from by decide +kernel) (by decide) rfl ?_
            refine sr_cVv (As := [.int (1 : Int32)]) (st := []) (b := v0) (q := 98) C yvX6_refuse ml_X6_69 (cnX6_refuse (xo κ) v0 (1 : Int32) hv0) hv0 (by decide) rfl rfl rfl (by decide) (by decide) (Nat.le_of_ble_eq_true rfl) rfl (show decode cX6_readLine 95 = .ok (.invokevirtual 69, 3) from by decide +kernel) rfl (fun _ => ?_)
            refine sr_weak (L' := [some (xad κ v0), none]) ⟨rfl, trivial⟩ ?_
            exact slX6_readLine_J98 C v0 hv0
          · refine sr_aload_n (i := 0) (q := 87) C (show decode cX6_readLine 86 = .ok (.aload_n 0, 1) from by decide +kernel) rfl rfl rfl ?_
            refine sr_cVv (As := []) (st := []) (b := v0) (q := 90) C yvX6_readPlank ml_X6_88 (cnX6_readPlank (xo κ) v0 hv0) hv0 (by decide) rfl rfl rfl (by decide) (by decide) (Nat.le_of_ble_eq_true rfl) rfl (show decode cX6_readLine 87 = .ok (.invokevirtual 88, 3) from by decide +kernel) rfl (fun _ => ?_)
            refine sr_goto (q := 98) C (show decode cX6_readLine 90 = .ok (.goto 8, 3) from by decide +kernel) (by decide) ?_
            refine sr_weak (L' := [some (xad κ v0), none]) ⟨rfl, trivial⟩ ?_
            exact slX6_readLine_J98 C v0 hv0
        · refine sr_aload_n (i := 0) (q := 71) C (show decode cX6_readLine 70 = .ok (.aload_n 0, 1) from by decide +kernel) rfl rfl rfl ?_
          refine sr_cVv (As := []) (st := []) (b := v0) (q := 74) C yvX6_readPerson ml_X6_83 (cnX6_readPerson (xo κ) v0 hv0) hv0 (by decide) rfl rfl rfl (by decide) (by decide) (Nat.le_of_ble_eq_true rfl) rfl (show decode cX6_readLine 71 = .ok (.invokevirtual 83, 3) from by decide +kernel) rfl (fun _ => ?_)
          refine sr_goto (q := 98) C (show decode cX6_readLine 74 = .ok (.goto 24, 3) from by decide +kernel) (by decide) ?_
          refine sr_weak (L' := [some (xad κ v0), none]) ⟨rfl, trivial⟩ ?_
          exact slX6_readLine_J98 C v0 hv0
      · refine sr_aload_n (i := 0) (q := 55) C (show decode cX6_readLine 54 = .ok (.aload_n 0, 1) from by decide +kernel) rfl rfl rfl ?_
        refine sr_cVv (As := []) (st := []) (b := v0) (q := 58) C yvX6_readStone ml_X6_78 (cnX6_readStone (xo κ) v0 hv0) hv0 (by decide) rfl rfl rfl (by decide) (by decide) (Nat.le_of_ble_eq_true rfl) rfl (show decode cX6_readLine 55 = .ok (.invokevirtual 78, 3) from by decide +kernel) rfl (fun _ => ?_)
        refine sr_goto (q := 98) C (show decode cX6_readLine 58 = .ok (.goto 40, 3) from by decide +kernel) (by decide) ?_
        refine sr_weak (L' := [some (xad κ v0), none]) ⟨rfl, trivial⟩ ?_
        exact slX6_readLine_J98 C v0 hv0
    · refine sr_aload_n (i := 0) (q := 39) C (show decode cX6_readLine 38 = .ok (.aload_n 0, 1) from by decide +kernel) rfl rfl rfl ?_
      refine sr_cVv (As := []) (st := []) (b := v0) (q := 42) C yvX6_readWater ml_X6_73 (cnX6_readWater (xo κ) v0 hv0) hv0 (by decide) rfl rfl rfl (by decide) (by decide) (Nat.le_of_ble_eq_true rfl) rfl (show decode cX6_readLine 39 = .ok (.invokevirtual 73, 3) from by decide +kernel) rfl (fun _ => ?_)
      refine sr_goto (q := 98) C (show decode cX6_readLine 42 = .ok (.goto 56, 3) from by decide +kernel) (by decide) ?_
      refine sr_weak (L' := [some (xad κ v0), none]) ⟨rfl, trivial⟩ ?_
      exact slX6_readLine_J98 C v0 hv0
  · refine sr_aload_n (i := 0) (q := 27) C (show decode cX6_readLine 26 = .ok (.aload_n 0, 1) from by decide +kernel) rfl rfl rfl ?_
    refine sr_iconst (v := (1 : Int32)) (q := 28) C (show decode cX6_readLine 27 = .ok (.iconst 1, 1) from by decide +kernel) (by decide) rfl ?_
    refine sr_cVv (As := [.int (1 : Int32)]) (st := []) (b := v0) (q := 31) C yvX6_refuse ml_X6_69 (cnX6_refuse (xo κ) v0 (1 : Int32) hv0) hv0 (by decide) rfl rfl rfl (by decide) (by decide) (Nat.le_of_ble_eq_true rfl) rfl (show decode cX6_readLine 28 = .ok (.invokevirtual 69, 3) from by decide +kernel) rfl (fun _ => ?_)
    refine sr_goto (q := 98) C (show decode cX6_readLine 31 = .ok (.goto 67, 3) from by decide +kernel) (by decide) ?_
    refine sr_weak (L' := [some (xad κ v0), none]) ⟨rfl, trivial⟩ ?_
    exact slX6_readLine_J98 C v0 hv0
def fnX6_readLine (v0 : Nat) : sm_M Unit := m_gi (lk v0 0) 0 fun x4 => m_br (x4 = 0)
    (fnX6_readLine_J15 v0 (1 : Int32))
    (fnX6_readLine_J15 v0 (0 : Int32))
set_option maxHeartbeats 4000000 in
set_option maxRecDepth 100000 in
theorem slX6_readLine {κ : sm_X} (C : sm_C κ RX6 cX6_readLine 2 9) (v0 : Nat) (hv0 : kd v0 = 6) : sm_S κ (fun _ : Unit => .inr none) (.inl (0, [some (xad κ v0), none], [])) (fnX6_readLine v0) := by
  unfold fnX6_readLine
  refine sr_aload_n (i := 0) (q := 1) C (show decode cX6_readLine 0 = .ok (.aload_n 0, 1) from by decide +kernel) rfl rfl rfl ?_
  refine sr_getr (q := 4) C fl_X6_12 hv0 (show decode cX6_readLine 1 = .ok (.getfield 12, 3) from by decide +kernel) rfl ?_
  refine sr_geti (q := 7) C fl_X6_60 (Or.inl rfl) (kt hv0 kp_6_0) (show decode cX6_readLine 4 = .ok (.getfield 60, 3) from by decide +kernel) rfl (fun x4 => ?_)
  refine sr_if_ne (q := 10) C 14 (show decode cX6_readLine 7 = .ok (.ifCond .ne 7, 3) from by decide +kernel) (by decide) rfl ?_ ?_
  · refine sr_iconst (v := (0 : Int32)) (q := 15) C (show decode cX6_readLine 14 = .ok (.iconst 0, 1) from by decide +kernel) (by decide) rfl ?_
    exact slX6_readLine_J15 C v0 (0 : Int32) hv0
  · refine sr_iconst (v := (1 : Int32)) (q := 11) C (show decode cX6_readLine 10 = .ok (.iconst 1, 1) from by decide +kernel) (by decide) rfl ?_
    refine sr_goto (q := 15) C (show decode cX6_readLine 11 = .ok (.goto 4, 3) from by decide +kernel) (by decide) ?_
    exact slX6_readLine_J15 C v0 (1 : Int32) hv0
theorem cnX6_readLine (ω : sm_O) (v0 : Nat) (hv0 : kd v0 = 6) : sm_Mt 9 yX6_readLine cX6_readLine 2 none ω [.ref (ω.1 + v0)] (fun _ => none) (fnX6_readLine v0) := by
  refine sm_conV (by decide) (Nat.le_of_ble_eq_true rfl) ?_
  intro κ hκ C
  subst hκ
  exact slX6_readLine C v0 hv0
def fnX7_clear (v0 : Nat) : sm_M Unit := m_si v0 0 (0 : Int32) <| m_si v0 1 (0 : Int32) <| m_si v0 2 (0 : Int32) <| m_si v0 3 (0 : Int32) <| m_si v0 4 (0 : Int32) <| m_si v0 5 (0 : Int32) <| m_si v0 6 (0 : Int32) <| m_si v0 7 (0 : Int32) <| m_ret ()
set_option maxHeartbeats 4000000 in
set_option maxRecDepth 100000 in
theorem slX7_clear {κ : sm_X} (C : sm_C κ RX7 cX7_clear 1 1) (v0 : Nat) (hv0 : kd v0 = 7) : sm_S κ (fun _ : Unit => .inr none) (.inl (0, [some (xad κ v0)], [])) (fnX7_clear v0) := by
  unfold fnX7_clear
  refine sr_aload_n (i := 0) (q := 1) C (show decode cX7_clear 0 = .ok (.aload_n 0, 1) from by decide +kernel) rfl rfl rfl ?_
  refine sr_iconst (v := (0 : Int32)) (q := 2) C (show decode cX7_clear 1 = .ok (.iconst 0, 1) from by decide +kernel) (by decide) rfl ?_
  refine sr_puti (q := 5) C fp_X7_39 hv0 (show decode cX7_clear 2 = .ok (.putfield 39, 3) from by decide +kernel) rfl ?_
  refine sr_aload_n (i := 0) (q := 6) C (show decode cX7_clear 5 = .ok (.aload_n 0, 1) from by decide +kernel) rfl rfl rfl ?_
  refine sr_iconst (v := (0 : Int32)) (q := 7) C (show decode cX7_clear 6 = .ok (.iconst 0, 1) from by decide +kernel) (by decide) rfl ?_
  refine sr_puti (q := 10) C fp_X7_43 hv0 (show decode cX7_clear 7 = .ok (.putfield 43, 3) from by decide +kernel) rfl ?_
  refine sr_aload_n (i := 0) (q := 11) C (show decode cX7_clear 10 = .ok (.aload_n 0, 1) from by decide +kernel) rfl rfl rfl ?_
  refine sr_iconst (v := (0 : Int32)) (q := 12) C (show decode cX7_clear 11 = .ok (.iconst 0, 1) from by decide +kernel) (by decide) rfl ?_
  refine sr_puti (q := 15) C fp_X7_46 hv0 (show decode cX7_clear 12 = .ok (.putfield 46, 3) from by decide +kernel) rfl ?_
  refine sr_aload_n (i := 0) (q := 16) C (show decode cX7_clear 15 = .ok (.aload_n 0, 1) from by decide +kernel) rfl rfl rfl ?_
  refine sr_iconst (v := (0 : Int32)) (q := 17) C (show decode cX7_clear 16 = .ok (.iconst 0, 1) from by decide +kernel) (by decide) rfl ?_
  refine sr_puti (q := 20) C fp_X7_49 hv0 (show decode cX7_clear 17 = .ok (.putfield 49, 3) from by decide +kernel) rfl ?_
  refine sr_aload_n (i := 0) (q := 21) C (show decode cX7_clear 20 = .ok (.aload_n 0, 1) from by decide +kernel) rfl rfl rfl ?_
  refine sr_iconst (v := (0 : Int32)) (q := 22) C (show decode cX7_clear 21 = .ok (.iconst 0, 1) from by decide +kernel) (by decide) rfl ?_
  refine sr_puti (q := 25) C fp_X7_52 hv0 (show decode cX7_clear 22 = .ok (.putfield 52, 3) from by decide +kernel) rfl ?_
  refine sr_aload_n (i := 0) (q := 26) C (show decode cX7_clear 25 = .ok (.aload_n 0, 1) from by decide +kernel) rfl rfl rfl ?_
  refine sr_iconst (v := (0 : Int32)) (q := 27) C (show decode cX7_clear 26 = .ok (.iconst 0, 1) from by decide +kernel) (by decide) rfl ?_
  refine sr_puti (q := 30) C fp_X7_55 hv0 (show decode cX7_clear 27 = .ok (.putfield 55, 3) from by decide +kernel) rfl ?_
  refine sr_aload_n (i := 0) (q := 31) C (show decode cX7_clear 30 = .ok (.aload_n 0, 1) from by decide +kernel) rfl rfl rfl ?_
  refine sr_iconst (v := (0 : Int32)) (q := 32) C (show decode cX7_clear 31 = .ok (.iconst 0, 1) from by decide +kernel) (by decide) rfl ?_
  refine sr_puti (q := 35) C fp_X7_58 hv0 (show decode cX7_clear 32 = .ok (.putfield 58, 3) from by decide +kernel) rfl ?_
  refine sr_aload_n (i := 0) (q := 36) C (show decode cX7_clear 35 = .ok (.aload_n 0, 1) from by decide +kernel) rfl rfl rfl ?_
  refine sr_iconst (v := (0 : Int32)) (q := 37) C (show decode cX7_clear 36 = .ok (.iconst 0, 1) from by decide +kernel) (by decide) rfl ?_
  refine sr_puti (q := 40) C fp_X7_61 hv0 (show decode cX7_clear 37 = .ok (.putfield 61, 3) from by decide +kernel) rfl ?_
  exact sr_vreturn C _ rfl (show decode cX7_clear 40 = .ok (.return_, 1) from by decide +kernel)
theorem cnX7_clear (ω : sm_O) (v0 : Nat) (hv0 : kd v0 = 7) : sm_Mt 1 yX7_clear cX7_clear 1 none ω [.ref (ω.1 + v0)] (fun _ => none) (fnX7_clear v0) := by
  refine sm_conV (by decide) (Nat.le_of_ble_eq_true rfl) ?_
  intro κ hκ C
  subst hκ
  exact slX7_clear C v0 hv0
def fnX6_readAll_L53 : Nat → Nat → Int32 → sm_M Unit
  | 0, _, _ => m_fail
  | n + 1, v0, v3 => m_br ((1600 : Int32) ≤ v3)
    (m_ret ())
    (m_gi v0 1 fun x61 => m_br (x61 = 0)
    (m_gi v0 7 fun x68 => m_br (x68 = 0)
    (m_ret ())
    (m_bnd (fnX6_readLine v0) fun _ => (fnX6_readAll_L53 n) v0 (v3 + (1 : Int32))))
    (m_ret ()))
set_option maxHeartbeats 4000000 in
set_option maxRecDepth 100000 in
theorem slX6_readAll_L53 {κ : sm_X} (C : sm_C κ RX6 cX6_readAll 4 10) : ∀ (n : Nat) (v0 : Nat) (v3 : Int32) (hv0 : kd v0 = 6), sm_S κ (fun _ : Unit => .inr none) (.inl (53, [some (xad κ v0), none, none, some (.int v3)], [])) (fnX6_readAll_L53 n v0 v3) := by
  intro n
  induction n with
  | zero =>
    intros
    exact sr_fail
  | succ n K53 =>
    intro v0 v3 hv0
    unfold fnX6_readAll_L53
    refine sr_iload_n (i := 3) (q := 54) C (show decode cX6_readAll 53 = .ok (.iload_n 3, 1) from by decide +kernel) rfl rfl rfl ?_
    refine sr_sipush (v := (1600 : Int32)) (q := 57) C (show decode cX6_readAll 54 = .ok (.sipush 1600, 3) from by decide +kernel) (by decide) rfl ?_
    refine sr_icmp_ge (q := 60) C 84 (show decode cX6_readAll 57 = .ok (.if_icmp .ge 27, 3) from by decide +kernel) (by decide) rfl ?_ ?_
    · exact sr_vreturn C _ rfl (show decode cX6_readAll 84 = .ok (.return_, 1) from by decide +kernel)
    · refine sr_aload_n (i := 0) (q := 61) C (show decode cX6_readAll 60 = .ok (.aload_n 0, 1) from by decide +kernel) rfl rfl rfl ?_
      refine sr_geti (q := 64) C fl_X6_35 (Or.inl rfl) hv0 (show decode cX6_readAll 61 = .ok (.getfield 35, 3) from by decide +kernel) rfl (fun x61 => ?_)
      refine sr_if_ne (q := 67) C 84 (show decode cX6_readAll 64 = .ok (.ifCond .ne 20, 3) from by decide +kernel) (by decide) rfl ?_ ?_
      · exact sr_vreturn C _ rfl (show decode cX6_readAll 84 = .ok (.return_, 1) from by decide +kernel)
      · refine sr_aload_n (i := 0) (q := 68) C (show decode cX6_readAll 67 = .ok (.aload_n 0, 1) from by decide +kernel) rfl rfl rfl ?_
        refine sr_geti (q := 71) C fl_X6_54 (Or.inl rfl) hv0 (show decode cX6_readAll 68 = .ok (.getfield 54, 3) from by decide +kernel) rfl (fun x68 => ?_)
        refine sr_if_eq (q := 74) C 84 (show decode cX6_readAll 71 = .ok (.ifCond .eq 13, 3) from by decide +kernel) (by decide) rfl ?_ ?_
        · exact sr_vreturn C _ rfl (show decode cX6_readAll 84 = .ok (.return_, 1) from by decide +kernel)
        · refine sr_aload_n (i := 0) (q := 75) C (show decode cX6_readAll 74 = .ok (.aload_n 0, 1) from by decide +kernel) rfl rfl rfl ?_
          refine sr_cVv (As := []) (st := []) (b := v0) (q := 78) C yvX6_readLine ml_X6_57 (cnX6_readLine (xo κ) v0 hv0) hv0 (by decide) rfl rfl rfl (by decide) (by decide) (Nat.le_of_ble_eq_true rfl) rfl (show decode cX6_readAll 75 = .ok (.invokevirtual 57, 3) from by decide +kernel) rfl (fun _ => ?_)
          refine sr_iinc (v := v3 + (1 : Int32)) (L' := [some (xad κ v0), none, none, some (.int (v3 + (1 : Int32)))]) (q := 81) C (show decode cX6_readAll 78 = .ok (.iinc 3 1, 3) from by decide +kernel) rfl rfl (by decide) rfl rfl ?_
          refine sr_goto (q := 53) C (show decode cX6_readAll 81 = .ok (.goto (-28), 3) from by decide +kernel) (by decide) ?_
          exact K53 v0 (v3 + (1 : Int32)) hv0
def fnX6_readAll (v0 : Nat) (v1 : Nat) (v2 : Int32) : sm_M Unit := m_st v1 <| m_si v0 4 (jmin v2 (nI (ln v1))) <| m_bnd (fnX7_clear (lk v0 0)) fun _ => m_si v0 1 (0 : Int32) <| m_si v0 2 (-1 : Int32) <| m_si v0 6 (0 : Int32) <| m_si v0 9 (0 : Int32) <| m_si v0 10 (0 : Int32) <| m_bnd (fnX6_advance v0) fun _ => fnX6_readAll_L53 4096 v0 (0 : Int32)
set_option maxHeartbeats 4000000 in
set_option maxRecDepth 100000 in
theorem slX6_readAll {κ : sm_X} (C : sm_C κ RX6 cX6_readAll 4 10) (v0 : Nat) (v1 : Nat) (v2 : Int32) (hv0 : kd v0 = 6) (hv1 : kd v1 = 21) : sm_S κ (fun _ : Unit => .inr none) (.inl (0, [some (xad κ v0), some (xad κ v1), some (.int v2), none], [])) (fnX6_readAll v0 v1 v2) := by
  unfold fnX6_readAll
  refine sr_aload_n (i := 0) (q := 1) C (show decode cX6_readAll 0 = .ok (.aload_n 0, 1) from by decide +kernel) rfl rfl rfl ?_
  refine sr_aload_n (i := 1) (q := 2) C (show decode cX6_readAll 1 = .ok (.aload_n 1, 1) from by decide +kernel) rfl rfl rfl ?_
  refine sr_putt (q := 5) C fp_X6_18 hv0 (show decode cX6_readAll 2 = .ok (.putfield 18, 3) from by decide +kernel) rfl ?_
  refine sr_aload_n (i := 0) (q := 6) C (show decode cX6_readAll 5 = .ok (.aload_n 0, 1) from by decide +kernel) rfl rfl rfl ?_
  refine sr_iload_n (i := 2) (q := 7) C (show decode cX6_readAll 6 = .ok (.iload_n 2, 1) from by decide +kernel) rfl rfl rfl ?_
  refine sr_aload_n (i := 1) (q := 8) C (show decode cX6_readAll 7 = .ok (.aload_n 1, 1) from by decide +kernel) rfl rfl rfl ?_
  refine sr_alen (q := 9) C hv1 (Or.inr rfl) (show decode cX6_readAll 8 = .ok (.arraylength, 1) from by decide +kernel) rfl ?_
  refine sr_jmin (st := [xad κ v0]) (q := 12) C ml_X6_22 (by decide) (Nat.le_of_ble_eq_true rfl) (show decode cX6_readAll 9 = .ok (.invokestatic 22, 3) from by decide +kernel) rfl ?_
  refine sr_puti (q := 15) C fp_X6_28 hv0 (show decode cX6_readAll 12 = .ok (.putfield 28, 3) from by decide +kernel) rfl ?_
  refine sr_aload_n (i := 0) (q := 16) C (show decode cX6_readAll 15 = .ok (.aload_n 0, 1) from by decide +kernel) rfl rfl rfl ?_
  refine sr_getr (q := 19) C fl_X6_12 hv0 (show decode cX6_readAll 16 = .ok (.getfield 12, 3) from by decide +kernel) rfl ?_
  refine sr_cVv (As := []) (st := []) (b := lk v0 0) (q := 22) C yvX7_clear ml_X6_32 (cnX7_clear (xo κ) (lk v0 0) (kt hv0 kp_6_0)) (kt hv0 kp_6_0) (by decide) rfl rfl rfl (by decide) (by decide) (Nat.le_of_ble_eq_true rfl) rfl (show decode cX6_readAll 19 = .ok (.invokevirtual 32, 3) from by decide +kernel) rfl (fun _ => ?_)
  refine sr_aload_n (i := 0) (q := 23) C (show decode cX6_readAll 22 = .ok (.aload_n 0, 1) from by decide +kernel) rfl rfl rfl ?_
  refine sr_iconst (v := (0 : Int32)) (q := 24) C (show decode cX6_readAll 23 = .ok (.iconst 0, 1) from by decide +kernel) (by decide) rfl ?_
  refine sr_puti (q := 27) C fp_X6_35 hv0 (show decode cX6_readAll 24 = .ok (.putfield 35, 3) from by decide +kernel) rfl ?_
  refine sr_aload_n (i := 0) (q := 28) C (show decode cX6_readAll 27 = .ok (.aload_n 0, 1) from by decide +kernel) rfl rfl rfl ?_
  refine sr_iconst (v := (-1 : Int32)) (q := 29) C (show decode cX6_readAll 28 = .ok (.iconst (-1), 1) from by decide +kernel) (by decide) rfl ?_
  refine sr_puti (q := 32) C fp_X6_38 hv0 (show decode cX6_readAll 29 = .ok (.putfield 38, 3) from by decide +kernel) rfl ?_
  refine sr_aload_n (i := 0) (q := 33) C (show decode cX6_readAll 32 = .ok (.aload_n 0, 1) from by decide +kernel) rfl rfl rfl ?_
  refine sr_iconst (v := (0 : Int32)) (q := 34) C (show decode cX6_readAll 33 = .ok (.iconst 0, 1) from by decide +kernel) (by decide) rfl ?_
  refine sr_puti (q := 37) C fp_X6_41 hv0 (show decode cX6_readAll 34 = .ok (.putfield 41, 3) from by decide +kernel) rfl ?_
  refine sr_aload_n (i := 0) (q := 38) C (show decode cX6_readAll 37 = .ok (.aload_n 0, 1) from by decide +kernel) rfl rfl rfl ?_
  refine sr_iconst (v := (0 : Int32)) (q := 39) C (show decode cX6_readAll 38 = .ok (.iconst 0, 1) from by decide +kernel) (by decide) rfl ?_
  refine sr_puti (q := 42) C fp_X6_44 hv0 (show decode cX6_readAll 39 = .ok (.putfield 44, 3) from by decide +kernel) rfl ?_
  refine sr_aload_n (i := 0) (q := 43) C (show decode cX6_readAll 42 = .ok (.aload_n 0, 1) from by decide +kernel) rfl rfl rfl ?_
  refine sr_iconst (v := (0 : Int32)) (q := 44) C (show decode cX6_readAll 43 = .ok (.iconst 0, 1) from by decide +kernel) (by decide) rfl ?_
  refine sr_putx (q := 47) C fp_X6_47 (Or.inr rfl) rfl rfl hv0 (show decode cX6_readAll 44 = .ok (.putfield 47, 3) from by decide +kernel) rfl ?_
  refine sr_aload_n (i := 0) (q := 48) C (show decode cX6_readAll 47 = .ok (.aload_n 0, 1) from by decide +kernel) rfl rfl rfl ?_
  refine sr_cVv (As := []) (st := []) (b := v0) (q := 51) C yvX6_advance ml_X6_51 (cnX6_advance (xo κ) v0 hv0) hv0 (by decide) rfl rfl rfl (by decide) (by decide) (Nat.le_of_ble_eq_true rfl) rfl (show decode cX6_readAll 48 = .ok (.invokevirtual 51, 3) from by decide +kernel) rfl (fun _ => ?_)
  refine sr_iconst (v := (0 : Int32)) (q := 52) C (show decode cX6_readAll 51 = .ok (.iconst 0, 1) from by decide +kernel) (by decide) rfl ?_
  refine sr_istore_n (i := 3) (L' := [some (xad κ v0), some (xad κ v1), some (.int v2), some (.int (0 : Int32))]) (q := 53) C (show decode cX6_readAll 52 = .ok (.istore_n 3, 1) from by decide +kernel) rfl (by decide) rfl rfl ?_
  refine sr_weak (L' := [some (xad κ v0), none, none, some (.int (0 : Int32))]) ⟨rfl, rfl, trivial⟩ ?_
  exact slX6_readAll_L53 C 4096 v0 (0 : Int32) hv0
theorem cnX6_readAll (ω : sm_O) (v0 : Nat) (v1 : Nat) (v2 : Int32) (hv0 : kd v0 = 6) (hv1 : kd v1 = 21) : sm_Mt 10 yX6_readAll cX6_readAll 4 none ω [.ref (ω.1 + v0), .ref (ω.1 + v1), .int v2] (fun _ => none) (fnX6_readAll v0 v1 v2) := by
  refine sm_conV (by decide) (Nat.le_of_ble_eq_true rfl) ?_
  intro κ hκ C
  subst hκ
  exact slX6_readAll C v0 v1 v2 hv0 hv1
