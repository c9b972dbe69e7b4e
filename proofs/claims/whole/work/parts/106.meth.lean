def fnX11_feed (v0 : Nat) (v1 : Int32) (v2 : Int32) (v3 : Int32) (v4 : Int32) (v5 : Int32) : sm_M Int32 := m_gi v0 1 fun x1 => m_br ((x1 + (20 : Int32)) ≤ (1600 : Int32))
    (m_bnd (fnX11_putBytes v0 v1) fun _ => m_bnd (fnX11_putBytes v0 v2) fun _ => m_bnd (fnX11_putBytes v0 v3) fun _ => m_bnd (fnX11_putBytes v0 v4) fun _ => m_bnd (fnX11_putBytes v0 v5) fun _ => m_gi v0 1 fun x43 => m_ret x43)
    (m_ret (-1 : Int32))
set_option maxHeartbeats 4000000 in
set_option maxRecDepth 100000 in
theorem slX11_feed {κ : sm_X} (C : sm_C κ RX11 cX11_feed 6 2) (v0 : Nat) (v1 : Int32) (v2 : Int32) (v3 : Int32) (v4 : Int32) (v5 : Int32) (hv0 : kd v0 = 11) : sm_S κ (fun r : Int32 => .inr (some (.int r))) (.inl (0, [some (xad κ v0), some (.int v1), some (.int v2), some (.int v3), some (.int v4), some (.int v5)], [])) (fnX11_feed v0 v1 v2 v3 v4 v5) := by
  unfold fnX11_feed
  refine sr_aload_n (i := 0) (q := 1) C (show decode cX11_feed 0 = .ok (.aload_n 0, 1) from by decide +kernel) rfl rfl rfl ?_
  refine sr_geti (q := 4) C fl_X11_110 (Or.inl rfl) hv0 (show decode cX11_feed 1 = .ok (.getfield 110, 3) from by decide +kernel) rfl (fun x1 => ?_)
  refine sr_bipush (v := (20 : Int32)) (q := 6) C (show decode cX11_feed 4 = .ok (.bipush 20, 2) from by decide +kernel) (by decide) rfl ?_
  refine sr_iadd (q := 7) C (show decode cX11_feed 6 = .ok (.iadd, 1) from by decide +kernel) rfl ?_
  refine sr_sipush (v := (1600 : Int32)) (q := 10) C (show decode cX11_feed 7 = .ok (.sipush 1600, 3) from by decide +kernel) (by decide) rfl ?_
  refine sr_icmp_le (q := 13) C 15 (show decode cX11_feed 10 = .ok (.if_icmp .le 5, 3) from by decide +kernel) (by decide) rfl ?_ ?_
  · refine sr_aload_n (i := 0) (q := 16) C (show decode cX11_feed 15 = .ok (.aload_n 0, 1) from by decide +kernel) rfl rfl rfl ?_
    refine sr_iload_n (i := 1) (q := 17) C (show decode cX11_feed 16 = .ok (.iload_n 1, 1) from by decide +kernel) rfl rfl rfl ?_
    refine sr_cVv (As := [.int v1]) (st := []) (b := v0) (q := 20) C yvX11_putBytes ml_X11_113 (cnX11_putBytes (xo κ) v0 v1 hv0) hv0 (by decide) rfl rfl rfl (by decide) (by decide) (Nat.le_of_ble_eq_true rfl) rfl (show decode cX11_feed 17 = .ok (.invokevirtual 113, 3) from by decide +kernel) rfl (fun _ => ?_)
    refine sr_aload_n (i := 0) (q := 21) C (show decode cX11_feed 20 = .ok (.aload_n 0, 1) from by decide +kernel) rfl rfl rfl ?_
    refine sr_iload_n (i := 2) (q := 22) C (show decode cX11_feed 21 = .ok (.iload_n 2, 1) from by decide +kernel) rfl rfl rfl ?_
    refine sr_cVv (As := [.int v2]) (st := []) (b := v0) (q := 25) C yvX11_putBytes ml_X11_113 (cnX11_putBytes (xo κ) v0 v2 hv0) hv0 (by decide) rfl rfl rfl (by decide) (by decide) (Nat.le_of_ble_eq_true rfl) rfl (show decode cX11_feed 22 = .ok (.invokevirtual 113, 3) from by decide +kernel) rfl (fun _ => ?_)
    refine sr_aload_n (i := 0) (q := 26) C (show decode cX11_feed 25 = .ok (.aload_n 0, 1) from by decide +kernel) rfl rfl rfl ?_
    refine sr_iload_n (i := 3) (q := 27) C (show decode cX11_feed 26 = .ok (.iload_n 3, 1) from by decide +kernel) rfl rfl rfl ?_
    refine sr_cVv (As := [.int v3]) (st := []) (b := v0) (q := 30) C yvX11_putBytes ml_X11_113 (cnX11_putBytes (xo κ) v0 v3 hv0) hv0 (by decide) rfl rfl rfl (by decide) (by decide) (Nat.le_of_ble_eq_true rfl) rfl (show decode cX11_feed 27 = .ok (.invokevirtual 113, 3) from by decide +kernel) rfl (fun _ => ?_)
    refine sr_aload_n (i := 0) (q := 31) C (show decode cX11_feed 30 = .ok (.aload_n 0, 1) from by decide +kernel) rfl rfl rfl ?_
    refine sr_iload (i := 4) (q := 33) C (show decode cX11_feed 31 = .ok (.iload 4, 2) from by decide +kernel) rfl rfl ?_
    refine sr_cVv (As := [.int v4]) (st := []) (b := v0) (q := 36) C yvX11_putBytes ml_X11_113 (cnX11_putBytes (xo κ) v0 v4 hv0) hv0 (by decide) rfl rfl rfl (by decide) (by decide) (Nat.le_of_ble_eq_true rfl) rfl (show decode cX11_feed 33 = .ok (.invokevirtual 113, 3) from by decide +kernel) rfl (fun _ => ?_)
    refine sr_aload_n (i := 0) (q := 37) C (show decode cX11_feed 36 = .ok (.aload_n 0, 1) from by decide +kernel) rfl rfl rfl ?_
    refine sr_iload (i := 5) (q := 39) C (show decode cX11_feed 37 = .ok (.iload 5, 2) from by decide +kernel) rfl rfl ?_
    refine sr_cVv (As := [.int v5]) (st := []) (b := v0) (q := 42) C yvX11_putBytes ml_X11_113 (cnX11_putBytes (xo κ) v0 v5 hv0) hv0 (by decide) rfl rfl rfl (by decide) (by decide) (Nat.le_of_ble_eq_true rfl) rfl (show decode cX11_feed 39 = .ok (.invokevirtual 113, 3) from by decide +kernel) rfl (fun _ => ?_)
    refine sr_aload_n (i := 0) (q := 43) C (show decode cX11_feed 42 = .ok (.aload_n 0, 1) from by decide +kernel) rfl rfl rfl ?_
    refine sr_geti (q := 46) C fl_X11_110 (Or.inl rfl) hv0 (show decode cX11_feed 43 = .ok (.getfield 110, 3) from by decide +kernel) rfl (fun x43 => ?_)
    exact sr_ireturn C _ rfl (show decode cX11_feed 46 = .ok (.ireturn, 1) from by decide +kernel)
  · refine sr_iconst (v := (-1 : Int32)) (q := 14) C (show decode cX11_feed 13 = .ok (.iconst (-1), 1) from by decide +kernel) (by decide) rfl ?_
    exact sr_ireturn C _ rfl (show decode cX11_feed 14 = .ok (.ireturn, 1) from by decide +kernel)
theorem cnX11_feed (ω : sm_O) (v0 : Nat) (v1 : Int32) (v2 : Int32) (v3 : Int32) (v4 : Int32) (v5 : Int32) (hv0 : kd v0 = 11) : sm_Mt 2 yX11_feed cX11_feed 6 (some .int) ω [.ref (ω.1 + v0), .int v1, .int v2, .int v3, .int v4, .int v5] (fun a => some (.int a)) (fnX11_feed v0 v1 v2 v3 v4 v5) := by
  refine sm_conI (r := fun a => a) (by decide) (fun _ => rfl) (Nat.le_of_ble_eq_true rfl) ?_
  intro κ hκ C
  subst hκ
  exact slX11_feed C v0 v1 v2 v3 v4 v5 hv0
def fnX1_gather_J80 (k8 : Nat → Nat → Int32 → Int32 → Int32 → sm_M Unit) (v0 : Nat) (v1 : Nat) (v2 : Int32) (v3 : Int32) (v4 : Int32) : sm_M Unit := k8 v0 v1 v2 v3 (v4 + (1 : Int32))
set_option maxHeartbeats 4000000 in
set_option maxRecDepth 100000 in
theorem slX1_gather_J80 {κ : sm_X} (C : sm_C κ RX1 cX1_gather 5 2) {k8 : Nat → Nat → Int32 → Int32 → Int32 → sm_M Unit} (K8 : ∀ (v0 : Nat) (v1 : Nat) (v2 : Int32) (v3 : Int32) (v4 : Int32) (hv0 : kd v0 = 1) (hv1 : kd v1 = 9), sm_S κ (fun _ : Unit => .inr none) (.inl (8, [some (xad κ v0), some (xad κ v1), some (.int v2), some (.int v3), some (.int v4)], [])) (k8 v0 v1 v2 v3 v4)) (v0 : Nat) (v1 : Nat) (v2 : Int32) (v3 : Int32) (v4 : Int32) (hv0 : kd v0 = 1) (hv1 : kd v1 = 9) : sm_S κ (fun _ : Unit => .inr none) (.inl (80, [some (xad κ v0), some (xad κ v1), some (.int v2), some (.int v3), some (.int v4)], [])) (fnX1_gather_J80 k8 v0 v1 v2 v3 v4) := by
  unfold fnX1_gather_J80
  refine sr_iinc (v := v4 + (1 : Int32)) (L' := [some (xad κ v0), some (xad κ v1), some (.int v2), some (.int v3), some (.int (v4 + (1 : Int32)))]) (q := 83) C (show decode cX1_gather 80 = .ok (.iinc 4 1, 3) from by decide +kernel) rfl rfl (by decide) rfl rfl ?_
  refine sr_goto (q := 8) C (show decode cX1_gather 83 = .ok (.goto (-75), 3) from by decide +kernel) (by decide) ?_
  exact K8 v0 v1 v2 v3 (v4 + (1 : Int32)) hv0 hv1
def fnX1_gather_L8 : Nat → Nat → Nat → Int32 → Int32 → Int32 → sm_M Unit
  | 0, _, _, _, _, _ => m_fail
  | n + 1, v0, v1, v2, v3, v4 => m_gi (lk v1 0) 4 fun x14 => m_br (x14 ≤ v4)
    (m_ret ())
    (m_gi v0 2 fun x21 => m_br ((4 : Int32) ≤ x21)
    (m_ret ())
    (m_br (((v2 >>> (v4 &&& 31)) &&& (1 : Int32)) = 0)
    (fnX1_gather_J80 (fnX1_gather_L8 n) v0 v1 v2 v3 v4)
    (m_bnd (fnX9_inDoubt v1 v4) fun x40 => m_br ((bI x40) = 0)
    (fnX1_gather_J80 (fnX1_gather_L8 n) v0 v1 v2 v3 v4)
    (m_ai (lk v1 2) v4 fun x52 => m_br ((x52 + v3) ≤ (1 : Int32))
    (fnX1_gather_J80 (fnX1_gather_L8 n) v0 v1 v2 v3 v4)
    (m_gi v0 2 fun x64 => m_sai (lk v0 1) x64 v4 <| m_gi v0 2 fun x72 => m_si v0 2 (x72 + (1 : Int32)) <| fnX1_gather_J80 (fnX1_gather_L8 n) v0 v1 v2 v3 v4)))))
set_option maxHeartbeats 4000000 in
set_option maxRecDepth 100000 in
theorem slX1_gather_L8 {κ : sm_X} (C : sm_C κ RX1 cX1_gather 5 2) : ∀ (n : Nat) (v0 : Nat) (v1 : Nat) (v2 : Int32) (v3 : Int32) (v4 : Int32) (hv0 : kd v0 = 1) (hv1 : kd v1 = 9), sm_S κ (fun _ : Unit => .inr none) (.inl (8, [some (xad κ v0), some (xad κ v1), some (.int v2), some (.int v3), some (.int v4)], [])) (fnX1_gather_L8 n v0 v1 v2 v3 v4) := by
  intro n
  induction n with
  | zero =>
    intros
    exact sr_fail
  | succ n K8 =>
    intro v0 v1 v2 v3 v4 hv0 hv1
    unfold fnX1_gather_L8
    refine sr_iload (i := 4) (q := 10) C (show decode cX1_gather 8 = .ok (.iload 4, 2) from by decide +kernel) rfl rfl ?_
    refine sr_aload_n (i := 1) (q := 11) C (show decode cX1_gather 10 = .ok (.aload_n 1, 1) from by decide +kernel) rfl rfl rfl ?_
    refine sr_getr (q := 14) C fl_X1_19 hv1 (show decode cX1_gather 11 = .ok (.getfield 19, 3) from by decide +kernel) rfl ?_
    refine sr_geti (q := 17) C fl_X1_55 (Or.inl rfl) (kt hv1 kp_9_0) (show decode cX1_gather 14 = .ok (.getfield 55, 3) from by decide +kernel) rfl (fun x14 => ?_)
    refine sr_icmp_ge (q := 20) C 86 (show decode cX1_gather 17 = .ok (.if_icmp .ge 69, 3) from by decide +kernel) (by decide) rfl ?_ ?_
    · exact sr_vreturn C _ rfl (show decode cX1_gather 86 = .ok (.return_, 1) from by decide +kernel)
    · refine sr_aload_n (i := 0) (q := 21) C (show decode cX1_gather 20 = .ok (.aload_n 0, 1) from by decide +kernel) rfl rfl rfl ?_
      refine sr_geti (q := 24) C fl_X1_41 (Or.inl rfl) hv0 (show decode cX1_gather 21 = .ok (.getfield 41, 3) from by decide +kernel) rfl (fun x21 => ?_)
      refine sr_iconst (v := (4 : Int32)) (q := 25) C (show decode cX1_gather 24 = .ok (.iconst 4, 1) from by decide +kernel) (by decide) rfl ?_
      refine sr_icmp_ge (q := 28) C 86 (show decode cX1_gather 25 = .ok (.if_icmp .ge 61, 3) from by decide +kernel) (by decide) rfl ?_ ?_
      · exact sr_vreturn C _ rfl (show decode cX1_gather 86 = .ok (.return_, 1) from by decide +kernel)
      · refine sr_iload_n (i := 2) (q := 29) C (show decode cX1_gather 28 = .ok (.iload_n 2, 1) from by decide +kernel) rfl rfl rfl ?_
        refine sr_iload (i := 4) (q := 31) C (show decode cX1_gather 29 = .ok (.iload 4, 2) from by decide +kernel) rfl rfl ?_
        refine sr_ishr (q := 32) C (show decode cX1_gather 31 = .ok (.ishr, 1) from by decide +kernel) rfl ?_
        refine sr_iconst (v := (1 : Int32)) (q := 33) C (show decode cX1_gather 32 = .ok (.iconst 1, 1) from by decide +kernel) (by decide) rfl ?_
        refine sr_iand (q := 34) C (show decode cX1_gather 33 = .ok (.iand, 1) from by decide +kernel) rfl ?_
        refine sr_if_eq (q := 37) C 80 (show decode cX1_gather 34 = .ok (.ifCond .eq 46, 3) from by decide +kernel) (by decide) rfl ?_ ?_
        · exact slX1_gather_J80 C K8 v0 v1 v2 v3 v4 hv0 hv1
        · refine sr_aload_n (i := 1) (q := 38) C (show decode cX1_gather 37 = .ok (.aload_n 1, 1) from by decide +kernel) rfl rfl rfl ?_
          refine sr_iload (i := 4) (q := 40) C (show decode cX1_gather 38 = .ok (.iload 4, 2) from by decide +kernel) rfl rfl ?_
          refine sr_cVz (As := [.int v4]) (st := []) (b := v1) (q := 43) C yvX9_inDoubt ml_X1_58 (cnX9_inDoubt (xo κ) v1 v4 hv1) hv1 (by decide) rfl rfl rfl (by decide) (by decide) (Nat.le_of_ble_eq_true rfl) rfl (show decode cX1_gather 40 = .ok (.invokevirtual 58, 3) from by decide +kernel) rfl (fun x40 => ?_)
          refine sr_if_eq (q := 46) C 80 (show decode cX1_gather 43 = .ok (.ifCond .eq 37, 3) from by decide +kernel) (by decide) rfl ?_ ?_
          · exact slX1_gather_J80 C K8 v0 v1 v2 v3 v4 hv0 hv1
          · refine sr_aload_n (i := 1) (q := 47) C (show decode cX1_gather 46 = .ok (.aload_n 1, 1) from by decide +kernel) rfl rfl rfl ?_
            refine sr_getr (q := 50) C fl_X1_62 hv1 (show decode cX1_gather 47 = .ok (.getfield 62, 3) from by decide +kernel) rfl ?_
            refine sr_iload (i := 4) (q := 52) C (show decode cX1_gather 50 = .ok (.iload 4, 2) from by decide +kernel) rfl rfl ?_
            refine sr_iaload (q := 53) C (kt hv1 kp_9_2) (show decode cX1_gather 52 = .ok (.iaload, 1) from by decide +kernel) rfl (fun x52 => ?_)
            refine sr_iload_n (i := 3) (q := 54) C (show decode cX1_gather 53 = .ok (.iload_n 3, 1) from by decide +kernel) rfl rfl rfl ?_
            refine sr_iadd (q := 55) C (show decode cX1_gather 54 = .ok (.iadd, 1) from by decide +kernel) rfl ?_
            refine sr_iconst (v := (1 : Int32)) (q := 56) C (show decode cX1_gather 55 = .ok (.iconst 1, 1) from by decide +kernel) (by decide) rfl ?_
            refine sr_icmp_le (q := 59) C 80 (show decode cX1_gather 56 = .ok (.if_icmp .le 24, 3) from by decide +kernel) (by decide) rfl ?_ ?_
            · exact slX1_gather_J80 C K8 v0 v1 v2 v3 v4 hv0 hv1
            · refine sr_aload_n (i := 0) (q := 60) C (show decode cX1_gather 59 = .ok (.aload_n 0, 1) from by decide +kernel) rfl rfl rfl ?_
              refine sr_getr (q := 63) C fl_X1_11 hv0 (show decode cX1_gather 60 = .ok (.getfield 11, 3) from by decide +kernel) rfl ?_
              refine sr_aload_n (i := 0) (q := 64) C (show decode cX1_gather 63 = .ok (.aload_n 0, 1) from by decide +kernel) rfl rfl rfl ?_
              refine sr_geti (q := 67) C fl_X1_41 (Or.inl rfl) hv0 (show decode cX1_gather 64 = .ok (.getfield 41, 3) from by decide +kernel) rfl (fun x64 => ?_)
              refine sr_iload (i := 4) (q := 69) C (show decode cX1_gather 67 = .ok (.iload 4, 2) from by decide +kernel) rfl rfl ?_
              refine sr_iastore (q := 70) C (kt hv0 kp_1_1) (show decode cX1_gather 69 = .ok (.iastore, 1) from by decide +kernel) rfl ?_
              refine sr_aload_n (i := 0) (q := 71) C (show decode cX1_gather 70 = .ok (.aload_n 0, 1) from by decide +kernel) rfl rfl rfl ?_
              refine sr_dup (q := 72) C (show decode cX1_gather 71 = .ok (.dup, 1) from by decide +kernel) rfl rfl ?_
              refine sr_geti (q := 75) C fl_X1_41 (Or.inl rfl) hv0 (show decode cX1_gather 72 = .ok (.getfield 41, 3) from by decide +kernel) rfl (fun x72 => ?_)
              refine sr_iconst (v := (1 : Int32)) (q := 76) C (show decode cX1_gather 75 = .ok (.iconst 1, 1) from by decide +kernel) (by decide) rfl ?_
              refine sr_iadd (q := 77) C (show decode cX1_gather 76 = .ok (.iadd, 1) from by decide +kernel) rfl ?_
              refine sr_puti (q := 80) C fp_X1_41 hv0 (show decode cX1_gather 77 = .ok (.putfield 41, 3) from by decide +kernel) rfl ?_
              exact slX1_gather_J80 C K8 v0 v1 v2 v3 v4 hv0 hv1
def fnX1_gather (v0 : Nat) (v1 : Nat) (v2 : Int32) (v3 : Int32) : sm_M Unit := m_si v0 2 (0 : Int32) <| fnX1_gather_L8 4096 v0 v1 v2 v3 (0 : Int32)
set_option maxHeartbeats 4000000 in
set_option maxRecDepth 100000 in
theorem slX1_gather {κ : sm_X} (C : sm_C κ RX1 cX1_gather 5 2) (v0 : Nat) (v1 : Nat) (v2 : Int32) (v3 : Int32) (hv0 : kd v0 = 1) (hv1 : kd v1 = 9) : sm_S κ (fun _ : Unit => .inr none) (.inl (0, [some (xad κ v0), some (xad κ v1), some (.int v2), some (.int v3), none], [])) (fnX1_gather v0 v1 v2 v3) := by
  unfold fnX1_gather
  refine sr_aload_n (i := 0) (q := 1) C (show decode cX1_gather 0 = .ok (.aload_n 0, 1) from by decide +kernel) rfl rfl rfl ?_
  refine sr_iconst (v := (0 : Int32)) (q := 2) C (show decode cX1_gather 1 = .ok (.iconst 0, 1) from by decide +kernel) (by decide) rfl ?_
  refine sr_puti (q := 5) C fp_X1_41 hv0 (show decode cX1_gather 2 = .ok (.putfield 41, 3) from by decide +kernel) rfl ?_
  refine sr_iconst (v := (0 : Int32)) (q := 6) C (show decode cX1_gather 5 = .ok (.iconst 0, 1) from by decide +kernel) (by decide) rfl ?_
  refine sr_istore (i := 4) (L' := [some (xad κ v0), some (xad κ v1), some (.int v2), some (.int v3), some (.int (0 : Int32))]) (q := 8) C (show decode cX1_gather 6 = .ok (.istore 4, 2) from by decide +kernel) (by decide) rfl rfl ?_
  exact slX1_gather_L8 C 4096 v0 v1 v2 v3 (0 : Int32) hv0 hv1
theorem cnX1_gather (ω : sm_O) (v0 : Nat) (v1 : Nat) (v2 : Int32) (v3 : Int32) (hv0 : kd v0 = 1) (hv1 : kd v1 = 9) : sm_Mt 2 yX1_gather cX1_gather 5 none ω [.ref (ω.1 + v0), .ref (ω.1 + v1), .int v2, .int v3] (fun _ => none) (fnX1_gather v0 v1 v2 v3) := by
  refine sm_conV (by decide) (Nat.le_of_ble_eq_true rfl) ?_
  intro κ hκ C
  subst hκ
  exact slX1_gather C v0 v1 v2 v3 hv0 hv1
def fnX1_chance_J156 (k36 : Nat → Nat → Int32 → Int32 → Int64 → Int32 → sm_M Int64) (v0 : Nat) (v1 : Nat) (v2 : Int32) (v4 : Int32) (v5 : Int64) (v7 : Int32) : sm_M Int64 := k36 v0 v1 v2 v4 v5 (v7 + (1 : Int32))
set_option maxHeartbeats 4000000 in
set_option maxRecDepth 100000 in
theorem slX1_chance_J156 {κ : sm_X} (C : sm_C κ RX1 cX1_chance 12 4) {k36 : Nat → Nat → Int32 → Int32 → Int64 → Int32 → sm_M Int64} (K36 : ∀ (v0 : Nat) (v1 : Nat) (v2 : Int32) (v4 : Int32) (v5 : Int64) (v7 : Int32) (hv0 : kd v0 = 1) (hv1 : kd v1 = 9), sm_S κ (fun r : Int64 => .inr (some (.long r))) (.inl (36, [some (xad κ v0), some (xad κ v1), some (.int v2), none, some (.int v4), some (.long v5), none, some (.int v7), none, none, none, none], [])) (k36 v0 v1 v2 v4 v5 v7)) (v0 : Nat) (v1 : Nat) (v2 : Int32) (v4 : Int32) (v5 : Int64) (v7 : Int32) (hv0 : kd v0 = 1) (hv1 : kd v1 = 9) : sm_S κ (fun r : Int64 => .inr (some (.long r))) (.inl (156, [some (xad κ v0), some (xad κ v1), some (.int v2), none, some (.int v4), some (.long v5), none, some (.int v7), none, none, none, none], [])) (fnX1_chance_J156 k36 v0 v1 v2 v4 v5 v7) := by
  unfold fnX1_chance_J156
  refine sr_iinc (v := v7 + (1 : Int32)) (L' := [some (xad κ v0), some (xad κ v1), some (.int v2), none, some (.int v4), some (.long v5), none, some (.int (v7 + (1 : Int32))), none, none, none, none]) (q := 159) C (show decode cX1_chance 156 = .ok (.iinc 7 1, 3) from by decide +kernel) rfl rfl (by decide) rfl rfl ?_
  refine sr_goto (q := 36) C (show decode cX1_chance 159 = .ok (.goto (-123), 3) from by decide +kernel) (by decide) ?_
  exact K36 v0 v1 v2 v4 v5 (v7 + (1 : Int32)) hv0 hv1
def fnX1_chance_J131 (k36 : Nat → Nat → Int32 → Int32 → Int64 → Int32 → sm_M Int64) (v0 : Nat) (v1 : Nat) (v2 : Int32) (v4 : Int32) (v5 : Int64) (v7 : Int32) (v8 : Int64) (v10 : Int32) : sm_M Int64 := m_br ((lg_cmp v8 v5) ≤ 0)
    (fnX1_chance_J156 k36 v0 v1 v2 v4 v5 v7)
    (m_bnd (fnX3_crosses (lk v0 0) v10 v2) fun x146 => m_br ((bI x146) = 0)
    (fnX1_chance_J156 k36 v0 v1 v2 v4 v5 v7)
    (fnX1_chance_J156 k36 v0 v1 v2 v4 v8 v7))
set_option maxHeartbeats 4000000 in
set_option maxRecDepth 100000 in
theorem slX1_chance_J131 {κ : sm_X} (C : sm_C κ RX1 cX1_chance 12 4) {k36 : Nat → Nat → Int32 → Int32 → Int64 → Int32 → sm_M Int64} (K36 : ∀ (v0 : Nat) (v1 : Nat) (v2 : Int32) (v4 : Int32) (v5 : Int64) (v7 : Int32) (hv0 : kd v0 = 1) (hv1 : kd v1 = 9), sm_S κ (fun r : Int64 => .inr (some (.long r))) (.inl (36, [some (xad κ v0), some (xad κ v1), some (.int v2), none, some (.int v4), some (.long v5), none, some (.int v7), none, none, none, none], [])) (k36 v0 v1 v2 v4 v5 v7)) (v0 : Nat) (v1 : Nat) (v2 : Int32) (v4 : Int32) (v5 : Int64) (v7 : Int32) (v8 : Int64) (v10 : Int32) (hv0 : kd v0 = 1) (hv1 : kd v1 = 9) : sm_S κ (fun r : Int64 => .inr (some (.long r))) (.inl (131, [some (xad κ v0), some (xad κ v1), some (.int v2), none, some (.int v4), some (.long v5), none, some (.int v7), some (.long v8), none, some (.int v10), none], [])) (fnX1_chance_J131 k36 v0 v1 v2 v4 v5 v7 v8 v10) := by
  unfold fnX1_chance_J131
  refine sr_lload (i := 8) (q := 133) C (show decode cX1_chance 131 = .ok (.lload 8, 2) from by decide +kernel) rfl rfl ?_
  refine sr_lload (i := 5) (q := 135) C (show decode cX1_chance 133 = .ok (.lload 5, 2) from by decide +kernel) rfl rfl ?_
  refine sr_lcmp (q := 136) C (show decode cX1_chance 135 = .ok (.lcmp, 1) from by decide +kernel) rfl ?_
  refine sr_if_le (q := 139) C 156 (show decode cX1_chance 136 = .ok (.ifCond .le 20, 3) from by decide +kernel) (by decide) rfl ?_ ?_
  · refine sr_weak (L' := [some (xad κ v0), some (xad κ v1), some (.int v2), none, some (.int v4), some (.long v5), none, some (.int v7), none, none, none, none]) ⟨rfl, rfl, rfl, rfl, rfl, rfl, trivial⟩ ?_
    exact slX1_chance_J156 C K36 v0 v1 v2 v4 v5 v7 hv0 hv1
  · refine sr_aload_n (i := 0) (q := 140) C (show decode cX1_chance 139 = .ok (.aload_n 0, 1) from by decide +kernel) rfl rfl rfl ?_
    refine sr_getr (q := 143) C fl_X1_15 hv0 (show decode cX1_chance 140 = .ok (.getfield 15, 3) from by decide +kernel) rfl ?_
    refine sr_iload (i := 10) (q := 145) C (show decode cX1_chance 143 = .ok (.iload 10, 2) from by decide +kernel) rfl rfl ?_
    refine sr_iload_n (i := 2) (q := 146) C (show decode cX1_chance 145 = .ok (.iload_n 2, 1) from by decide +kernel) rfl rfl rfl ?_
    refine sr_cVz (As := [.int v10, .int v2]) (st := []) (b := lk v0 0) (q := 149) C yvX3_crosses ml_X1_49 (cnX3_crosses (xo κ) (lk v0 0) v10 v2 (kt hv0 kp_1_0)) (kt hv0 kp_1_0) (by decide) rfl rfl rfl (by decide) (by decide) (Nat.le_of_ble_eq_true rfl) rfl (show decode cX1_chance 146 = .ok (.invokevirtual 49, 3) from by decide +kernel) rfl (fun x146 => ?_)
    refine sr_if_eq (q := 152) C 156 (show decode cX1_chance 149 = .ok (.ifCond .eq 7, 3) from by decide +kernel) (by decide) rfl ?_ ?_
    · refine sr_weak (L' := [some (xad κ v0), some (xad κ v1), some (.int v2), none, some (.int v4), some (.long v5), none, some (.int v7), none, none, none, none]) ⟨rfl, rfl, rfl, rfl, rfl, rfl, trivial⟩ ?_
      exact slX1_chance_J156 C K36 v0 v1 v2 v4 v5 v7 hv0 hv1
    · refine sr_lload (i := 8) (q := 154) C (show decode cX1_chance 152 = .ok (.lload 8, 2) from by decide +kernel) rfl rfl ?_
      refine sr_lstore (i := 5) (L' := [some (xad κ v0), some (xad κ v1), some (.int v2), none, some (.int v4), some (.long v8), none, some (.int v7), some (.long v8), none, some (.int v10), none]) (q := 156) C (show decode cX1_chance 154 = .ok (.lstore 5, 2) from by decide +kernel) (by decide) rfl rfl ?_
      refine sr_weak (L' := [some (xad κ v0), some (xad κ v1), some (.int v2), none, some (.int v4), some (.long v8), none, some (.int v7), none, none, none, none]) ⟨rfl, rfl, rfl, rfl, rfl, rfl, trivial⟩ ?_
      exact slX1_chance_J156 C K36 v0 v1 v2 v4 v8 v7 hv0 hv1
def fnX1_chance_J125 (k36 : Nat → Nat → Int32 → Int32 → Int64 → Int32 → sm_M Int64) (k59 : Nat → Nat → Int32 → Int32 → Int64 → Int32 → Int64 → Int32 → Int32 → sm_M Int64) (v0 : Nat) (v1 : Nat) (v2 : Int32) (v4 : Int32) (v5 : Int64) (v7 : Int32) (v8 : Int64) (v10 : Int32) (v11 : Int32) : sm_M Int64 := k59 v0 v1 v2 v4 v5 v7 v8 v10 (v11 + (1 : Int32))
set_option maxHeartbeats 4000000 in
set_option maxRecDepth 100000 in
theorem slX1_chance_J125 {κ : sm_X} (C : sm_C κ RX1 cX1_chance 12 4) {k36 : Nat → Nat → Int32 → Int32 → Int64 → Int32 → sm_M Int64} (K36 : ∀ (v0 : Nat) (v1 : Nat) (v2 : Int32) (v4 : Int32) (v5 : Int64) (v7 : Int32) (hv0 : kd v0 = 1) (hv1 : kd v1 = 9), sm_S κ (fun r : Int64 => .inr (some (.long r))) (.inl (36, [some (xad κ v0), some (xad κ v1), some (.int v2), none, some (.int v4), some (.long v5), none, some (.int v7), none, none, none, none], [])) (k36 v0 v1 v2 v4 v5 v7)) {k59 : Nat → Nat → Int32 → Int32 → Int64 → Int32 → Int64 → Int32 → Int32 → sm_M Int64} (K59 : ∀ (v0 : Nat) (v1 : Nat) (v2 : Int32) (v4 : Int32) (v5 : Int64) (v7 : Int32) (v8 : Int64) (v10 : Int32) (v11 : Int32) (hv0 : kd v0 = 1) (hv1 : kd v1 = 9), sm_S κ (fun r : Int64 => .inr (some (.long r))) (.inl (59, [some (xad κ v0), some (xad κ v1), some (.int v2), none, some (.int v4), some (.long v5), none, some (.int v7), some (.long v8), none, some (.int v10), some (.int v11)], [])) (k59 v0 v1 v2 v4 v5 v7 v8 v10 v11)) (v0 : Nat) (v1 : Nat) (v2 : Int32) (v4 : Int32) (v5 : Int64) (v7 : Int32) (v8 : Int64) (v10 : Int32) (v11 : Int32) (hv0 : kd v0 = 1) (hv1 : kd v1 = 9) : sm_S κ (fun r : Int64 => .inr (some (.long r))) (.inl (125, [some (xad κ v0), some (xad κ v1), some (.int v2), none, some (.int v4), some (.long v5), none, some (.int v7), some (.long v8), none, some (.int v10), some (.int v11)], [])) (fnX1_chance_J125 k36 k59 v0 v1 v2 v4 v5 v7 v8 v10 v11) := by
  unfold fnX1_chance_J125
  refine sr_iinc (v := v11 + (1 : Int32)) (L' := [some (xad κ v0), some (xad κ v1), some (.int v2), none, some (.int v4), some (.long v5), none, some (.int v7), some (.long v8), none, some (.int v10), some (.int (v11 + (1 : Int32)))]) (q := 128) C (show decode cX1_chance 125 = .ok (.iinc 11 1, 3) from by decide +kernel) rfl rfl (by decide) rfl rfl ?_
  refine sr_goto (q := 59) C (show decode cX1_chance 128 = .ok (.goto (-69), 3) from by decide +kernel) (by decide) ?_
  exact K59 v0 v1 v2 v4 v5 v7 v8 v10 (v11 + (1 : Int32)) hv0 hv1
def fnX1_chance_L59 (k36 : Nat → Nat → Int32 → Int32 → Int64 → Int32 → sm_M Int64) : Nat → Nat → Nat → Int32 → Int32 → Int64 → Int32 → Int64 → Int32 → Int32 → sm_M Int64
  | 0, _, _, _, _, _, _, _, _, _ => m_fail
  | n + 1, v0, v1, v2, v4, v5, v7, v8, v10, v11 => m_gi v0 2 fun x62 => m_br (x62 ≤ v11)
    (fnX1_chance_J131 k36 v0 v1 v2 v4 v5 v7 v8 v10)
    (m_br (((v7 >>> (v11 &&& 31)) &&& (1 : Int32)) = 0)
    (m_ai (lk v0 1) v11 fun x118 => m_nm (v10 &&& (((1 : Int32) <<< (x118 &&& 31)) ^^^ (-1 : Int32))) fun y123 => fnX1_chance_J125 k36 (fnX1_chance_L59 k36 n) v0 v1 v2 v4 v5 v7 v8 y123 v11)
    (m_ai (lk v0 1) v11 fun x95 => m_ai (lk (lk v1 0) 12) x95 fun x96 => m_gd (¬ (100 : Int64) = 0) <| m_nm ((v8 * (((100 : Int32) - x96).toInt64)) / (100 : Int64)) fun y104 => fnX1_chance_J125 k36 (fnX1_chance_L59 k36 n) v0 v1 v2 v4 v5 v7 y104 v10 v11))
set_option maxHeartbeats 4000000 in
set_option maxRecDepth 100000 in
theorem slX1_chance_L59 {κ : sm_X} (C : sm_C κ RX1 cX1_chance 12 4) {k36 : Nat → Nat → Int32 → Int32 → Int64 → Int32 → sm_M Int64} (K36 : ∀ (v0 : Nat) (v1 : Nat) (v2 : Int32) (v4 : Int32) (v5 : Int64) (v7 : Int32) (hv0 : kd v0 = 1) (hv1 : kd v1 = 9), sm_S κ (fun r : Int64 => .inr (some (.long r))) (.inl (36, [some (xad κ v0), some (xad κ v1), some (.int v2), none, some (.int v4), some (.long v5), none, some (.int v7), none, none, none, none], [])) (k36 v0 v1 v2 v4 v5 v7)) : ∀ (n : Nat) (v0 : Nat) (v1 : Nat) (v2 : Int32) (v4 : Int32) (v5 : Int64) (v7 : Int32) (v8 : Int64) (v10 : Int32) (v11 : Int32) (hv0 : kd v0 = 1) (hv1 : kd v1 = 9), sm_S κ (fun r : Int64 => .inr (some (.long r))) (.inl (59, [some (xad κ v0), some (xad κ v1), some (.int v2), none, some (.int v4), some (.long v5), none, some (.int v7), some (.long v8), none, some (.int v10), some (.int v11)], [])) (fnX1_chance_L59 k36 n v0 v1 v2 v4 v5 v7 v8 v10 v11) := by
  intro n
  induction n with
  | zero =>
    intros
    exact sr_fail
  | succ n K59 =>
    intro v0 v1 v2 v4 v5 v7 v8 v10 v11 hv0 hv1
    unfold fnX1_chance_L59
    refine sr_iload (i := 11) (q := 61) C (show decode cX1_chance 59 = .ok (.iload 11, 2) from by decide +kernel) rfl rfl ?_
    refine sr_aload_n (i := 0) (q := 62) C (show decode cX1_chance 61 = .ok (.aload_n 0, 1) from by decide +kernel) rfl rfl rfl ?_
    refine sr_geti (q := 65) C fl_X1_41 (Or.inl rfl) hv0 (show decode cX1_chance 62 = .ok (.getfield 41, 3) from by decide +kernel) rfl (fun x62 => ?_)
    refine sr_icmp_ge (q := 68) C 131 (show decode cX1_chance 65 = .ok (.if_icmp .ge 66, 3) from by decide +kernel) (by decide) rfl ?_ ?_
    · refine sr_weak (L' := [some (xad κ v0), some (xad κ v1), some (.int v2), none, some (.int v4), some (.long v5), none, some (.int v7), some (.long v8), none, some (.int v10), none]) ⟨rfl, rfl, rfl, rfl, rfl, rfl, rfl, rfl, trivial⟩ ?_
      exact slX1_chance_J131 C K36 v0 v1 v2 v4 v5 v7 v8 v10 hv0 hv1
    · refine sr_iload (i := 7) (q := 70) C (show decode cX1_chance 68 = .ok (.iload 7, 2) from by decide +kernel) rfl rfl ?_
      refine sr_iload (i := 11) (q := 72) C (show decode cX1_chance 70 = .ok (.iload 11, 2) from by decide +kernel) rfl rfl ?_
      refine sr_ishr (q := 73) C (show decode cX1_chance 72 = .ok (.ishr, 1) from by decide +kernel) rfl ?_
      refine sr_iconst (v := (1 : Int32)) (q := 74) C (show decode cX1_chance 73 = .ok (.iconst 1, 1) from by decide +kernel) (by decide) rfl ?_
      refine sr_iand (q := 75) C (show decode cX1_chance 74 = .ok (.iand, 1) from by decide +kernel) rfl ?_
      refine sr_if_eq (q := 78) C 109 (show decode cX1_chance 75 = .ok (.ifCond .eq 34, 3) from by decide +kernel) (by decide) rfl ?_ ?_
      · refine sr_iload (i := 10) (q := 111) C (show decode cX1_chance 109 = .ok (.iload 10, 2) from by decide +kernel) rfl rfl ?_
        refine sr_iconst (v := (1 : Int32)) (q := 112) C (show decode cX1_chance 111 = .ok (.iconst 1, 1) from by decide +kernel) (by decide) rfl ?_
        refine sr_aload_n (i := 0) (q := 113) C (show decode cX1_chance 112 = .ok (.aload_n 0, 1) from by decide +kernel) rfl rfl rfl ?_
        refine sr_getr (q := 116) C fl_X1_11 hv0 (show decode cX1_chance 113 = .ok (.getfield 11, 3) from by decide +kernel) rfl ?_
        refine sr_iload (i := 11) (q := 118) C (show decode cX1_chance 116 = .ok (.iload 11, 2) from by decide +kernel) rfl rfl ?_
        refine sr_iaload (q := 119) C (kt hv0 kp_1_1) (show decode cX1_chance 118 = .ok (.iaload, 1) from by decide +kernel) rfl (fun x118 => ?_)
        refine sr_ishl (q := 120) C (show decode cX1_chance 119 = .ok (.ishl, 1) from by decide +kernel) rfl ?_
        refine sr_iconst (v := (-1 : Int32)) (q := 121) C (show decode cX1_chance 120 = .ok (.iconst (-1), 1) from by decide +kernel) (by decide) rfl ?_
        refine sr_ixor (q := 122) C (show decode cX1_chance 121 = .ok (.ixor, 1) from by decide +kernel) rfl ?_
        refine sr_iand (q := 123) C (show decode cX1_chance 122 = .ok (.iand, 1) from by decide +kernel) rfl ?_
        refine sr_nmi (fun y123 => ?_)
        refine sr_istore (i := 10) (L' := [some (xad κ v0), some (xad κ v1), some (.int v2), none, some (.int v4), some (.long v5), none, some (.int v7), some (.long v8), none, some (.int y123), some (.int v11)]) (q := 125) C (show decode cX1_chance 123 = .ok (.istore 10, 2) from by decide +kernel) (by decide) rfl rfl ?_
        exact slX1_chance_J125 C K36 K59 v0 v1 v2 v4 v5 v7 v8 y123 v11 hv0 hv1
      · refine sr_lload (i := 8) (q := 80) C (show decode cX1_chance 78 = .ok (.lload 8, 2) from by decide +kernel) rfl rfl ?_
        refine sr_bipush (v := (100 : Int32)) (q := 82) C (show decode cX1_chance 80 = .ok (.bipush 100, 2) from by decide +kernel) (by decide) rfl ?_
        refine sr_aload_n (i := 1) (q := 83) C (show decode cX1_chance 82 = .ok (.aload_n 1, 1) from by decide +kernel) rfl rfl rfl ?_
        refine sr_getr (q := 86) C fl_X1_19 hv1 (show decode cX1_chance 83 = .ok (.getfield 19, 3) from by decide +kernel) rfl ?_
        refine sr_getr (q := 89) C fl_X1_44 (kt hv1 kp_9_0) (show decode cX1_chance 86 = .ok (.getfield 44, 3) from by decide +kernel) rfl ?_
        refine sr_aload_n (i := 0) (q := 90) C (show decode cX1_chance 89 = .ok (.aload_n 0, 1) from by decide +kernel) rfl rfl rfl ?_
        refine sr_getr (q := 93) C fl_X1_11 hv0 (show decode cX1_chance 90 = .ok (.getfield 11, 3) from by decide +kernel) rfl ?_
        refine sr_iload (i := 11) (q := 95) C (show decode cX1_chance 93 = .ok (.iload 11, 2) from by decide +kernel) rfl rfl ?_
        refine sr_iaload (q := 96) C (kt hv0 kp_1_1) (show decode cX1_chance 95 = .ok (.iaload, 1) from by decide +kernel) rfl (fun x95 => ?_)
        refine sr_iaload (q := 97) C (kt (kt hv1 kp_9_0) kp_7_12) (show decode cX1_chance 96 = .ok (.iaload, 1) from by decide +kernel) rfl (fun x96 => ?_)
        refine sr_isub (q := 98) C (show decode cX1_chance 97 = .ok (.isub, 1) from by decide +kernel) rfl ?_
        refine sr_i2l (q := 99) C (show decode cX1_chance 98 = .ok (.i2l, 1) from by decide +kernel) rfl ?_
        refine sr_lmul (q := 100) C (show decode cX1_chance 99 = .ok (.lmul, 1) from by decide +kernel) rfl ?_
        refine sr_ldc2 (q := 103) C co_X1_47 (show decode cX1_chance 100 = .ok (.ldc2_w 47, 3) from by decide +kernel) rfl ?_
        refine sr_ldiv (q := 104) C (show decode cX1_chance 103 = .ok (.ldiv, 1) from by decide +kernel) rfl ?_
        refine sr_nml (fun y104 => ?_)
        refine sr_lstore (i := 8) (L' := [some (xad κ v0), some (xad κ v1), some (.int v2), none, some (.int v4), some (.long v5), none, some (.int v7), some (.long y104), none, some (.int v10), some (.int v11)]) (q := 106) C (show decode cX1_chance 104 = .ok (.lstore 8, 2) from by decide +kernel) (by decide) rfl rfl ?_
        refine sr_goto (q := 125) C (show decode cX1_chance 106 = .ok (.goto 19, 3) from by decide +kernel) (by decide) ?_
        exact slX1_chance_J125 C K36 K59 v0 v1 v2 v4 v5 v7 y104 v10 v11 hv0 hv1
def fnX1_chance_L36 : Nat → Nat → Nat → Int32 → Int32 → Int64 → Int32 → sm_M Int64
  | 0, _, _, _, _, _, _ => m_fail
  | n + 1, v0, v1, v2, v4, v5, v7 => m_gi v0 2 fun x40 => m_br (((1 : Int32) <<< (x40 &&& 31)) ≤ v7)
    (m_ret v5)
    (fnX1_chance_L59 (fnX1_chance_L36 n) 4096 v0 v1 v2 v4 v5 v7 (1000000000 : Int64) v4 (0 : Int32))
set_option maxHeartbeats 4000000 in
set_option maxRecDepth 100000 in
theorem slX1_chance_L36 {κ : sm_X} (C : sm_C κ RX1 cX1_chance 12 4) : ∀ (n : Nat) (v0 : Nat) (v1 : Nat) (v2 : Int32) (v4 : Int32) (v5 : Int64) (v7 : Int32) (hv0 : kd v0 = 1) (hv1 : kd v1 = 9), sm_S κ (fun r : Int64 => .inr (some (.long r))) (.inl (36, [some (xad κ v0), some (xad κ v1), some (.int v2), none, some (.int v4), some (.long v5), none, some (.int v7), none, none, none, none], [])) (fnX1_chance_L36 n v0 v1 v2 v4 v5 v7) := by
  intro n
  induction n with
  | zero =>
    intros
    exact sr_fail
  | succ n K36 =>
    intro v0 v1 v2 v4 v5 v7 hv0 hv1
    unfold fnX1_chance_L36
    refine sr_iload (i := 7) (q := 38) C (show decode cX1_chance 36 = .ok (.iload 7, 2) from by decide +kernel) rfl rfl ?_
    refine sr_iconst (v := (1 : Int32)) (q := 39) C (show decode cX1_chance 38 = .ok (.iconst 1, 1) from by decide +kernel) (by decide) rfl ?_
    refine sr_aload_n (i := 0) (q := 40) C (show decode cX1_chance 39 = .ok (.aload_n 0, 1) from by decide +kernel) rfl rfl rfl ?_
    refine sr_geti (q := 43) C fl_X1_41 (Or.inl rfl) hv0 (show decode cX1_chance 40 = .ok (.getfield 41, 3) from by decide +kernel) rfl (fun x40 => ?_)
    refine sr_ishl (q := 44) C (show decode cX1_chance 43 = .ok (.ishl, 1) from by decide +kernel) rfl ?_
    refine sr_icmp_ge (q := 47) C 162 (show decode cX1_chance 44 = .ok (.if_icmp .ge 118, 3) from by decide +kernel) (by decide) rfl ?_ ?_
    · refine sr_lload (i := 5) (q := 164) C (show decode cX1_chance 162 = .ok (.lload 5, 2) from by decide +kernel) rfl rfl ?_
      exact sr_lreturn C _ rfl (show decode cX1_chance 164 = .ok (.lreturn, 1) from by decide +kernel)
    · refine sr_ldc2 (q := 50) C co_X1_31 (show decode cX1_chance 47 = .ok (.ldc2_w 31, 3) from by decide +kernel) rfl ?_
      refine sr_lstore (i := 8) (L' := [some (xad κ v0), some (xad κ v1), some (.int v2), none, some (.int v4), some (.long v5), none, some (.int v7), some (.long (1000000000 : Int64)), none, none, none]) (q := 52) C (show decode cX1_chance 50 = .ok (.lstore 8, 2) from by decide +kernel) (by decide) rfl rfl ?_
      refine sr_iload (i := 4) (q := 54) C (show decode cX1_chance 52 = .ok (.iload 4, 2) from by decide +kernel) rfl rfl ?_
      refine sr_istore (i := 10) (L' := [some (xad κ v0), some (xad κ v1), some (.int v2), none, some (.int v4), some (.long v5), none, some (.int v7), some (.long (1000000000 : Int64)), none, some (.int v4), none]) (q := 56) C (show decode cX1_chance 54 = .ok (.istore 10, 2) from by decide +kernel) (by decide) rfl rfl ?_
      refine sr_iconst (v := (0 : Int32)) (q := 57) C (show decode cX1_chance 56 = .ok (.iconst 0, 1) from by decide +kernel) (by decide) rfl ?_
      refine sr_istore (i := 11) (L' := [some (xad κ v0), some (xad κ v1), some (.int v2), none, some (.int v4), some (.long v5), none, some (.int v7), some (.long (1000000000 : Int64)), none, some (.int v4), some (.int (0 : Int32))]) (q := 59) C (show decode cX1_chance 57 = .ok (.istore 11, 2) from by decide +kernel) (by decide) rfl rfl ?_
      exact slX1_chance_L59 C K36 4096 v0 v1 v2 v4 v5 v7 (1000000000 : Int64) v4 (0 : Int32) hv0 hv1
def fnX1_chance (v0 : Nat) (v1 : Nat) (v2 : Int32) (v3 : Int32) : sm_M Int64 := m_gi (lk v1 0) 1 fun x5 => m_br (v2 < x5)
    (m_bnd (fnX9_openFor v1 v3) fun x17 => m_bnd (fnX1_gather v0 v1 x17 v3) fun _ => fnX1_chance_L36 4096 v0 v1 v2 x17 (0 : Int64) (0 : Int32))
    (m_ret (1000000000 : Int64))
set_option maxHeartbeats 4000000 in
set_option maxRecDepth 100000 in
theorem slX1_chance {κ : sm_X} (C : sm_C κ RX1 cX1_chance 12 4) (v0 : Nat) (v1 : Nat) (v2 : Int32) (v3 : Int32) (hv0 : kd v0 = 1) (hv1 : kd v1 = 9) : sm_S κ (fun r : Int64 => .inr (some (.long r))) (.inl (0, [some (xad κ v0), some (xad κ v1), some (.int v2), some (.int v3), none, none, none, none, none, none, none, none], [])) (fnX1_chance v0 v1 v2 v3) := by
  unfold fnX1_chance
  refine sr_iload_n (i := 2) (q := 1) C (show decode cX1_chance 0 = .ok (.iload_n 2, 1) from by decide +kernel) rfl rfl rfl ?_
  refine sr_aload_n (i := 1) (q := 2) C (show decode cX1_chance 1 = .ok (.aload_n 1, 1) from by decide +kernel) rfl rfl rfl ?_
  refine sr_getr (q := 5) C fl_X1_19 hv1 (show decode cX1_chance 2 = .ok (.getfield 19, 3) from by decide +kernel) rfl ?_
  refine sr_geti (q := 8) C fl_X1_25 (Or.inl rfl) (kt hv1 kp_9_0) (show decode cX1_chance 5 = .ok (.getfield 25, 3) from by decide +kernel) rfl (fun x5 => ?_)
  refine sr_icmp_lt (q := 11) C 15 (show decode cX1_chance 8 = .ok (.if_icmp .lt 7, 3) from by decide +kernel) (by decide) rfl ?_ ?_
  · refine sr_aload_n (i := 1) (q := 16) C (show decode cX1_chance 15 = .ok (.aload_n 1, 1) from by decide +kernel) rfl rfl rfl ?_
    refine sr_iload_n (i := 3) (q := 17) C (show decode cX1_chance 16 = .ok (.iload_n 3, 1) from by decide +kernel) rfl rfl rfl ?_
    refine sr_cVi (As := [.int v3]) (st := []) (b := v1) (q := 20) C yvX9_openFor ml_X1_33 (cnX9_openFor (xo κ) v1 v3 hv1) hv1 (by decide) rfl rfl rfl (by decide) (by decide) (Nat.le_of_ble_eq_true rfl) rfl (show decode cX1_chance 17 = .ok (.invokevirtual 33, 3) from by decide +kernel) rfl (fun x17 => ?_)
    refine sr_istore (i := 4) (L' := [some (xad κ v0), some (xad κ v1), some (.int v2), some (.int v3), some (.int x17), none, none, none, none, none, none, none]) (q := 22) C (show decode cX1_chance 20 = .ok (.istore 4, 2) from by decide +kernel) (by decide) rfl rfl ?_
    refine sr_aload_n (i := 0) (q := 23) C (show decode cX1_chance 22 = .ok (.aload_n 0, 1) from by decide +kernel) rfl rfl rfl ?_
    refine sr_aload_n (i := 1) (q := 24) C (show decode cX1_chance 23 = .ok (.aload_n 1, 1) from by decide +kernel) rfl rfl rfl ?_
    refine sr_iload (i := 4) (q := 26) C (show decode cX1_chance 24 = .ok (.iload 4, 2) from by decide +kernel) rfl rfl ?_
    refine sr_iload_n (i := 3) (q := 27) C (show decode cX1_chance 26 = .ok (.iload_n 3, 1) from by decide +kernel) rfl rfl rfl ?_
    refine sr_cVv (As := [xad κ v1, .int x17, .int v3]) (st := []) (b := v0) (q := 30) C yvX1_gather ml_X1_37 (cnX1_gather (xo κ) v0 v1 x17 v3 hv0 hv1) hv0 (by decide) rfl rfl rfl (by decide) (by decide) (Nat.le_of_ble_eq_true rfl) rfl (show decode cX1_chance 27 = .ok (.invokevirtual 37, 3) from by decide +kernel) rfl (fun _ => ?_)
    refine sr_lconst (v := (0 : Int64)) (q := 31) C (show decode cX1_chance 30 = .ok (.lconst 0, 1) from by decide +kernel) (by decide) rfl ?_
    refine sr_lstore (i := 5) (L' := [some (xad κ v0), some (xad κ v1), some (.int v2), some (.int v3), some (.int x17), some (.long (0 : Int64)), none, none, none, none, none, none]) (q := 33) C (show decode cX1_chance 31 = .ok (.lstore 5, 2) from by decide +kernel) (by decide) rfl rfl ?_
    refine sr_iconst (v := (0 : Int32)) (q := 34) C (show decode cX1_chance 33 = .ok (.iconst 0, 1) from by decide +kernel) (by decide) rfl ?_
    refine sr_istore (i := 7) (L' := [some (xad κ v0), some (xad κ v1), some (.int v2), some (.int v3), some (.int x17), some (.long (0 : Int64)), none, some (.int (0 : Int32)), none, none, none, none]) (q := 36) C (show decode cX1_chance 34 = .ok (.istore 7, 2) from by decide +kernel) (by decide) rfl rfl ?_
    refine sr_weak (L' := [some (xad κ v0), some (xad κ v1), some (.int v2), none, some (.int x17), some (.long (0 : Int64)), none, some (.int (0 : Int32)), none, none, none, none]) ⟨rfl, rfl, rfl, rfl, rfl, rfl, trivial⟩ ?_
    exact slX1_chance_L36 C 4096 v0 v1 v2 x17 (0 : Int64) (0 : Int32) hv0 hv1
  · refine sr_ldc2 (q := 14) C co_X1_31 (show decode cX1_chance 11 = .ok (.ldc2_w 31, 3) from by decide +kernel) rfl ?_
    exact sr_lreturn C _ rfl (show decode cX1_chance 14 = .ok (.lreturn, 1) from by decide +kernel)
theorem cnX1_chance (ω : sm_O) (v0 : Nat) (v1 : Nat) (v2 : Int32) (v3 : Int32) (hv0 : kd v0 = 1) (hv1 : kd v1 = 9) : sm_Mt 4 yX1_chance cX1_chance 12 (some .long) ω [.ref (ω.1 + v0), .ref (ω.1 + v1), .int v2, .int v3] (fun a => some (.long a)) (fnX1_chance v0 v1 v2 v3) := by
  refine sm_conL (r := fun a => a) (by decide) (Nat.le_of_ble_eq_true rfl) ?_
  intro κ hκ C
  subst hκ
  exact slX1_chance C v0 v1 v2 v3 hv0 hv1
def fnX11_treadOf (v0 : Nat) (v1 : Int32) (v2 : Int32) (v3 : Int32) : sm_M Int64 := m_bnd (fnX9_takeFrom (lk v0 7) (lk v0 6)) fun _ => m_sai (lk (lk v0 7) 3) v1 (1 : Int32) <| m_bnd (fnX1_chance (lk v0 12) (lk v0 7) v2 v3) fun x31 => m_sai (lk (lk v0 7) 3) v1 (2 : Int32) <| m_bnd (fnX1_chance (lk v0 12) (lk v0 7) v2 v3) fun x56 => m_ai (lk (lk v0 5) 12) v1 fun x69 => m_gd (¬ (100 : Int64) = 0) <| m_bnd (fnX1_chance (lk v0 12) (lk v0 6) v2 v3) fun x102 => m_ret ((((x69.toInt64 * x31) + ((((100 : Int32) - x69).toInt64) * x56)) / (100 : Int64)) - x102)
set_option maxHeartbeats 4000000 in
set_option maxRecDepth 100000 in
theorem slX11_treadOf {κ : sm_X} (C : sm_C κ RX11 cX11_treadOf 9 5) (v0 : Nat) (v1 : Int32) (v2 : Int32) (v3 : Int32) (hv0 : kd v0 = 11) : sm_S κ (fun r : Int64 => .inr (some (.long r))) (.inl (0, [some (xad κ v0), some (.int v1), some (.int v2), some (.int v3), none, none, none, none, none], [])) (fnX11_treadOf v0 v1 v2 v3) := by
  unfold fnX11_treadOf
  refine sr_aload_n (i := 0) (q := 1) C (show decode cX11_treadOf 0 = .ok (.aload_n 0, 1) from by decide +kernel) rfl rfl rfl ?_
  refine sr_getr (q := 4) C fl_X11_40 hv0 (show decode cX11_treadOf 1 = .ok (.getfield 40, 3) from by decide +kernel) rfl ?_
  refine sr_aload_n (i := 0) (q := 5) C (show decode cX11_treadOf 4 = .ok (.aload_n 0, 1) from by decide +kernel) rfl rfl rfl ?_
  refine sr_getr (q := 8) C fl_X11_36 hv0 (show decode cX11_treadOf 5 = .ok (.getfield 36, 3) from by decide +kernel) rfl ?_
  refine sr_cVv (As := [xad κ (lk v0 6)]) (st := []) (b := lk v0 7) (q := 11) C yvX9_takeFrom ml_X11_239 (cnX9_takeFrom (xo κ) (lk v0 7) (lk v0 6) (kt hv0 kp_11_7) (kt hv0 kp_11_6)) (kt hv0 kp_11_7) (by decide) rfl rfl rfl (by decide) (by decide) (Nat.le_of_ble_eq_true rfl) rfl (show decode cX11_treadOf 8 = .ok (.invokevirtual 239, 3) from by decide +kernel) rfl (fun _ => ?_)
  refine sr_aload_n (i := 0) (q := 12) C (show decode cX11_treadOf 11 = .ok (.aload_n 0, 1) from by decide +kernel) rfl rfl rfl ?_
  refine sr_getr (q := 15) C fl_X11_40 hv0 (show decode cX11_treadOf 12 = .ok (.getfield 40, 3) from by decide +kernel) rfl ?_
  refine sr_getr (q := 18) C fl_X11_170 (kt hv0 kp_11_7) (show decode cX11_treadOf 15 = .ok (.getfield 170, 3) from by decide +kernel) rfl ?_
  refine sr_iload_n (i := 1) (q := 19) C (show decode cX11_treadOf 18 = .ok (.iload_n 1, 1) from by decide +kernel) rfl rfl rfl ?_
  refine sr_iconst (v := (1 : Int32)) (q := 20) C (show decode cX11_treadOf 19 = .ok (.iconst 1, 1) from by decide +kernel) (by decide) rfl ?_
  refine sr_iastore (q := 21) C (kt (kt hv0 kp_11_7) kp_9_3) (show decode cX11_treadOf 20 = .ok (.iastore, 1) from by decide +kernel) rfl ?_
  refine sr_aload_n (i := 0) (q := 22) C (show decode cX11_treadOf 21 = .ok (.aload_n 0, 1) from by decide +kernel) rfl rfl rfl ?_
  refine sr_getr (q := 25) C fl_X11_80 hv0 (show decode cX11_treadOf 22 = .ok (.getfield 80, 3) from by decide +kernel) rfl ?_
  refine sr_aload_n (i := 0) (q := 26) C (show decode cX11_treadOf 25 = .ok (.aload_n 0, 1) from by decide +kernel) rfl rfl rfl ?_
  refine sr_getr (q := 29) C fl_X11_40 hv0 (show decode cX11_treadOf 26 = .ok (.getfield 40, 3) from by decide +kernel) rfl ?_
  refine sr_iload_n (i := 2) (q := 30) C (show decode cX11_treadOf 29 = .ok (.iload_n 2, 1) from by decide +kernel) rfl rfl rfl ?_
  refine sr_iload_n (i := 3) (q := 31) C (show decode cX11_treadOf 30 = .ok (.iload_n 3, 1) from by decide +kernel) rfl rfl rfl ?_
  refine sr_cVl (As := [xad κ (lk v0 7), .int v2, .int v3]) (st := []) (b := lk v0 12) (q := 34) C yvX1_chance ml_X11_388 (cnX1_chance (xo κ) (lk v0 12) (lk v0 7) v2 v3 (kt hv0 kp_11_12) (kt hv0 kp_11_7)) (kt hv0 kp_11_12) (by decide) rfl rfl rfl (by decide) (by decide) (Nat.le_of_ble_eq_true rfl) rfl (show decode cX11_treadOf 31 = .ok (.invokevirtual 388, 3) from by decide +kernel) rfl (fun x31 => ?_)
  refine sr_lstore (i := 4) (L' := [some (xad κ v0), some (.int v1), some (.int v2), some (.int v3), some (.long x31), none, none, none, none]) (q := 36) C (show decode cX11_treadOf 34 = .ok (.lstore 4, 2) from by decide +kernel) (by decide) rfl rfl ?_
  refine sr_aload_n (i := 0) (q := 37) C (show decode cX11_treadOf 36 = .ok (.aload_n 0, 1) from by decide +kernel) rfl rfl rfl ?_
  refine sr_getr (q := 40) C fl_X11_40 hv0 (show decode cX11_treadOf 37 = .ok (.getfield 40, 3) from by decide +kernel) rfl ?_
  refine sr_getr (q := 43) C fl_X11_170 (kt hv0 kp_11_7) (show decode cX11_treadOf 40 = .ok (.getfield 170, 3) from by decide +kernel) rfl ?_
  refine sr_iload_n (i := 1) (q := 44) C (show decode cX11_treadOf 43 = .ok (.iload_n 1, 1) from by decide +kernel) rfl rfl rfl ?_
  refine sr_iconst (v := (2 : Int32)) (q := 45) C (show decode cX11_treadOf 44 = .ok (.iconst 2, 1) from by decide +kernel) (by decide) rfl ?_
  refine sr_iastore (q := 46) C (kt (kt hv0 kp_11_7) kp_9_3) (show decode cX11_treadOf 45 = .ok (.iastore, 1) from by decide +kernel) rfl ?_
  refine sr_aload_n (i := 0) (q := 47) C (show decode cX11_treadOf 46 = .ok (.aload_n 0, 1) from by decide +kernel) rfl rfl rfl ?_
  refine sr_getr (q := 50) C fl_X11_80 hv0 (show decode cX11_treadOf 47 = .ok (.getfield 80, 3) from by decide +kernel) rfl ?_
  refine sr_aload_n (i := 0) (q := 51) C (show decode cX11_treadOf 50 = .ok (.aload_n 0, 1) from by decide +kernel) rfl rfl rfl ?_
  refine sr_getr (q := 54) C fl_X11_40 hv0 (show decode cX11_treadOf 51 = .ok (.getfield 40, 3) from by decide +kernel) rfl ?_
  refine sr_iload_n (i := 2) (q := 55) C (show decode cX11_treadOf 54 = .ok (.iload_n 2, 1) from by decide +kernel) rfl rfl rfl ?_
  refine sr_iload_n (i := 3) (q := 56) C (show decode cX11_treadOf 55 = .ok (.iload_n 3, 1) from by decide +kernel) rfl rfl rfl ?_
  refine sr_cVl (As := [xad κ (lk v0 7), .int v2, .int v3]) (st := []) (b := lk v0 12) (q := 59) C yvX1_chance ml_X11_388 (cnX1_chance (xo κ) (lk v0 12) (lk v0 7) v2 v3 (kt hv0 kp_11_12) (kt hv0 kp_11_7)) (kt hv0 kp_11_12) (by decide) rfl rfl rfl (by decide) (by decide) (Nat.le_of_ble_eq_true rfl) rfl (show decode cX11_treadOf 56 = .ok (.invokevirtual 388, 3) from by decide +kernel) rfl (fun x56 => ?_)
  refine sr_lstore (i := 6) (L' := [some (xad κ v0), some (.int v1), some (.int v2), some (.int v3), some (.long x31), none, some (.long x56), none, none]) (q := 61) C (show decode cX11_treadOf 59 = .ok (.lstore 6, 2) from by decide +kernel) (by decide) rfl rfl ?_
  refine sr_aload_n (i := 0) (q := 62) C (show decode cX11_treadOf 61 = .ok (.aload_n 0, 1) from by decide +kernel) rfl rfl rfl ?_
  refine sr_getr (q := 65) C fl_X11_27 hv0 (show decode cX11_treadOf 62 = .ok (.getfield 27, 3) from by decide +kernel) rfl ?_
  refine sr_getr (q := 68) C fl_X11_396 (kt hv0 kp_11_5) (show decode cX11_treadOf 65 = .ok (.getfield 396, 3) from by decide +kernel) rfl ?_
  refine sr_iload_n (i := 1) (q := 69) C (show decode cX11_treadOf 68 = .ok (.iload_n 1, 1) from by decide +kernel) rfl rfl rfl ?_
  refine sr_iaload (q := 70) C (kt (kt hv0 kp_11_5) kp_7_12) (show decode cX11_treadOf 69 = .ok (.iaload, 1) from by decide +kernel) rfl (fun x69 => ?_)
  refine sr_istore (i := 8) (L' := [some (xad κ v0), some (.int v1), some (.int v2), some (.int v3), some (.long x31), none, some (.long x56), none, some (.int x69)]) (q := 72) C (show decode cX11_treadOf 70 = .ok (.istore 8, 2) from by decide +kernel) (by decide) rfl rfl ?_
  refine sr_iload (i := 8) (q := 74) C (show decode cX11_treadOf 72 = .ok (.iload 8, 2) from by decide +kernel) rfl rfl ?_
  refine sr_i2l (q := 75) C (show decode cX11_treadOf 74 = .ok (.i2l, 1) from by decide +kernel) rfl ?_
  refine sr_lload (i := 4) (q := 77) C (show decode cX11_treadOf 75 = .ok (.lload 4, 2) from by decide +kernel) rfl rfl ?_
  refine sr_lmul (q := 78) C (show decode cX11_treadOf 77 = .ok (.lmul, 1) from by decide +kernel) rfl ?_
  refine sr_bipush (v := (100 : Int32)) (q := 80) C (show decode cX11_treadOf 78 = .ok (.bipush 100, 2) from by decide +kernel) (by decide) rfl ?_
  refine sr_iload (i := 8) (q := 82) C (show decode cX11_treadOf 80 = .ok (.iload 8, 2) from by decide +kernel) rfl rfl ?_
  refine sr_isub (q := 83) C (show decode cX11_treadOf 82 = .ok (.isub, 1) from by decide +kernel) rfl ?_
  refine sr_i2l (q := 84) C (show decode cX11_treadOf 83 = .ok (.i2l, 1) from by decide +kernel) rfl ?_
  refine sr_lload (i := 6) (q := 86) C (show decode cX11_treadOf 84 = .ok (.lload 6, 2) from by decide +kernel) rfl rfl ?_
  refine sr_lmul (q := 87) C (show decode cX11_treadOf 86 = .ok (.lmul, 1) from by decide +kernel) rfl ?_
  refine sr_ladd (q := 88) C (show decode cX11_treadOf 87 = .ok (.ladd, 1) from by decide +kernel) rfl ?_
  refine sr_ldc2 (q := 91) C co_X11_399 (show decode cX11_treadOf 88 = .ok (.ldc2_w 399, 3) from by decide +kernel) rfl ?_
  refine sr_ldiv (q := 92) C (show decode cX11_treadOf 91 = .ok (.ldiv, 1) from by decide +kernel) rfl ?_
  refine sr_aload_n (i := 0) (q := 93) C (show decode cX11_treadOf 92 = .ok (.aload_n 0, 1) from by decide +kernel) rfl rfl rfl ?_
  refine sr_getr (q := 96) C fl_X11_80 hv0 (show decode cX11_treadOf 93 = .ok (.getfield 80, 3) from by decide +kernel) rfl ?_
  refine sr_aload_n (i := 0) (q := 97) C (show decode cX11_treadOf 96 = .ok (.aload_n 0, 1) from by decide +kernel) rfl rfl rfl ?_
  refine sr_getr (q := 100) C fl_X11_36 hv0 (show decode cX11_treadOf 97 = .ok (.getfield 36, 3) from by decide +kernel) rfl ?_
  refine sr_iload_n (i := 2) (q := 101) C (show decode cX11_treadOf 100 = .ok (.iload_n 2, 1) from by decide +kernel) rfl rfl rfl ?_
  refine sr_iload_n (i := 3) (q := 102) C (show decode cX11_treadOf 101 = .ok (.iload_n 3, 1) from by decide +kernel) rfl rfl rfl ?_
  refine sr_cVl (As := [xad κ (lk v0 6), .int v2, .int v3]) (st := [.long (((x69.toInt64 * x31) + ((((100 : Int32) - x69).toInt64) * x56)) / (100 : Int64))]) (b := lk v0 12) (q := 105) C yvX1_chance ml_X11_388 (cnX1_chance (xo κ) (lk v0 12) (lk v0 6) v2 v3 (kt hv0 kp_11_12) (kt hv0 kp_11_6)) (kt hv0 kp_11_12) (by decide) rfl rfl rfl (by decide) (by decide) (Nat.le_of_ble_eq_true rfl) rfl (show decode cX11_treadOf 102 = .ok (.invokevirtual 388, 3) from by decide +kernel) rfl (fun x102 => ?_)
  refine sr_lsub (q := 106) C (show decode cX11_treadOf 105 = .ok (.lsub, 1) from by decide +kernel) rfl ?_
  exact sr_lreturn C _ rfl (show decode cX11_treadOf 106 = .ok (.lreturn, 1) from by decide +kernel)
theorem cnX11_treadOf (ω : sm_O) (v0 : Nat) (v1 : Int32) (v2 : Int32) (v3 : Int32) (hv0 : kd v0 = 11) : sm_Mt 5 yX11_treadOf cX11_treadOf 9 (some .long) ω [.ref (ω.1 + v0), .int v1, .int v2, .int v3] (fun a => some (.long a)) (fnX11_treadOf v0 v1 v2 v3) := by
  refine sm_conL (r := fun a => a) (by decide) (Nat.le_of_ble_eq_true rfl) ?_
  intro κ hκ C
  subst hκ
  exact slX11_treadOf C v0 v1 v2 v3 hv0
def fnX11_first_J79 (k26 : Nat → Int32 → Int32 → Int32 → Int64 → Int32 → sm_M Int32) (v0 : Nat) (v1 : Int32) (v2 : Int32) (v3 : Int32) (v4 : Int64) (v6 : Int32) : sm_M Int32 := k26 v0 v1 v2 v3 v4 (v6 + (1 : Int32))
set_option maxHeartbeats 4000000 in
set_option maxRecDepth 100000 in
theorem slX11_first_J79 {κ : sm_X} (C : sm_C κ RX11 cX11_first 9 6) {k26 : Nat → Int32 → Int32 → Int32 → Int64 → Int32 → sm_M Int32} (K26 : ∀ (v0 : Nat) (v1 : Int32) (v2 : Int32) (v3 : Int32) (v4 : Int64) (v6 : Int32) (hv0 : kd v0 = 11), sm_S κ (fun r : Int32 => .inr (some (.int r))) (.inl (26, [some (xad κ v0), some (.int v1), some (.int v2), some (.int v3), some (.long v4), none, some (.int v6), none, none], [])) (k26 v0 v1 v2 v3 v4 v6)) (v0 : Nat) (v1 : Int32) (v2 : Int32) (v3 : Int32) (v4 : Int64) (v6 : Int32) (hv0 : kd v0 = 11) : sm_S κ (fun r : Int32 => .inr (some (.int r))) (.inl (79, [some (xad κ v0), some (.int v1), some (.int v2), some (.int v3), some (.long v4), none, some (.int v6), none, none], [])) (fnX11_first_J79 k26 v0 v1 v2 v3 v4 v6) := by
  unfold fnX11_first_J79
  refine sr_iinc (v := v6 + (1 : Int32)) (L' := [some (xad κ v0), some (.int v1), some (.int v2), some (.int v3), some (.long v4), none, some (.int (v6 + (1 : Int32))), none, none]) (q := 82) C (show decode cX11_first 79 = .ok (.iinc 6 1, 3) from by decide +kernel) rfl rfl (by decide) rfl rfl ?_
  refine sr_goto (q := 26) C (show decode cX11_first 82 = .ok (.goto (-56), 3) from by decide +kernel) (by decide) ?_
  exact K26 v0 v1 v2 v3 v4 (v6 + (1 : Int32)) hv0
def fnX11_first_J62 (k26 : Nat → Int32 → Int32 → Int32 → Int64 → Int32 → sm_M Int32) (v0 : Nat) (v1 : Int32) (v2 : Int32) (v3 : Int32) (v4 : Int64) (v6 : Int32) (s0 : Int64) : sm_M Int32 := m_br ((lg_cmp s0 v4) ≤ 0)
    (fnX11_first_J79 k26 v0 v1 v2 v3 v4 v6)
    (fnX11_first_J79 k26 v0 v1 v2 v6 s0 v6)
set_option maxHeartbeats 4000000 in
set_option maxRecDepth 100000 in
theorem slX11_first_J62 {κ : sm_X} (C : sm_C κ RX11 cX11_first 9 6) {k26 : Nat → Int32 → Int32 → Int32 → Int64 → Int32 → sm_M Int32} (K26 : ∀ (v0 : Nat) (v1 : Int32) (v2 : Int32) (v3 : Int32) (v4 : Int64) (v6 : Int32) (hv0 : kd v0 = 11), sm_S κ (fun r : Int32 => .inr (some (.int r))) (.inl (26, [some (xad κ v0), some (.int v1), some (.int v2), some (.int v3), some (.long v4), none, some (.int v6), none, none], [])) (k26 v0 v1 v2 v3 v4 v6)) (v0 : Nat) (v1 : Int32) (v2 : Int32) (v3 : Int32) (v4 : Int64) (v6 : Int32) (s0 : Int64) (hv0 : kd v0 = 11) : sm_S κ (fun r : Int32 => .inr (some (.int r))) (.inl (62, [some (xad κ v0), some (.int v1), some (.int v2), some (.int v3), some (.long v4), none, some (.int v6), none, none], [.long s0])) (fnX11_first_J62 k26 v0 v1 v2 v3 v4 v6 s0) := by
  unfold fnX11_first_J62
  refine sr_lstore (i := 7) (L' := [some (xad κ v0), some (.int v1), some (.int v2), some (.int v3), some (.long v4), none, some (.int v6), some (.long s0), none]) (q := 64) C (show decode cX11_first 62 = .ok (.lstore 7, 2) from by decide +kernel) (by decide) rfl rfl ?_
  refine sr_lload (i := 7) (q := 66) C (show decode cX11_first 64 = .ok (.lload 7, 2) from by decide +kernel) rfl rfl ?_
  refine sr_lload (i := 4) (q := 68) C (show decode cX11_first 66 = .ok (.lload 4, 2) from by decide +kernel) rfl rfl ?_
  refine sr_lcmp (q := 69) C (show decode cX11_first 68 = .ok (.lcmp, 1) from by decide +kernel) rfl ?_
  refine sr_if_le (q := 72) C 79 (show decode cX11_first 69 = .ok (.ifCond .le 10, 3) from by decide +kernel) (by decide) rfl ?_ ?_
  · refine sr_weak (L' := [some (xad κ v0), some (.int v1), some (.int v2), some (.int v3), some (.long v4), none, some (.int v6), none, none]) ⟨rfl, rfl, rfl, rfl, rfl, rfl, trivial⟩ ?_
    exact slX11_first_J79 C K26 v0 v1 v2 v3 v4 v6 hv0
  · refine sr_lload (i := 7) (q := 74) C (show decode cX11_first 72 = .ok (.lload 7, 2) from by decide +kernel) rfl rfl ?_
    refine sr_lstore (i := 4) (L' := [some (xad κ v0), some (.int v1), some (.int v2), some (.int v3), some (.long s0), none, some (.int v6), some (.long s0), none]) (q := 76) C (show decode cX11_first 74 = .ok (.lstore 4, 2) from by decide +kernel) (by decide) rfl rfl ?_
    refine sr_iload (i := 6) (q := 78) C (show decode cX11_first 76 = .ok (.iload 6, 2) from by decide +kernel) rfl rfl ?_
    refine sr_istore_n (i := 3) (L' := [some (xad κ v0), some (.int v1), some (.int v2), some (.int v6), some (.long s0), none, some (.int v6), some (.long s0), none]) (q := 79) C (show decode cX11_first 78 = .ok (.istore_n 3, 1) from by decide +kernel) rfl (by decide) rfl rfl ?_
    refine sr_weak (L' := [some (xad κ v0), some (.int v1), some (.int v2), some (.int v6), some (.long s0), none, some (.int v6), none, none]) ⟨rfl, rfl, rfl, rfl, rfl, rfl, trivial⟩ ?_
    exact slX11_first_J79 C K26 v0 v1 v2 v6 s0 v6 hv0
def fnX11_first_L26 : Nat → Nat → Int32 → Int32 → Int32 → Int64 → Int32 → sm_M Int32
  | 0, _, _, _, _, _, _ => m_fail
  | n + 1, v0, v1, v2, v3, v4, v6 => m_gi (lk v0 5) 4 fun x32 => m_br (x32 ≤ v6)
    (m_ret v3)
    (m_bnd (fnX9_inDoubt (lk v0 6) v6) fun x44 => m_br ((bI x44) = 0)
    (fnX11_first_J62 (fnX11_first_L26 n) v0 v1 v2 v3 v4 v6 (0 : Int64))
    (m_bnd (fnX11_treadOf v0 v6 v1 v2) fun x55 => fnX11_first_J62 (fnX11_first_L26 n) v0 v1 v2 v3 v4 v6 x55))
set_option maxHeartbeats 4000000 in
set_option maxRecDepth 100000 in
theorem slX11_first_L26 {κ : sm_X} (C : sm_C κ RX11 cX11_first 9 6) : ∀ (n : Nat) (v0 : Nat) (v1 : Int32) (v2 : Int32) (v3 : Int32) (v4 : Int64) (v6 : Int32) (hv0 : kd v0 = 11), sm_S κ (fun r : Int32 => .inr (some (.int r))) (.inl (26, [some (xad κ v0), some (.int v1), some (.int v2), some (.int v3), some (.long v4), none, some (.int v6), none, none], [])) (fnX11_first_L26 n v0 v1 v2 v3 v4 v6) := by
  intro n
  induction n with
  | zero =>
    intros
    exact sr_fail
  | succ n K26 =>
    intro v0 v1 v2 v3 v4 v6 hv0
    unfold fnX11_first_L26
    refine sr_iload (i := 6) (q := 28) C (show decode cX11_first 26 = .ok (.iload 6, 2) from by decide +kernel) rfl rfl ?_
    refine sr_aload_n (i := 0) (q := 29) C (show decode cX11_first 28 = .ok (.aload_n 0, 1) from by decide +kernel) rfl rfl rfl ?_
    refine sr_getr (q := 32) C fl_X11_27 hv0 (show decode cX11_first 29 = .ok (.getfield 27, 3) from by decide +kernel) rfl ?_
    refine sr_geti (q := 35) C fl_X11_374 (Or.inl rfl) (kt hv0 kp_11_5) (show decode cX11_first 32 = .ok (.getfield 374, 3) from by decide +kernel) rfl (fun x32 => ?_)
    refine sr_icmp_ge (q := 38) C 85 (show decode cX11_first 35 = .ok (.if_icmp .ge 50, 3) from by decide +kernel) (by decide) rfl ?_ ?_
    · refine sr_iload_n (i := 3) (q := 86) C (show decode cX11_first 85 = .ok (.iload_n 3, 1) from by decide +kernel) rfl rfl rfl ?_
      exact sr_ireturn C _ rfl (show decode cX11_first 86 = .ok (.ireturn, 1) from by decide +kernel)
    · refine sr_aload_n (i := 0) (q := 39) C (show decode cX11_first 38 = .ok (.aload_n 0, 1) from by decide +kernel) rfl rfl rfl ?_
      refine sr_getr (q := 42) C fl_X11_36 hv0 (show decode cX11_first 39 = .ok (.getfield 36, 3) from by decide +kernel) rfl ?_
      refine sr_iload (i := 6) (q := 44) C (show decode cX11_first 42 = .ok (.iload 6, 2) from by decide +kernel) rfl rfl ?_
      refine sr_cVz (As := [.int v6]) (st := []) (b := lk v0 6) (q := 47) C yvX9_inDoubt ml_X11_167 (cnX9_inDoubt (xo κ) (lk v0 6) v6 (kt hv0 kp_11_6)) (kt hv0 kp_11_6) (by decide) rfl rfl rfl (by decide) (by decide) (Nat.le_of_ble_eq_true rfl) rfl (show decode cX11_first 44 = .ok (.invokevirtual 167, 3) from by decide +kernel) rfl (fun x44 => ?_)
      refine sr_if_eq (q := 50) C 61 (show decode cX11_first 47 = .ok (.ifCond .eq 14, 3) from by decide +kernel) (by decide) rfl ?_ ?_
      · refine sr_lconst (v := (0 : Int64)) (q := 62) C (show decode cX11_first 61 = .ok (.lconst 0, 1) from by decide +kernel) (by decide) rfl ?_
        exact slX11_first_J62 C K26 v0 v1 v2 v3 v4 v6 (0 : Int64) hv0
      · refine sr_aload_n (i := 0) (q := 51) C (show decode cX11_first 50 = .ok (.aload_n 0, 1) from by decide +kernel) rfl rfl rfl ?_
        refine sr_iload (i := 6) (q := 53) C (show decode cX11_first 51 = .ok (.iload 6, 2) from by decide +kernel) rfl rfl ?_
        refine sr_iload_n (i := 1) (q := 54) C (show decode cX11_first 53 = .ok (.iload_n 1, 1) from by decide +kernel) rfl rfl rfl ?_
        refine sr_iload_n (i := 2) (q := 55) C (show decode cX11_first 54 = .ok (.iload_n 2, 1) from by decide +kernel) rfl rfl rfl ?_
        refine sr_cVl (As := [.int v6, .int v1, .int v2]) (st := []) (b := v0) (q := 58) C yvX11_treadOf ml_X11_392 (cnX11_treadOf (xo κ) v0 v6 v1 v2 hv0) hv0 (by decide) rfl rfl rfl (by decide) (by decide) (Nat.le_of_ble_eq_true rfl) rfl (show decode cX11_first 55 = .ok (.invokevirtual 392, 3) from by decide +kernel) rfl (fun x55 => ?_)
        refine sr_goto (q := 62) C (show decode cX11_first 58 = .ok (.goto 4, 3) from by decide +kernel) (by decide) ?_
        exact slX11_first_J62 C K26 v0 v1 v2 v3 v4 v6 x55 hv0
def fnX11_first (v0 : Nat) (v1 : Int32) (v2 : Int32) : sm_M Int32 := m_bnd (fnX11_isStride v0 v1) fun x2 => m_br ((bI x2) = 0)
    (m_ret (-2 : Int32))
    (m_bnd (fnX11_isWeight v2) fun x9 => m_br ((bI x9) = 0)
    (m_ret (-2 : Int32))
    (fnX11_first_L26 4096 v0 v1 v2 (-1 : Int32) (0 : Int64) (0 : Int32)))
set_option maxHeartbeats 4000000 in
set_option maxRecDepth 100000 in
theorem slX11_first {κ : sm_X} (C : sm_C κ RX11 cX11_first 9 6) (v0 : Nat) (v1 : Int32) (v2 : Int32) (hv0 : kd v0 = 11) : sm_S κ (fun r : Int32 => .inr (some (.int r))) (.inl (0, [some (xad κ v0), some (.int v1), some (.int v2), none, none, none, none, none, none], [])) (fnX11_first v0 v1 v2) := by
  unfold fnX11_first
  refine sr_aload_n (i := 0) (q := 1) C (show decode cX11_first 0 = .ok (.aload_n 0, 1) from by decide +kernel) rfl rfl rfl ?_
  refine sr_iload_n (i := 1) (q := 2) C (show decode cX11_first 1 = .ok (.iload_n 1, 1) from by decide +kernel) rfl rfl rfl ?_
  refine sr_cVz (As := [.int v1]) (st := []) (b := v0) (q := 5) C yvX11_isStride ml_X11_187 (cnX11_isStride (xo κ) v0 v1 hv0) hv0 (by decide) rfl rfl rfl (by decide) (by decide) (Nat.le_of_ble_eq_true rfl) rfl (show decode cX11_first 2 = .ok (.invokevirtual 187, 3) from by decide +kernel) rfl (fun x2 => ?_)
  refine sr_if_eq (q := 8) C 15 (show decode cX11_first 5 = .ok (.ifCond .eq 10, 3) from by decide +kernel) (by decide) rfl ?_ ?_
  · refine sr_bipush (v := (-2 : Int32)) (q := 17) C (show decode cX11_first 15 = .ok (.bipush (-2), 2) from by decide +kernel) (by decide) rfl ?_
    exact sr_ireturn C _ rfl (show decode cX11_first 17 = .ok (.ireturn, 1) from by decide +kernel)
  · refine sr_iload_n (i := 2) (q := 9) C (show decode cX11_first 8 = .ok (.iload_n 2, 1) from by decide +kernel) rfl rfl rfl ?_
    refine sr_cSz (As := [.int v2]) (st := []) (q := 12) C ysX11_isWeight ml_X11_211 (cnX11_isWeight (xo κ) v2) rfl (by decide) (by decide) (Nat.le_of_ble_eq_true rfl) rfl (show decode cX11_first 9 = .ok (.invokestatic 211, 3) from by decide +kernel) rfl (fun x9 => ?_)
    refine sr_if_ne (q := 15) C 18 (show decode cX11_first 12 = .ok (.ifCond .ne 6, 3) from by decide +kernel) (by decide) rfl ?_ ?_
    · refine sr_iconst (v := (-1 : Int32)) (q := 19) C (show decode cX11_first 18 = .ok (.iconst (-1), 1) from by decide +kernel) (by decide) rfl ?_
      refine sr_istore_n (i := 3) (L' := [some (xad κ v0), some (.int v1), some (.int v2), some (.int (-1 : Int32)), none, none, none, none, none]) (q := 20) C (show decode cX11_first 19 = .ok (.istore_n 3, 1) from by decide +kernel) rfl (by decide) rfl rfl ?_
      refine sr_lconst (v := (0 : Int64)) (q := 21) C (show decode cX11_first 20 = .ok (.lconst 0, 1) from by decide +kernel) (by decide) rfl ?_
      refine sr_lstore (i := 4) (L' := [some (xad κ v0), some (.int v1), some (.int v2), some (.int (-1 : Int32)), some (.long (0 : Int64)), none, none, none, none]) (q := 23) C (show decode cX11_first 21 = .ok (.lstore 4, 2) from by decide +kernel) (by decide) rfl rfl ?_
      refine sr_iconst (v := (0 : Int32)) (q := 24) C (show decode cX11_first 23 = .ok (.iconst 0, 1) from by decide +kernel) (by decide) rfl ?_
      refine sr_istore (i := 6) (L' := [some (xad κ v0), some (.int v1), some (.int v2), some (.int (-1 : Int32)), some (.long (0 : Int64)), none, some (.int (0 : Int32)), none, none]) (q := 26) C (show decode cX11_first 24 = .ok (.istore 6, 2) from by decide +kernel) (by decide) rfl rfl ?_
      exact slX11_first_L26 C 4096 v0 v1 v2 (-1 : Int32) (0 : Int64) (0 : Int32) hv0
    · refine sr_bipush (v := (-2 : Int32)) (q := 17) C (show decode cX11_first 15 = .ok (.bipush (-2), 2) from by decide +kernel) (by decide) rfl ?_
      exact sr_ireturn C _ rfl (show decode cX11_first 17 = .ok (.ireturn, 1) from by decide +kernel)
theorem cnX11_first (ω : sm_O) (v0 : Nat) (v1 : Int32) (v2 : Int32) (hv0 : kd v0 = 11) : sm_Mt 6 yX11_first cX11_first 9 (some .int) ω [.ref (ω.1 + v0), .int v1, .int v2] (fun a => some (.int a)) (fnX11_first v0 v1 v2) := by
  refine sm_conI (r := fun a => a) (by decide) (fun _ => rfl) (Nat.le_of_ble_eq_true rfl) ?_
  intro κ hκ C
  subst hκ
  exact slX11_first C v0 v1 v2 hv0
def fnX11_fresh (v0 : Nat) : sm_M Int32 := m_bnd (fnX5_forget (lk v0 11)) fun _ => m_bnd (fnX9_wash (lk v0 6)) fun x11 => m_ret x11
set_option maxHeartbeats 4000000 in
set_option maxRecDepth 100000 in
theorem slX11_fresh {κ : sm_X} (C : sm_C κ RX11 cX11_fresh 1 2) (v0 : Nat) (hv0 : kd v0 = 11) : sm_S κ (fun r : Int32 => .inr (some (.int r))) (.inl (0, [some (xad κ v0)], [])) (fnX11_fresh v0) := by
  unfold fnX11_fresh
  refine sr_aload_n (i := 0) (q := 1) C (show decode cX11_fresh 0 = .ok (.aload_n 0, 1) from by decide +kernel) rfl rfl rfl ?_
  refine sr_getr (q := 4) C fl_X11_73 hv0 (show decode cX11_fresh 1 = .ok (.getfield 73, 3) from by decide +kernel) rfl ?_
  refine sr_cVv (As := []) (st := []) (b := lk v0 11) (q := 7) C yvX5_forget ml_X11_140 (cnX5_forget (xo κ) (lk v0 11) (kt hv0 kp_11_11)) (kt hv0 kp_11_11) (by decide) rfl rfl rfl (by decide) (by decide) (Nat.le_of_ble_eq_true rfl) rfl (show decode cX11_fresh 4 = .ok (.invokevirtual 140, 3) from by decide +kernel) rfl (fun _ => ?_)
  refine sr_aload_n (i := 0) (q := 8) C (show decode cX11_fresh 7 = .ok (.aload_n 0, 1) from by decide +kernel) rfl rfl rfl ?_
  refine sr_getr (q := 11) C fl_X11_36 hv0 (show decode cX11_fresh 8 = .ok (.getfield 36, 3) from by decide +kernel) rfl ?_
  refine sr_cVi (As := []) (st := []) (b := lk v0 6) (q := 14) C yvX9_wash ml_X11_207 (cnX9_wash (xo κ) (lk v0 6) (kt hv0 kp_11_6)) (kt hv0 kp_11_6) (by decide) rfl rfl rfl (by decide) (by decide) (Nat.le_of_ble_eq_true rfl) rfl (show decode cX11_fresh 11 = .ok (.invokevirtual 207, 3) from by decide +kernel) rfl (fun x11 => ?_)
  exact sr_ireturn C _ rfl (show decode cX11_fresh 14 = .ok (.ireturn, 1) from by decide +kernel)
theorem cnX11_fresh (ω : sm_O) (v0 : Nat) (hv0 : kd v0 = 11) : sm_Mt 2 yX11_fresh cX11_fresh 1 (some .int) ω [.ref (ω.1 + v0)] (fun a => some (.int a)) (fnX11_fresh v0) := by
  refine sm_conI (r := fun a => a) (by decide) (fun _ => rfl) (Nat.le_of_ble_eq_true rfl) ?_
  intro κ hκ C
  subst hκ
  exact slX11_fresh C v0 hv0
def fnX5_isBetter (v0 : Nat) (v1 : Int32) (v2 : Int32) : sm_M Bool := m_gi v0 0 fun x2 => m_br (x2 < v1)
    (m_ret true)
    (m_gi v0 0 fun x10 => m_br (v1 = x10)
    (m_gi v0 1 fun x18 => m_br (v2 ≤ x18)
    (m_ret false)
    (m_ret true))
    (m_ret false))
set_option maxHeartbeats 4000000 in
set_option maxRecDepth 100000 in
theorem slX5_isBetter {κ : sm_X} (C : sm_C κ RX5 cX5_isBetter 3 1) (v0 : Nat) (v1 : Int32) (v2 : Int32) (hv0 : kd v0 = 5) : sm_S κ (fun r : Bool => .inr (some (.int (bI r)))) (.inl (0, [some (xad κ v0), some (.int v1), some (.int v2)], [])) (fnX5_isBetter v0 v1 v2) := by
  unfold fnX5_isBetter
  refine sr_iload_n (i := 1) (q := 1) C (show decode cX5_isBetter 0 = .ok (.iload_n 1, 1) from by decide +kernel) rfl rfl rfl ?_
  refine sr_aload_n (i := 0) (q := 2) C (show decode cX5_isBetter 1 = .ok (.aload_n 0, 1) from by decide +kernel) rfl rfl rfl ?_
  refine sr_geti (q := 5) C fl_X5_61 (Or.inl rfl) hv0 (show decode cX5_isBetter 2 = .ok (.getfield 61, 3) from by decide +kernel) rfl (fun x2 => ?_)
  refine sr_icmp_gt (q := 8) C 24 (show decode cX5_isBetter 5 = .ok (.if_icmp .gt 19, 3) from by decide +kernel) (by decide) rfl ?_ ?_
  · refine sr_iconst (v := (1 : Int32)) (q := 25) C (show decode cX5_isBetter 24 = .ok (.iconst 1, 1) from by decide +kernel) (by decide) rfl ?_
    refine sr_goto (q := 29) C (show decode cX5_isBetter 25 = .ok (.goto 4, 3) from by decide +kernel) (by decide) ?_
    exact sr_ireturn C true rfl (show decode cX5_isBetter 29 = .ok (.ireturn, 1) from by decide +kernel)
  · refine sr_iload_n (i := 1) (q := 9) C (show decode cX5_isBetter 8 = .ok (.iload_n 1, 1) from by decide +kernel) rfl rfl rfl ?_
    refine sr_aload_n (i := 0) (q := 10) C (show decode cX5_isBetter 9 = .ok (.aload_n 0, 1) from by decide +kernel) rfl rfl rfl ?_
    refine sr_geti (q := 13) C fl_X5_61 (Or.inl rfl) hv0 (show decode cX5_isBetter 10 = .ok (.getfield 61, 3) from by decide +kernel) rfl (fun x10 => ?_)
    refine sr_icmp_ne (q := 16) C 28 (show decode cX5_isBetter 13 = .ok (.if_icmp .ne 15, 3) from by decide +kernel) (by decide) rfl ?_ ?_
    · refine sr_iconst (v := (0 : Int32)) (q := 29) C (show decode cX5_isBetter 28 = .ok (.iconst 0, 1) from by decide +kernel) (by decide) rfl ?_
      exact sr_ireturn C false rfl (show decode cX5_isBetter 29 = .ok (.ireturn, 1) from by decide +kernel)
    · refine sr_iload_n (i := 2) (q := 17) C (show decode cX5_isBetter 16 = .ok (.iload_n 2, 1) from by decide +kernel) rfl rfl rfl ?_
      refine sr_aload_n (i := 0) (q := 18) C (show decode cX5_isBetter 17 = .ok (.aload_n 0, 1) from by decide +kernel) rfl rfl rfl ?_
      refine sr_geti (q := 21) C fl_X5_64 (Or.inl rfl) hv0 (show decode cX5_isBetter 18 = .ok (.getfield 64, 3) from by decide +kernel) rfl (fun x18 => ?_)
      refine sr_icmp_le (q := 24) C 28 (show decode cX5_isBetter 21 = .ok (.if_icmp .le 7, 3) from by decide +kernel) (by decide) rfl ?_ ?_
      · refine sr_iconst (v := (0 : Int32)) (q := 29) C (show decode cX5_isBetter 28 = .ok (.iconst 0, 1) from by decide +kernel) (by decide) rfl ?_
        exact sr_ireturn C false rfl (show decode cX5_isBetter 29 = .ok (.ireturn, 1) from by decide +kernel)
      · refine sr_iconst (v := (1 : Int32)) (q := 25) C (show decode cX5_isBetter 24 = .ok (.iconst 1, 1) from by decide +kernel) (by decide) rfl ?_
        refine sr_goto (q := 29) C (show decode cX5_isBetter 25 = .ok (.goto 4, 3) from by decide +kernel) (by decide) ?_
        exact sr_ireturn C true rfl (show decode cX5_isBetter 29 = .ok (.ireturn, 1) from by decide +kernel)
theorem cnX5_isBetter (ω : sm_O) (v0 : Nat) (v1 : Int32) (v2 : Int32) (hv0 : kd v0 = 5) : sm_Mt 1 yX5_isBetter cX5_isBetter 3 (some .boolean) ω [.ref (ω.1 + v0), .int v1, .int v2] (fun a => some (.int (bI a))) (fnX5_isBetter v0 v1 v2) := by
  refine sm_conI (r := bI) (by decide) bI_nar (Nat.le_of_ble_eq_true rfl) ?_
  intro κ hκ C
  subst hκ
  exact slX5_isBetter C v0 v1 v2 hv0
def fnX7_mustGo (v0 : Nat) (v1 : Int32) : sm_M Bool := m_gi v0 6 fun x1 => m_bnd (fnX7_peopleOf v0 v1) fun x6 => m_br ((x1 &&& x6) = 0)
    (m_ret false)
    (m_ret true)
set_option maxHeartbeats 4000000 in
set_option maxRecDepth 100000 in
theorem slX7_mustGo {κ : sm_X} (C : sm_C κ RX7 cX7_mustGo 2 2) (v0 : Nat) (v1 : Int32) (hv0 : kd v0 = 7) : sm_S κ (fun r : Bool => .inr (some (.int (bI r)))) (.inl (0, [some (xad κ v0), some (.int v1)], [])) (fnX7_mustGo v0 v1) := by
  unfold fnX7_mustGo
  refine sr_aload_n (i := 0) (q := 1) C (show decode cX7_mustGo 0 = .ok (.aload_n 0, 1) from by decide +kernel) rfl rfl rfl ?_
  refine sr_geti (q := 4) C fl_X7_58 (Or.inl rfl) hv0 (show decode cX7_mustGo 1 = .ok (.getfield 58, 3) from by decide +kernel) rfl (fun x1 => ?_)
  refine sr_aload_n (i := 0) (q := 5) C (show decode cX7_mustGo 4 = .ok (.aload_n 0, 1) from by decide +kernel) rfl rfl rfl ?_
  refine sr_iload_n (i := 1) (q := 6) C (show decode cX7_mustGo 5 = .ok (.iload_n 1, 1) from by decide +kernel) rfl rfl rfl ?_
  refine sr_cVi (As := [.int v1]) (st := [.int x1]) (b := v0) (q := 9) C yvX7_peopleOf ml_X7_83 (cnX7_peopleOf (xo κ) v0 v1 hv0) hv0 (by decide) rfl rfl rfl (by decide) (by decide) (Nat.le_of_ble_eq_true rfl) rfl (show decode cX7_mustGo 6 = .ok (.invokevirtual 83, 3) from by decide +kernel) rfl (fun x6 => ?_)
  refine sr_iand (q := 10) C (show decode cX7_mustGo 9 = .ok (.iand, 1) from by decide +kernel) rfl ?_
  refine sr_if_eq (q := 13) C 17 (show decode cX7_mustGo 10 = .ok (.ifCond .eq 7, 3) from by decide +kernel) (by decide) rfl ?_ ?_
  · refine sr_iconst (v := (0 : Int32)) (q := 18) C (show decode cX7_mustGo 17 = .ok (.iconst 0, 1) from by decide +kernel) (by decide) rfl ?_
    exact sr_ireturn C false rfl (show decode cX7_mustGo 18 = .ok (.ireturn, 1) from by decide +kernel)
  · refine sr_iconst (v := (1 : Int32)) (q := 14) C (show decode cX7_mustGo 13 = .ok (.iconst 1, 1) from by decide +kernel) (by decide) rfl ?_
    refine sr_goto (q := 18) C (show decode cX7_mustGo 14 = .ok (.goto 4, 3) from by decide +kernel) (by decide) ?_
    exact sr_ireturn C true rfl (show decode cX7_mustGo 18 = .ok (.ireturn, 1) from by decide +kernel)
theorem cnX7_mustGo (ω : sm_O) (v0 : Nat) (v1 : Int32) (hv0 : kd v0 = 7) : sm_Mt 2 yX7_mustGo cX7_mustGo 2 (some .boolean) ω [.ref (ω.1 + v0), .int v1] (fun a => some (.int (bI a))) (fnX7_mustGo v0 v1) := by
  refine sm_conI (r := bI) (by decide) bI_nar (Nat.le_of_ble_eq_true rfl) ?_
  intro κ hκ C
  subst hκ
  exact slX7_mustGo C v0 v1 hv0
def fnX5_couldBeBetter_J90 (v0 : Nat) (v5 : Int32) (v6 : Int32) : sm_M Bool := m_bnd (fnX5_isBetter v0 v5 v6) fun x95 => m_ret x95
set_option maxHeartbeats 4000000 in
set_option maxRecDepth 100000 in
theorem slX5_couldBeBetter_J90 {κ : sm_X} (C : sm_C κ RX5 cX5_couldBeBetter 9 5) (v0 : Nat) (v5 : Int32) (v6 : Int32) (hv0 : kd v0 = 5) : sm_S κ (fun r : Bool => .inr (some (.int (bI r)))) (.inl (90, [some (xad κ v0), none, none, none, none, some (.int v5), some (.int v6), none, none], [])) (fnX5_couldBeBetter_J90 v0 v5 v6) := by
  unfold fnX5_couldBeBetter_J90
  refine sr_aload_n (i := 0) (q := 91) C (show decode cX5_couldBeBetter 90 = .ok (.aload_n 0, 1) from by decide +kernel) rfl rfl rfl ?_
  refine sr_iload (i := 5) (q := 93) C (show decode cX5_couldBeBetter 91 = .ok (.iload 5, 2) from by decide +kernel) rfl rfl ?_
  refine sr_iload (i := 6) (q := 95) C (show decode cX5_couldBeBetter 93 = .ok (.iload 6, 2) from by decide +kernel) rfl rfl ?_
  refine sr_cVz (As := [.int v5, .int v6]) (st := []) (b := v0) (q := 98) C yvX5_isBetter ml_X5_75 (cnX5_isBetter (xo κ) v0 v5 v6 hv0) hv0 (by decide) rfl rfl rfl (by decide) (by decide) (Nat.le_of_ble_eq_true rfl) rfl (show decode cX5_couldBeBetter 95 = .ok (.invokevirtual 75, 3) from by decide +kernel) rfl (fun x95 => ?_)
  exact sr_ireturn C x95 rfl (show decode cX5_couldBeBetter 98 = .ok (.ireturn, 1) from by decide +kernel)
def fnX5_couldBeBetter_J78 (k10 : Nat → Nat → Int32 → Int32 → Int32 → sm_M Bool) (v0 : Nat) (v1 : Nat) (v5 : Int32) (v6 : Int32) (v7 : Int32) : sm_M Bool := m_nm (v7 &&& (v7 - (1 : Int32))) fun y85 => k10 v0 v1 v5 v6 y85
set_option maxHeartbeats 4000000 in
set_option maxRecDepth 100000 in
theorem slX5_couldBeBetter_J78 {κ : sm_X} (C : sm_C κ RX5 cX5_couldBeBetter 9 5) {k10 : Nat → Nat → Int32 → Int32 → Int32 → sm_M Bool} (K10 : ∀ (v0 : Nat) (v1 : Nat) (v5 : Int32) (v6 : Int32) (v7 : Int32) (hv0 : kd v0 = 5) (hv1 : kd v1 = 9), sm_S κ (fun r : Bool => .inr (some (.int (bI r)))) (.inl (10, [some (xad κ v0), some (xad κ v1), none, none, none, some (.int v5), some (.int v6), some (.int v7), none], [])) (k10 v0 v1 v5 v6 v7)) (v0 : Nat) (v1 : Nat) (v5 : Int32) (v6 : Int32) (v7 : Int32) (hv0 : kd v0 = 5) (hv1 : kd v1 = 9) : sm_S κ (fun r : Bool => .inr (some (.int (bI r)))) (.inl (78, [some (xad κ v0), some (xad κ v1), none, none, none, some (.int v5), some (.int v6), some (.int v7), none], [])) (fnX5_couldBeBetter_J78 k10 v0 v1 v5 v6 v7) := by
  unfold fnX5_couldBeBetter_J78
  refine sr_iload (i := 7) (q := 80) C (show decode cX5_couldBeBetter 78 = .ok (.iload 7, 2) from by decide +kernel) rfl rfl ?_
  refine sr_iload (i := 7) (q := 82) C (show decode cX5_couldBeBetter 80 = .ok (.iload 7, 2) from by decide +kernel) rfl rfl ?_
  refine sr_iconst (v := (1 : Int32)) (q := 83) C (show decode cX5_couldBeBetter 82 = .ok (.iconst 1, 1) from by decide +kernel) (by decide) rfl ?_
  refine sr_isub (q := 84) C (show decode cX5_couldBeBetter 83 = .ok (.isub, 1) from by decide +kernel) rfl ?_
  refine sr_iand (q := 85) C (show decode cX5_couldBeBetter 84 = .ok (.iand, 1) from by decide +kernel) rfl ?_
  refine sr_nmi (fun y85 => ?_)
  refine sr_istore (i := 7) (L' := [some (xad κ v0), some (xad κ v1), none, none, none, some (.int v5), some (.int v6), some (.int y85), none]) (q := 87) C (show decode cX5_couldBeBetter 85 = .ok (.istore 7, 2) from by decide +kernel) (by decide) rfl rfl ?_
  refine sr_goto (q := 10) C (show decode cX5_couldBeBetter 87 = .ok (.goto (-77), 3) from by decide +kernel) (by decide) ?_
  exact K10 v0 v1 v5 v6 y85 hv0 hv1
def fnX5_couldBeBetter_J54 (k10 : Nat → Nat → Int32 → Int32 → Int32 → sm_M Bool) (v0 : Nat) (v1 : Nat) (v6 : Int32) (v7 : Int32) (v8 : Int32) (s0 : Int32) (s1 : Int32) : sm_M Bool := m_nm (s1 + s0) fun y55 => m_bnd (fnX7_peopleOf (lk v0 2) v8) fun x69 => m_bnd (fnX7_worthOf (lk v0 2) x69) fun x72 => m_nm (v6 + x72) fun y76 => fnX5_couldBeBetter_J78 k10 v0 v1 y55 y76 v7
set_option maxHeartbeats 4000000 in
set_option maxRecDepth 100000 in
theorem slX5_couldBeBetter_J54 {κ : sm_X} (C : sm_C κ RX5 cX5_couldBeBetter 9 5) {k10 : Nat → Nat → Int32 → Int32 → Int32 → sm_M Bool} (K10 : ∀ (v0 : Nat) (v1 : Nat) (v5 : Int32) (v6 : Int32) (v7 : Int32) (hv0 : kd v0 = 5) (hv1 : kd v1 = 9), sm_S κ (fun r : Bool => .inr (some (.int (bI r)))) (.inl (10, [some (xad κ v0), some (xad κ v1), none, none, none, some (.int v5), some (.int v6), some (.int v7), none], [])) (k10 v0 v1 v5 v6 v7)) (v0 : Nat) (v1 : Nat) (v6 : Int32) (v7 : Int32) (v8 : Int32) (s0 : Int32) (s1 : Int32) (hv0 : kd v0 = 5) (hv1 : kd v1 = 9) : sm_S κ (fun r : Bool => .inr (some (.int (bI r)))) (.inl (54, [some (xad κ v0), some (xad κ v1), none, none, none, none, some (.int v6), some (.int v7), some (.int v8)], [.int s0, .int s1])) (fnX5_couldBeBetter_J54 k10 v0 v1 v6 v7 v8 s0 s1) := by
  unfold fnX5_couldBeBetter_J54
  refine sr_iadd (q := 55) C (show decode cX5_couldBeBetter 54 = .ok (.iadd, 1) from by decide +kernel) rfl ?_
  refine sr_nmi (fun y55 => ?_)
  refine sr_istore (i := 5) (L' := [some (xad κ v0), some (xad κ v1), none, none, none, some (.int y55), some (.int v6), some (.int v7), some (.int v8)]) (q := 57) C (show decode cX5_couldBeBetter 55 = .ok (.istore 5, 2) from by decide +kernel) (by decide) rfl rfl ?_
  refine sr_iload (i := 6) (q := 59) C (show decode cX5_couldBeBetter 57 = .ok (.iload 6, 2) from by decide +kernel) rfl rfl ?_
  refine sr_aload_n (i := 0) (q := 60) C (show decode cX5_couldBeBetter 59 = .ok (.aload_n 0, 1) from by decide +kernel) rfl rfl rfl ?_
  refine sr_getr (q := 63) C fl_X5_32 hv0 (show decode cX5_couldBeBetter 60 = .ok (.getfield 32, 3) from by decide +kernel) rfl ?_
  refine sr_aload_n (i := 0) (q := 64) C (show decode cX5_couldBeBetter 63 = .ok (.aload_n 0, 1) from by decide +kernel) rfl rfl rfl ?_
  refine sr_getr (q := 67) C fl_X5_32 hv0 (show decode cX5_couldBeBetter 64 = .ok (.getfield 32, 3) from by decide +kernel) rfl ?_
  refine sr_iload (i := 8) (q := 69) C (show decode cX5_couldBeBetter 67 = .ok (.iload 8, 2) from by decide +kernel) rfl rfl ?_
  refine sr_cVi (As := [.int v8]) (st := [xad κ (lk v0 2), .int v6]) (b := lk v0 2) (q := 72) C yvX7_peopleOf ml_X5_103 (cnX7_peopleOf (xo κ) (lk v0 2) v8 (kt hv0 kp_5_2)) (kt hv0 kp_5_2) (by decide) rfl rfl rfl (by decide) (by decide) (Nat.le_of_ble_eq_true rfl) rfl (show decode cX5_couldBeBetter 69 = .ok (.invokevirtual 103, 3) from by decide +kernel) rfl (fun x69 => ?_)
  refine sr_cVi (As := [.int x69]) (st := [.int v6]) (b := lk v0 2) (q := 75) C yvX7_worthOf ml_X5_106 (cnX7_worthOf (xo κ) (lk v0 2) x69 (kt hv0 kp_5_2)) (kt hv0 kp_5_2) (by decide) rfl rfl rfl (by decide) (by decide) (Nat.le_of_ble_eq_true rfl) rfl (show decode cX5_couldBeBetter 72 = .ok (.invokevirtual 106, 3) from by decide +kernel) rfl (fun x72 => ?_)
  refine sr_iadd (q := 76) C (show decode cX5_couldBeBetter 75 = .ok (.iadd, 1) from by decide +kernel) rfl ?_
  refine sr_nmi (fun y76 => ?_)
  refine sr_istore (i := 6) (L' := [some (xad κ v0), some (xad κ v1), none, none, none, some (.int y55), some (.int y76), some (.int v7), some (.int v8)]) (q := 78) C (show decode cX5_couldBeBetter 76 = .ok (.istore 6, 2) from by decide +kernel) (by decide) rfl rfl ?_
  refine sr_weak (L' := [some (xad κ v0), some (xad κ v1), none, none, none, some (.int y55), some (.int y76), some (.int v7), none]) ⟨rfl, rfl, rfl, rfl, rfl, trivial⟩ ?_
  exact slX5_couldBeBetter_J78 C K10 v0 v1 y55 y76 v7 hv0 hv1
def fnX5_couldBeBetter_L10 : Nat → Nat → Nat → Int32 → Int32 → Int32 → sm_M Bool
  | 0, _, _, _, _, _ => m_fail
  | n + 1, v0, v1, v5, v6, v7 => m_br (v7 = 0)
    (fnX5_couldBeBetter_J90 v0 v5 v6)
    (m_bnd (fnJ6_numberOfTrailingZeros_0f7a4 v7) fun x17 => m_bnd (fnX0_couldGo (lk v0 3) v1 x17) fun x29 => m_br ((bI x29) = 0)
    (fnX5_couldBeBetter_J78 (fnX5_couldBeBetter_L10 n) v0 v1 v5 v6 v7)
    (m_bnd (fnX7_mustGo (lk v0 2) x17) fun x43 => m_br ((bI x43) = 0)
    (fnX5_couldBeBetter_J54 (fnX5_couldBeBetter_L10 n) v0 v1 v6 v7 x17 (0 : Int32) v5)
    (fnX5_couldBeBetter_J54 (fnX5_couldBeBetter_L10 n) v0 v1 v6 v7 x17 (1 : Int32) v5)))
set_option maxHeartbeats 4000000 in
set_option maxRecDepth 100000 in
theorem slX5_couldBeBetter_L10 {κ : sm_X} (C : sm_C κ RX5 cX5_couldBeBetter 9 5) : ∀ (n : Nat) (v0 : Nat) (v1 : Nat) (v5 : Int32) (v6 : Int32) (v7 : Int32) (hv0 : kd v0 = 5) (hv1 : kd v1 = 9), sm_S κ (fun r : Bool => .inr (some (.int (bI r)))) (.inl (10, [some (xad κ v0), some (xad κ v1), none, none, none, some (.int v5), some (.int v6), some (.int v7), none], [])) (fnX5_couldBeBetter_L10 n v0 v1 v5 v6 v7) := by
  intro n
  induction n with
  | zero =>
    intros
    exact sr_fail
  | succ n K10 =>
    intro v0 v1 v5 v6 v7 hv0 hv1
    unfold fnX5_couldBeBetter_L10
    refine sr_iload (i := 7) (q := 12) C (show decode cX5_couldBeBetter 10 = .ok (.iload 7, 2) from by decide +kernel) rfl rfl ?_
    refine sr_if_eq (q := 15) C 90 (show decode cX5_couldBeBetter 12 = .ok (.ifCond .eq 78, 3) from by decide +kernel) (by decide) rfl ?_ ?_
    · refine sr_weak (L' := [some (xad κ v0), none, none, none, none, some (.int v5), some (.int v6), none, none]) ⟨rfl, rfl, rfl, trivial⟩ ?_
      exact slX5_couldBeBetter_J90 C v0 v5 v6 hv0
    · refine sr_iload (i := 7) (q := 17) C (show decode cX5_couldBeBetter 15 = .ok (.iload 7, 2) from by decide +kernel) rfl rfl ?_
      refine sr_cSi (As := [.int v7]) (st := []) (q := 20) C ysJ6_numberOfTrailingZeros_0f7a4 ml_X5_88 (cnJ6_numberOfTrailingZeros_0f7a4 (xo κ) v7) rfl (by decide) (by decide) (Nat.le_of_ble_eq_true rfl) rfl (show decode cX5_couldBeBetter 17 = .ok (.invokestatic 88, 3) from by decide +kernel) rfl (fun x17 => ?_)
      refine sr_istore (i := 8) (L' := [some (xad κ v0), some (xad κ v1), none, none, none, some (.int v5), some (.int v6), some (.int v7), some (.int x17)]) (q := 22) C (show decode cX5_couldBeBetter 20 = .ok (.istore 8, 2) from by decide +kernel) (by decide) rfl rfl ?_
      refine sr_aload_n (i := 0) (q := 23) C (show decode cX5_couldBeBetter 22 = .ok (.aload_n 0, 1) from by decide +kernel) rfl rfl rfl ?_
      refine sr_getr (q := 26) C fl_X5_28 hv0 (show decode cX5_couldBeBetter 23 = .ok (.getfield 28, 3) from by decide +kernel) rfl ?_
      refine sr_aload_n (i := 1) (q := 27) C (show decode cX5_couldBeBetter 26 = .ok (.aload_n 1, 1) from by decide +kernel) rfl rfl rfl ?_
      refine sr_iload (i := 8) (q := 29) C (show decode cX5_couldBeBetter 27 = .ok (.iload 8, 2) from by decide +kernel) rfl rfl ?_
      refine sr_cVz (As := [xad κ v1, .int x17]) (st := []) (b := lk v0 3) (q := 32) C yvX0_couldGo ml_X5_109 (cnX0_couldGo (xo κ) (lk v0 3) v1 x17 (kt hv0 kp_5_3) hv1) (kt hv0 kp_5_3) (by decide) rfl rfl rfl (by decide) (by decide) (Nat.le_of_ble_eq_true rfl) rfl (show decode cX5_couldBeBetter 29 = .ok (.invokevirtual 109, 3) from by decide +kernel) rfl (fun x29 => ?_)
      refine sr_if_eq (q := 35) C 78 (show decode cX5_couldBeBetter 32 = .ok (.ifCond .eq 46, 3) from by decide +kernel) (by decide) rfl ?_ ?_
      · refine sr_weak (L' := [some (xad κ v0), some (xad κ v1), none, none, none, some (.int v5), some (.int v6), some (.int v7), none]) ⟨rfl, rfl, rfl, rfl, rfl, trivial⟩ ?_
        exact slX5_couldBeBetter_J78 C K10 v0 v1 v5 v6 v7 hv0 hv1
      · refine sr_iload (i := 5) (q := 37) C (show decode cX5_couldBeBetter 35 = .ok (.iload 5, 2) from by decide +kernel) rfl rfl ?_
        refine sr_aload_n (i := 0) (q := 38) C (show decode cX5_couldBeBetter 37 = .ok (.aload_n 0, 1) from by decide +kernel) rfl rfl rfl ?_
        refine sr_getr (q := 41) C fl_X5_32 hv0 (show decode cX5_couldBeBetter 38 = .ok (.getfield 32, 3) from by decide +kernel) rfl ?_
        refine sr_iload (i := 8) (q := 43) C (show decode cX5_couldBeBetter 41 = .ok (.iload 8, 2) from by decide +kernel) rfl rfl ?_
        refine sr_cVz (As := [.int x17]) (st := [.int v5]) (b := lk v0 2) (q := 46) C yvX7_mustGo ml_X5_100 (cnX7_mustGo (xo κ) (lk v0 2) x17 (kt hv0 kp_5_2)) (kt hv0 kp_5_2) (by decide) rfl rfl rfl (by decide) (by decide) (Nat.le_of_ble_eq_true rfl) rfl (show decode cX5_couldBeBetter 43 = .ok (.invokevirtual 100, 3) from by decide +kernel) rfl (fun x43 => ?_)
        refine sr_if_eq (q := 49) C 53 (show decode cX5_couldBeBetter 46 = .ok (.ifCond .eq 7, 3) from by decide +kernel) (by decide) rfl ?_ ?_
        · refine sr_iconst (v := (0 : Int32)) (q := 54) C (show decode cX5_couldBeBetter 53 = .ok (.iconst 0, 1) from by decide +kernel) (by decide) rfl ?_
          refine sr_weak (L' := [some (xad κ v0), some (xad κ v1), none, none, none, none, some (.int v6), some (.int v7), some (.int x17)]) ⟨rfl, rfl, rfl, rfl, rfl, trivial⟩ ?_
          exact slX5_couldBeBetter_J54 C K10 v0 v1 v6 v7 x17 (0 : Int32) v5 hv0 hv1
        · refine sr_iconst (v := (1 : Int32)) (q := 50) C (show decode cX5_couldBeBetter 49 = .ok (.iconst 1, 1) from by decide +kernel) (by decide) rfl ?_
          refine sr_goto (q := 54) C (show decode cX5_couldBeBetter 50 = .ok (.goto 4, 3) from by decide +kernel) (by decide) ?_
          refine sr_weak (L' := [some (xad κ v0), some (xad κ v1), none, none, none, none, some (.int v6), some (.int v7), some (.int x17)]) ⟨rfl, rfl, rfl, rfl, rfl, trivial⟩ ?_
          exact slX5_couldBeBetter_J54 C K10 v0 v1 v6 v7 x17 (1 : Int32) v5 hv0 hv1
def fnX5_couldBeBetter (v0 : Nat) (v1 : Nat) (v2 : Int32) (v3 : Int32) (v4 : Int32) : sm_M Bool := fnX5_couldBeBetter_L10 4096 v0 v1 v3 v4 v2
set_option maxHeartbeats 4000000 in
set_option maxRecDepth 100000 in
theorem slX5_couldBeBetter {κ : sm_X} (C : sm_C κ RX5 cX5_couldBeBetter 9 5) (v0 : Nat) (v1 : Nat) (v2 : Int32) (v3 : Int32) (v4 : Int32) (hv0 : kd v0 = 5) (hv1 : kd v1 = 9) : sm_S κ (fun r : Bool => .inr (some (.int (bI r)))) (.inl (0, [some (xad κ v0), some (xad κ v1), some (.int v2), some (.int v3), some (.int v4), none, none, none, none], [])) (fnX5_couldBeBetter v0 v1 v2 v3 v4) := by
  unfold fnX5_couldBeBetter
  refine sr_iload_n (i := 3) (q := 1) C (show decode cX5_couldBeBetter 0 = .ok (.iload_n 3, 1) from by decide +kernel) rfl rfl rfl ?_
  refine sr_istore (i := 5) (L' := [some (xad κ v0), some (xad κ v1), some (.int v2), some (.int v3), some (.int v4), some (.int v3), none, none, none]) (q := 3) C (show decode cX5_couldBeBetter 1 = .ok (.istore 5, 2) from by decide +kernel) (by decide) rfl rfl ?_
  refine sr_iload (i := 4) (q := 5) C (show decode cX5_couldBeBetter 3 = .ok (.iload 4, 2) from by decide +kernel) rfl rfl ?_
  refine sr_istore (i := 6) (L' := [some (xad κ v0), some (xad κ v1), some (.int v2), some (.int v3), some (.int v4), some (.int v3), some (.int v4), none, none]) (q := 7) C (show decode cX5_couldBeBetter 5 = .ok (.istore 6, 2) from by decide +kernel) (by decide) rfl rfl ?_
  refine sr_iload_n (i := 2) (q := 8) C (show decode cX5_couldBeBetter 7 = .ok (.iload_n 2, 1) from by decide +kernel) rfl rfl rfl ?_
  refine sr_istore (i := 7) (L' := [some (xad κ v0), some (xad κ v1), some (.int v2), some (.int v3), some (.int v4), some (.int v3), some (.int v4), some (.int v2), none]) (q := 10) C (show decode cX5_couldBeBetter 8 = .ok (.istore 7, 2) from by decide +kernel) (by decide) rfl rfl ?_
  refine sr_weak (L' := [some (xad κ v0), some (xad κ v1), none, none, none, some (.int v3), some (.int v4), some (.int v2), none]) ⟨rfl, rfl, rfl, rfl, rfl, trivial⟩ ?_
  exact slX5_couldBeBetter_L10 C 4096 v0 v1 v3 v4 v2 hv0 hv1
theorem cnX5_couldBeBetter (ω : sm_O) (v0 : Nat) (v1 : Nat) (v2 : Int32) (v3 : Int32) (v4 : Int32) (hv0 : kd v0 = 5) (hv1 : kd v1 = 9) : sm_Mt 5 yX5_couldBeBetter cX5_couldBeBetter 9 (some .boolean) ω [.ref (ω.1 + v0), .ref (ω.1 + v1), .int v2, .int v3, .int v4] (fun a => some (.int (bI a))) (fnX5_couldBeBetter v0 v1 v2 v3 v4) := by
  refine sm_conI (r := bI) (by decide) bI_nar (Nat.le_of_ble_eq_true rfl) ?_
  intro κ hκ C
  subst hκ
  exact slX5_couldBeBetter C v0 v1 v2 v3 v4 hv0 hv1
def fnX5_hasTwin_J107 (k2 : Nat → Int32 → Int32 → Int32 → sm_M Bool) (v0 : Nat) (v1 : Int32) (v2 : Int32) (v3 : Int32) : sm_M Bool := k2 v0 v1 v2 (v3 + (1 : Int32))
set_option maxHeartbeats 4000000 in
set_option maxRecDepth 100000 in
theorem slX5_hasTwin_J107 {κ : sm_X} (C : sm_C κ RX5 cX5_hasTwin 4 3) {k2 : Nat → Int32 → Int32 → Int32 → sm_M Bool} (K2 : ∀ (v0 : Nat) (v1 : Int32) (v2 : Int32) (v3 : Int32) (hv0 : kd v0 = 5), sm_S κ (fun r : Bool => .inr (some (.int (bI r)))) (.inl (2, [some (xad κ v0), some (.int v1), some (.int v2), some (.int v3)], [])) (k2 v0 v1 v2 v3)) (v0 : Nat) (v1 : Int32) (v2 : Int32) (v3 : Int32) (hv0 : kd v0 = 5) : sm_S κ (fun r : Bool => .inr (some (.int (bI r)))) (.inl (107, [some (xad κ v0), some (.int v1), some (.int v2), some (.int v3)], [])) (fnX5_hasTwin_J107 k2 v0 v1 v2 v3) := by
  unfold fnX5_hasTwin_J107
  refine sr_iinc (v := v3 + (1 : Int32)) (L' := [some (xad κ v0), some (.int v1), some (.int v2), some (.int (v3 + (1 : Int32)))]) (q := 110) C (show decode cX5_hasTwin 107 = .ok (.iinc 3 1, 3) from by decide +kernel) rfl rfl (by decide) rfl rfl ?_
  refine sr_goto (q := 2) C (show decode cX5_hasTwin 110 = .ok (.goto (-108), 3) from by decide +kernel) (by decide) ?_
  exact K2 v0 v1 v2 (v3 + (1 : Int32)) hv0
def fnX5_hasTwin_L2 : Nat → Nat → Int32 → Int32 → Int32 → sm_M Bool
  | 0, _, _, _, _ => m_fail
  | n + 1, v0, v1, v2, v3 => m_br (v2 ≤ v3)
    (m_ret false)
    (m_br (((v1 >>> (v3 &&& 31)) &&& (1 : Int32)) = 0)
    (fnX5_hasTwin_J107 (fnX5_hasTwin_L2 n) v0 v1 v2 v3)
    (m_bnd (fnX7_strideOf (lk v0 2) v3) fun x20 => m_bnd (fnX7_strideOf (lk v0 2) v2) fun x28 => m_br (x20 = x28)
    (m_bnd (fnX7_weightOf (lk v0 2) v3) fun x39 => m_bnd (fnX7_weightOf (lk v0 2) v2) fun x47 => m_br (x39 = x47)
    (m_bnd (fnX7_mustGo (lk v0 2) v3) fun x58 => m_bnd (fnX7_mustGo (lk v0 2) v2) fun x66 => m_br ((bI x58) = (bI x66))
    (m_bnd (fnX7_peopleOf (lk v0 2) v3) fun x81 => m_bnd (fnX7_worthOf (lk v0 2) x81) fun x84 => m_bnd (fnX7_peopleOf (lk v0 2) v2) fun x96 => m_bnd (fnX7_worthOf (lk v0 2) x96) fun x99 => m_br (x84 = x99)
    (m_ret true)
    (fnX5_hasTwin_J107 (fnX5_hasTwin_L2 n) v0 v1 v2 v3))
    (fnX5_hasTwin_J107 (fnX5_hasTwin_L2 n) v0 v1 v2 v3))
    (fnX5_hasTwin_J107 (fnX5_hasTwin_L2 n) v0 v1 v2 v3))
    (fnX5_hasTwin_J107 (fnX5_hasTwin_L2 n) v0 v1 v2 v3)))
set_option maxHeartbeats 4000000 in
set_option maxRecDepth 100000 in
theorem slX5_hasTwin_L2 {κ : sm_X} (C : sm_C κ RX5 cX5_hasTwin 4 3) : ∀ (n : Nat) (v0 : Nat) (v1 : Int32) (v2 : Int32) (v3 : Int32) (hv0 : kd v0 = 5), sm_S κ (fun r : Bool => .inr (some (.int (bI r)))) (.inl (2, [some (xad κ v0), some (.int v1), some (.int v2), some (.int v3)], [])) (fnX5_hasTwin_L2 n v0 v1 v2 v3) := by
  intro n
  induction n with
  | zero =>
    intros
    exact sr_fail
  | succ n K2 =>
    intro v0 v1 v2 v3 hv0
    unfold fnX5_hasTwin_L2
    refine sr_iload_n (i := 3) (q := 3) C (show decode cX5_hasTwin 2 = .ok (.iload_n 3, 1) from by decide +kernel) rfl rfl rfl ?_
    refine sr_iload_n (i := 2) (q := 4) C (show decode cX5_hasTwin 3 = .ok (.iload_n 2, 1) from by decide +kernel) rfl rfl rfl ?_
    refine sr_icmp_ge (q := 7) C 113 (show decode cX5_hasTwin 4 = .ok (.if_icmp .ge 109, 3) from by decide +kernel) (by decide) rfl ?_ ?_
    · refine sr_iconst (v := (0 : Int32)) (q := 114) C (show decode cX5_hasTwin 113 = .ok (.iconst 0, 1) from by decide +kernel) (by decide) rfl ?_
      exact sr_ireturn C false rfl (show decode cX5_hasTwin 114 = .ok (.ireturn, 1) from by decide +kernel)
    · refine sr_iload_n (i := 1) (q := 8) C (show decode cX5_hasTwin 7 = .ok (.iload_n 1, 1) from by decide +kernel) rfl rfl rfl ?_
      refine sr_iload_n (i := 3) (q := 9) C (show decode cX5_hasTwin 8 = .ok (.iload_n 3, 1) from by decide +kernel) rfl rfl rfl ?_
      refine sr_ishr (q := 10) C (show decode cX5_hasTwin 9 = .ok (.ishr, 1) from by decide +kernel) rfl ?_
      refine sr_iconst (v := (1 : Int32)) (q := 11) C (show decode cX5_hasTwin 10 = .ok (.iconst 1, 1) from by decide +kernel) (by decide) rfl ?_
      refine sr_iand (q := 12) C (show decode cX5_hasTwin 11 = .ok (.iand, 1) from by decide +kernel) rfl ?_
      refine sr_if_eq (q := 15) C 107 (show decode cX5_hasTwin 12 = .ok (.ifCond .eq 95, 3) from by decide +kernel) (by decide) rfl ?_ ?_
      · exact slX5_hasTwin_J107 C K2 v0 v1 v2 v3 hv0
      · refine sr_aload_n (i := 0) (q := 16) C (show decode cX5_hasTwin 15 = .ok (.aload_n 0, 1) from by decide +kernel) rfl rfl rfl ?_
        refine sr_getr (q := 19) C fl_X5_32 hv0 (show decode cX5_hasTwin 16 = .ok (.getfield 32, 3) from by decide +kernel) rfl ?_
        refine sr_iload_n (i := 3) (q := 20) C (show decode cX5_hasTwin 19 = .ok (.iload_n 3, 1) from by decide +kernel) rfl rfl rfl ?_
        refine sr_cVi (As := [.int v3]) (st := []) (b := lk v0 2) (q := 23) C yvX7_strideOf ml_X5_113 (cnX7_strideOf (xo κ) (lk v0 2) v3 (kt hv0 kp_5_2)) (kt hv0 kp_5_2) (by decide) rfl rfl rfl (by decide) (by decide) (Nat.le_of_ble_eq_true rfl) rfl (show decode cX5_hasTwin 20 = .ok (.invokevirtual 113, 3) from by decide +kernel) rfl (fun x20 => ?_)
        refine sr_aload_n (i := 0) (q := 24) C (show decode cX5_hasTwin 23 = .ok (.aload_n 0, 1) from by decide +kernel) rfl rfl rfl ?_
        refine sr_getr (q := 27) C fl_X5_32 hv0 (show decode cX5_hasTwin 24 = .ok (.getfield 32, 3) from by decide +kernel) rfl ?_
        refine sr_iload_n (i := 2) (q := 28) C (show decode cX5_hasTwin 27 = .ok (.iload_n 2, 1) from by decide +kernel) rfl rfl rfl ?_
        refine sr_cVi (As := [.int v2]) (st := [.int x20]) (b := lk v0 2) (q := 31) C yvX7_strideOf ml_X5_113 (cnX7_strideOf (xo κ) (lk v0 2) v2 (kt hv0 kp_5_2)) (kt hv0 kp_5_2) (by decide) rfl rfl rfl (by decide) (by decide) (Nat.le_of_ble_eq_true rfl) rfl (show decode cX5_hasTwin 28 = .ok (.invokevirtual 113, 3) from by decide +kernel) rfl (fun x28 => ?_)
        refine sr_icmp_ne (q := 34) C 107 (show decode cX5_hasTwin 31 = .ok (.if_icmp .ne 76, 3) from by decide +kernel) (by decide) rfl ?_ ?_
        · exact slX5_hasTwin_J107 C K2 v0 v1 v2 v3 hv0
        · refine sr_aload_n (i := 0) (q := 35) C (show decode cX5_hasTwin 34 = .ok (.aload_n 0, 1) from by decide +kernel) rfl rfl rfl ?_
          refine sr_getr (q := 38) C fl_X5_32 hv0 (show decode cX5_hasTwin 35 = .ok (.getfield 32, 3) from by decide +kernel) rfl ?_
          refine sr_iload_n (i := 3) (q := 39) C (show decode cX5_hasTwin 38 = .ok (.iload_n 3, 1) from by decide +kernel) rfl rfl rfl ?_
          refine sr_cVi (As := [.int v3]) (st := []) (b := lk v0 2) (q := 42) C yvX7_weightOf ml_X5_116 (cnX7_weightOf (xo κ) (lk v0 2) v3 (kt hv0 kp_5_2)) (kt hv0 kp_5_2) (by decide) rfl rfl rfl (by decide) (by decide) (Nat.le_of_ble_eq_true rfl) rfl (show decode cX5_hasTwin 39 = .ok (.invokevirtual 116, 3) from by decide +kernel) rfl (fun x39 => ?_)
          refine sr_aload_n (i := 0) (q := 43) C (show decode cX5_hasTwin 42 = .ok (.aload_n 0, 1) from by decide +kernel) rfl rfl rfl ?_
          refine sr_getr (q := 46) C fl_X5_32 hv0 (show decode cX5_hasTwin 43 = .ok (.getfield 32, 3) from by decide +kernel) rfl ?_
          refine sr_iload_n (i := 2) (q := 47) C (show decode cX5_hasTwin 46 = .ok (.iload_n 2, 1) from by decide +kernel) rfl rfl rfl ?_
          refine sr_cVi (As := [.int v2]) (st := [.int x39]) (b := lk v0 2) (q := 50) C yvX7_weightOf ml_X5_116 (cnX7_weightOf (xo κ) (lk v0 2) v2 (kt hv0 kp_5_2)) (kt hv0 kp_5_2) (by decide) rfl rfl rfl (by decide) (by decide) (Nat.le_of_ble_eq_true rfl) rfl (show decode cX5_hasTwin 47 = .ok (.invokevirtual 116, 3) from by decide +kernel) rfl (fun x47 => ?_)
          refine sr_icmp_ne (q := 53) C 107 (show decode cX5_hasTwin 50 = .ok (.if_icmp .ne 57, 3) from by decide +kernel) (by decide) rfl ?_ ?_
          · exact slX5_hasTwin_J107 C K2 v0 v1 v2 v3 hv0
          · refine sr_aload_n (i := 0) (q := 54) C (show decode cX5_hasTwin 53 = .ok (.aload_n 0, 1) from by decide +kernel) rfl rfl rfl ?_
            refine sr_getr (q := 57) C fl_X5_32 hv0 (show decode cX5_hasTwin 54 = .ok (.getfield 32, 3) from by decide +kernel) rfl ?_
            refine sr_iload_n (i := 3) (q := 58) C (show decode cX5_hasTwin 57 = .ok (.iload_n 3, 1) from by decide +kernel) rfl rfl rfl ?_
            refine sr_cVz (As := [.int v3]) (st := []) (b := lk v0 2) (q := 61) C yvX7_mustGo ml_X5_100 (cnX7_mustGo (xo κ) (lk v0 2) v3 (kt hv0 kp_5_2)) (kt hv0 kp_5_2) (by decide) rfl rfl rfl (by decide) (by decide) (Nat.le_of_ble_eq_true rfl) rfl (show decode cX5_hasTwin 58 = .ok (.invokevirtual 100, 3) from by decide +kernel) rfl (fun x58 => ?_)
            refine sr_aload_n (i := 0) (q := 62) C (show decode cX5_hasTwin 61 = .ok (.aload_n 0, 1) from by decide +kernel) rfl rfl rfl ?_
            refine sr_getr (q := 65) C fl_X5_32 hv0 (show decode cX5_hasTwin 62 = .ok (.getfield 32, 3) from by decide +kernel) rfl ?_
            refine sr_iload_n (i := 2) (q := 66) C (show decode cX5_hasTwin 65 = .ok (.iload_n 2, 1) from by decide +kernel) rfl rfl rfl ?_
            refine sr_cVz (As := [.int v2]) (st := [.int (bI x58)]) (b := lk v0 2) (q := 69) C yvX7_mustGo ml_X5_100 (cnX7_mustGo (xo κ) (lk v0 2) v2 (kt hv0 kp_5_2)) (kt hv0 kp_5_2) (by decide) rfl rfl rfl (by decide) (by decide) (Nat.le_of_ble_eq_true rfl) rfl (show decode cX5_hasTwin 66 = .ok (.invokevirtual 100, 3) from by decide +kernel) rfl (fun x66 => ?_)
            refine sr_icmp_ne (q := 72) C 107 (show decode cX5_hasTwin 69 = .ok (.if_icmp .ne 38, 3) from by decide +kernel) (by decide) rfl ?_ ?_
            · exact slX5_hasTwin_J107 C K2 v0 v1 v2 v3 hv0
            · refine sr_aload_n (i := 0) (q := 73) C (show decode cX5_hasTwin 72 = .ok (.aload_n 0, 1) from by decide +kernel) rfl rfl rfl ?_
              refine sr_getr (q := 76) C fl_X5_32 hv0 (show decode cX5_hasTwin 73 = .ok (.getfield 32, 3) from by decide +kernel) rfl ?_
              refine sr_aload_n (i := 0) (q := 77) C (show decode cX5_hasTwin 76 = .ok (.aload_n 0, 1) from by decide +kernel) rfl rfl rfl ?_
              refine sr_getr (q := 80) C fl_X5_32 hv0 (show decode cX5_hasTwin 77 = .ok (.getfield 32, 3) from by decide +kernel) rfl ?_
              refine sr_iload_n (i := 3) (q := 81) C (show decode cX5_hasTwin 80 = .ok (.iload_n 3, 1) from by decide +kernel) rfl rfl rfl ?_
              refine sr_cVi (As := [.int v3]) (st := [xad κ (lk v0 2)]) (b := lk v0 2) (q := 84) C yvX7_peopleOf ml_X5_103 (cnX7_peopleOf (xo κ) (lk v0 2) v3 (kt hv0 kp_5_2)) (kt hv0 kp_5_2) (by decide) rfl rfl rfl (by decide) (by decide) (Nat.le_of_ble_eq_true rfl) rfl (show decode cX5_hasTwin 81 = .ok (.invokevirtual 103, 3) from by decide +kernel) rfl (fun x81 => ?_)
              refine sr_cVi (As := [.int x81]) (st := []) (b := lk v0 2) (q := 87) C yvX7_worthOf ml_X5_106 (cnX7_worthOf (xo κ) (lk v0 2) x81 (kt hv0 kp_5_2)) (kt hv0 kp_5_2) (by decide) rfl rfl rfl (by decide) (by decide) (Nat.le_of_ble_eq_true rfl) rfl (show decode cX5_hasTwin 84 = .ok (.invokevirtual 106, 3) from by decide +kernel) rfl (fun x84 => ?_)
              refine sr_aload_n (i := 0) (q := 88) C (show decode cX5_hasTwin 87 = .ok (.aload_n 0, 1) from by decide +kernel) rfl rfl rfl ?_
              refine sr_getr (q := 91) C fl_X5_32 hv0 (show decode cX5_hasTwin 88 = .ok (.getfield 32, 3) from by decide +kernel) rfl ?_
              refine sr_aload_n (i := 0) (q := 92) C (show decode cX5_hasTwin 91 = .ok (.aload_n 0, 1) from by decide +kernel) rfl rfl rfl ?_
              refine sr_getr (q := 95) C fl_X5_32 hv0 (show decode cX5_hasTwin 92 = .ok (.getfield 32, 3) from by decide +kernel) rfl ?_
              refine sr_iload_n (i := 2) (q := 96) C (show decode cX5_hasTwin 95 = .ok (.iload_n 2, 1) from by decide +kernel) rfl rfl rfl ?_
              refine sr_cVi (As := [.int v2]) (st := [xad κ (lk v0 2), .int x84]) (b := lk v0 2) (q := 99) C yvX7_peopleOf ml_X5_103 (cnX7_peopleOf (xo κ) (lk v0 2) v2 (kt hv0 kp_5_2)) (kt hv0 kp_5_2) (by decide) rfl rfl rfl (by decide) (by decide) (Nat.le_of_ble_eq_true rfl) rfl (show decode cX5_hasTwin 96 = .ok (.invokevirtual 103, 3) from by decide +kernel) rfl (fun x96 => ?_)
              refine sr_cVi (As := [.int x96]) (st := [.int x84]) (b := lk v0 2) (q := 102) C yvX7_worthOf ml_X5_106 (cnX7_worthOf (xo κ) (lk v0 2) x96 (kt hv0 kp_5_2)) (kt hv0 kp_5_2) (by decide) rfl rfl rfl (by decide) (by decide) (Nat.le_of_ble_eq_true rfl) rfl (show decode cX5_hasTwin 99 = .ok (.invokevirtual 106, 3) from by decide +kernel) rfl (fun x99 => ?_)
              refine sr_icmp_ne (q := 105) C 107 (show decode cX5_hasTwin 102 = .ok (.if_icmp .ne 5, 3) from by decide +kernel) (by decide) rfl ?_ ?_
              · exact slX5_hasTwin_J107 C K2 v0 v1 v2 v3 hv0
              · refine sr_iconst (v := (1 : Int32)) (q := 106) C (show decode cX5_hasTwin 105 = .ok (.iconst 1, 1) from by decide +kernel) (by decide) rfl ?_
                exact sr_ireturn C true rfl (show decode cX5_hasTwin 106 = .ok (.ireturn, 1) from by decide +kernel)
def fnX5_hasTwin (v0 : Nat) (v1 : Int32) (v2 : Int32) : sm_M Bool := fnX5_hasTwin_L2 4096 v0 v1 v2 (0 : Int32)
set_option maxHeartbeats 4000000 in
set_option maxRecDepth 100000 in
theorem slX5_hasTwin {κ : sm_X} (C : sm_C κ RX5 cX5_hasTwin 4 3) (v0 : Nat) (v1 : Int32) (v2 : Int32) (hv0 : kd v0 = 5) : sm_S κ (fun r : Bool => .inr (some (.int (bI r)))) (.inl (0, [some (xad κ v0), some (.int v1), some (.int v2), none], [])) (fnX5_hasTwin v0 v1 v2) := by
  unfold fnX5_hasTwin
  refine sr_iconst (v := (0 : Int32)) (q := 1) C (show decode cX5_hasTwin 0 = .ok (.iconst 0, 1) from by decide +kernel) (by decide) rfl ?_
  refine sr_istore_n (i := 3) (L' := [some (xad κ v0), some (.int v1), some (.int v2), some (.int (0 : Int32))]) (q := 2) C (show decode cX5_hasTwin 1 = .ok (.istore_n 3, 1) from by decide +kernel) rfl (by decide) rfl rfl ?_
  exact slX5_hasTwin_L2 C 4096 v0 v1 v2 (0 : Int32) hv0
theorem cnX5_hasTwin (ω : sm_O) (v0 : Nat) (v1 : Int32) (v2 : Int32) (hv0 : kd v0 = 5) : sm_Mt 3 yX5_hasTwin cX5_hasTwin 4 (some .boolean) ω [.ref (ω.1 + v0), .int v1, .int v2] (fun a => some (.int (bI a))) (fnX5_hasTwin v0 v1 v2) := by
  refine sm_conI (r := bI) (by decide) bI_nar (Nat.le_of_ble_eq_true rfl) ?_
  intro κ hκ C
  subst hκ
  exact slX5_hasTwin C v0 v1 v2 hv0
def fnX5_extend_J213 (rc : Nat → Int32 → Int32 → Int32 → Int32 → Int32 → sm_M Unit) (k71 : Nat → Int32 → Int32 → Int32 → Int32 → Int32 → Int32 → sm_M Unit) (v0 : Nat) (v1 : Int32) (v2 : Int32) (v3 : Int32) (v4 : Int32) (v5 : Int32) (v6 : Int32) : sm_M Unit := m_nm (v6 &&& (v6 - (1 : Int32))) fun y220 => k71 v0 v1 v2 v3 v4 v5 y220
set_option maxHeartbeats 4000000 in
set_option maxRecDepth 100000 in
theorem slX5_extend_J213 {κ : sm_X} {n0 : Nat} (C : sm_C κ RX5 cX5_extend 10 (6 + n0)) {rc : Nat → Int32 → Int32 → Int32 → Int32 → Int32 → sm_M Unit} (RC : ∀ (this : Nat) (p0 : Int32) (p1 : Int32) (p2 : Int32) (p3 : Int32) (p4 : Int32) (hthis : kd this = 5), sm_Mt (5 + n0) yX5_extend cX5_extend 10 none (xo κ) [xad κ this, .int p0, .int p1, .int p2, .int p3, .int p4] (fun _ => none) (rc this p0 p1 p2 p3 p4)) {k71 : Nat → Int32 → Int32 → Int32 → Int32 → Int32 → Int32 → sm_M Unit} (K71 : ∀ (v0 : Nat) (v1 : Int32) (v2 : Int32) (v3 : Int32) (v4 : Int32) (v5 : Int32) (v6 : Int32) (hv0 : kd v0 = 5), sm_S κ (fun _ : Unit => .inr none) (.inl (71, [some (xad κ v0), some (.int v1), some (.int v2), some (.int v3), some (.int v4), some (.int v5), some (.int v6), none, none, none], [])) (k71 v0 v1 v2 v3 v4 v5 v6)) (v0 : Nat) (v1 : Int32) (v2 : Int32) (v3 : Int32) (v4 : Int32) (v5 : Int32) (v6 : Int32) (hv0 : kd v0 = 5) : sm_S κ (fun _ : Unit => .inr none) (.inl (213, [some (xad κ v0), some (.int v1), some (.int v2), some (.int v3), some (.int v4), some (.int v5), some (.int v6), none, none, none], [])) (fnX5_extend_J213 rc k71 v0 v1 v2 v3 v4 v5 v6) := by
  unfold fnX5_extend_J213
  refine sr_iload (i := 6) (q := 215) C (show decode cX5_extend 213 = .ok (.iload 6, 2) from by decide +kernel) rfl rfl ?_
  refine sr_iload (i := 6) (q := 217) C (show decode cX5_extend 215 = .ok (.iload 6, 2) from by decide +kernel) rfl rfl ?_
  refine sr_iconst (v := (1 : Int32)) (q := 218) C (show decode cX5_extend 217 = .ok (.iconst 1, 1) from by decide +kernel) (by decide) rfl ?_
  refine sr_isub (q := 219) C (show decode cX5_extend 218 = .ok (.isub, 1) from by decide +kernel) rfl ?_
  refine sr_iand (q := 220) C (show decode cX5_extend 219 = .ok (.iand, 1) from by decide +kernel) rfl ?_
  refine sr_nmi (fun y220 => ?_)
  refine sr_istore (i := 6) (L' := [some (xad κ v0), some (.int v1), some (.int v2), some (.int v3), some (.int v4), some (.int v5), some (.int y220), none, none, none]) (q := 222) C (show decode cX5_extend 220 = .ok (.istore 6, 2) from by decide +kernel) (by decide) rfl rfl ?_
  refine sr_goto (q := 71) C (show decode cX5_extend 222 = .ok (.goto (-151), 3) from by decide +kernel) (by decide) ?_
  exact K71 v0 v1 v2 v3 v4 v5 y220 hv0
def fnX5_extend_J209 (rc : Nat → Int32 → Int32 → Int32 → Int32 → Int32 → sm_M Unit) (k71 : Nat → Int32 → Int32 → Int32 → Int32 → Int32 → Int32 → sm_M Unit) (v0 : Nat) (v1 : Int32) (v2 : Int32) (v3 : Int32) (v4 : Int32) (v5 : Int32) (v6 : Int32) (s0 : Int32) (s1 : Int32) (s2 : Int32) (s3 : Int32) (s4 : Int32) (s5 : Int32) (s6 : Nat) : sm_M Unit := m_bnd (rc s6 s5 s4 s3 s2 (s1 + s0)) fun _ => fnX5_extend_J213 rc k71 v0 v1 v2 v3 v4 v5 v6
set_option maxHeartbeats 4000000 in
set_option maxRecDepth 100000 in
theorem slX5_extend_J209 {κ : sm_X} {n0 : Nat} (C : sm_C κ RX5 cX5_extend 10 (6 + n0)) {rc : Nat → Int32 → Int32 → Int32 → Int32 → Int32 → sm_M Unit} (RC : ∀ (this : Nat) (p0 : Int32) (p1 : Int32) (p2 : Int32) (p3 : Int32) (p4 : Int32) (hthis : kd this = 5), sm_Mt (5 + n0) yX5_extend cX5_extend 10 none (xo κ) [xad κ this, .int p0, .int p1, .int p2, .int p3, .int p4] (fun _ => none) (rc this p0 p1 p2 p3 p4)) {k71 : Nat → Int32 → Int32 → Int32 → Int32 → Int32 → Int32 → sm_M Unit} (K71 : ∀ (v0 : Nat) (v1 : Int32) (v2 : Int32) (v3 : Int32) (v4 : Int32) (v5 : Int32) (v6 : Int32) (hv0 : kd v0 = 5), sm_S κ (fun _ : Unit => .inr none) (.inl (71, [some (xad κ v0), some (.int v1), some (.int v2), some (.int v3), some (.int v4), some (.int v5), some (.int v6), none, none, none], [])) (k71 v0 v1 v2 v3 v4 v5 v6)) (v0 : Nat) (v1 : Int32) (v2 : Int32) (v3 : Int32) (v4 : Int32) (v5 : Int32) (v6 : Int32) (s0 : Int32) (s1 : Int32) (s2 : Int32) (s3 : Int32) (s4 : Int32) (s5 : Int32) (s6 : Nat) (hv0 : kd v0 = 5) (hs6 : kd s6 = 5) : sm_S κ (fun _ : Unit => .inr none) (.inl (209, [some (xad κ v0), some (.int v1), some (.int v2), some (.int v3), some (.int v4), some (.int v5), some (.int v6), none, none, none], [.int s0, .int s1, .int s2, .int s3, .int s4, .int s5, xad κ s6])) (fnX5_extend_J209 rc k71 v0 v1 v2 v3 v4 v5 v6 s0 s1 s2 s3 s4 s5 s6) := by
  unfold fnX5_extend_J209
  refine sr_iadd (q := 210) C (show decode cX5_extend 209 = .ok (.iadd, 1) from by decide +kernel) rfl ?_
  refine sr_cVv (As := [.int s5, .int s4, .int s3, .int s2, .int (s1 + s0)]) (st := []) (b := s6) (q := 213) C yvX5_extend ml_X5_71 (RC s6 s5 s4 s3 s2 (s1 + s0) hs6) hs6 (by decide) rfl rfl rfl (by omega) (by decide) (Nat.le_of_ble_eq_true rfl) rfl (show decode cX5_extend 210 = .ok (.invokevirtual 71, 3) from by decide +kernel) rfl (fun _ => ?_)
  exact slX5_extend_J213 C RC K71 v0 v1 v2 v3 v4 v5 v6 hv0
def fnX5_extend_J181 (rc : Nat → Int32 → Int32 → Int32 → Int32 → Int32 → sm_M Unit) (k71 : Nat → Int32 → Int32 → Int32 → Int32 → Int32 → Int32 → sm_M Unit) (v0 : Nat) (v1 : Int32) (v2 : Int32) (v3 : Int32) (v4 : Int32) (v5 : Int32) (v6 : Int32) (v7 : Int32) (v9 : Int32) (s0 : Int32) (s1 : Int32) (s2 : Int32) (s3 : Int32) (s4 : Int32) (s5 : Nat) : sm_M Unit := m_br (v9 = 0)
    (fnX5_extend_J209 rc k71 v0 v1 v2 v3 v4 v5 v6 (0 : Int32) v5 (s1 + s0) s2 s3 s4 s5)
    (m_bnd (fnX7_peopleOf (lk v0 2) v7) fun x199 => m_bnd (fnX7_worthOf (lk v0 2) x199) fun x202 => fnX5_extend_J209 rc k71 v0 v1 v2 v3 v4 v5 v6 x202 v5 (s1 + s0) s2 s3 s4 s5)
set_option maxHeartbeats 4000000 in
set_option maxRecDepth 100000 in
theorem slX5_extend_J181 {κ : sm_X} {n0 : Nat} (C : sm_C κ RX5 cX5_extend 10 (6 + n0)) {rc : Nat → Int32 → Int32 → Int32 → Int32 → Int32 → sm_M Unit} (RC : ∀ (this : Nat) (p0 : Int32) (p1 : Int32) (p2 : Int32) (p3 : Int32) (p4 : Int32) (hthis : kd this = 5), sm_Mt (5 + n0) yX5_extend cX5_extend 10 none (xo κ) [xad κ this, .int p0, .int p1, .int p2, .int p3, .int p4] (fun _ => none) (rc this p0 p1 p2 p3 p4)) {k71 : Nat → Int32 → Int32 → Int32 → Int32 → Int32 → Int32 → sm_M Unit} (K71 : ∀ (v0 : Nat) (v1 : Int32) (v2 : Int32) (v3 : Int32) (v4 : Int32) (v5 : Int32) (v6 : Int32) (hv0 : kd v0 = 5), sm_S κ (fun _ : Unit => .inr none) (.inl (71, [some (xad κ v0), some (.int v1), some (.int v2), some (.int v3), some (.int v4), some (.int v5), some (.int v6), none, none, none], [])) (k71 v0 v1 v2 v3 v4 v5 v6)) (v0 : Nat) (v1 : Int32) (v2 : Int32) (v3 : Int32) (v4 : Int32) (v5 : Int32) (v6 : Int32) (v7 : Int32) (v9 : Int32) (s0 : Int32) (s1 : Int32) (s2 : Int32) (s3 : Int32) (s4 : Int32) (s5 : Nat) (hv0 : kd v0 = 5) (hs5 : kd s5 = 5) : sm_S κ (fun _ : Unit => .inr none) (.inl (181, [some (xad κ v0), some (.int v1), some (.int v2), some (.int v3), some (.int v4), some (.int v5), some (.int v6), some (.int v7), none, some (.int v9)], [.int s0, .int s1, .int s2, .int s3, .int s4, xad κ s5])) (fnX5_extend_J181 rc k71 v0 v1 v2 v3 v4 v5 v6 v7 v9 s0 s1 s2 s3 s4 s5) := by
  unfold fnX5_extend_J181
  refine sr_iadd (q := 182) C (show decode cX5_extend 181 = .ok (.iadd, 1) from by decide +kernel) rfl ?_
  refine sr_iload (i := 5) (q := 184) C (show decode cX5_extend 182 = .ok (.iload 5, 2) from by decide +kernel) rfl rfl ?_
  refine sr_iload (i := 9) (q := 186) C (show decode cX5_extend 184 = .ok (.iload 9, 2) from by decide +kernel) rfl rfl ?_
  refine sr_if_eq (q := 189) C 208 (show decode cX5_extend 186 = .ok (.ifCond .eq 22, 3) from by decide +kernel) (by decide) rfl ?_ ?_
  · refine sr_iconst (v := (0 : Int32)) (q := 209) C (show decode cX5_extend 208 = .ok (.iconst 0, 1) from by decide +kernel) (by decide) rfl ?_
    refine sr_weak (L' := [some (xad κ v0), some (.int v1), some (.int v2), some (.int v3), some (.int v4), some (.int v5), some (.int v6), none, none, none]) ⟨rfl, rfl, rfl, rfl, rfl, rfl, rfl, trivial⟩ ?_
    exact slX5_extend_J209 C RC K71 v0 v1 v2 v3 v4 v5 v6 (0 : Int32) v5 (s1 + s0) s2 s3 s4 s5 hv0 hs5
  · refine sr_aload_n (i := 0) (q := 190) C (show decode cX5_extend 189 = .ok (.aload_n 0, 1) from by decide +kernel) rfl rfl rfl ?_
    refine sr_getr (q := 193) C fl_X5_32 hv0 (show decode cX5_extend 190 = .ok (.getfield 32, 3) from by decide +kernel) rfl ?_
    refine sr_aload_n (i := 0) (q := 194) C (show decode cX5_extend 193 = .ok (.aload_n 0, 1) from by decide +kernel) rfl rfl rfl ?_
    refine sr_getr (q := 197) C fl_X5_32 hv0 (show decode cX5_extend 194 = .ok (.getfield 32, 3) from by decide +kernel) rfl ?_
    refine sr_iload (i := 7) (q := 199) C (show decode cX5_extend 197 = .ok (.iload 7, 2) from by decide +kernel) rfl rfl ?_
    refine sr_cVi (As := [.int v7]) (st := [xad κ (lk v0 2), .int v5, .int (s1 + s0), .int s2, .int s3, .int s4, xad κ s5]) (b := lk v0 2) (q := 202) C yvX7_peopleOf ml_X5_103 (cnX7_peopleOf (xo κ) (lk v0 2) v7 (kt hv0 kp_5_2)) (kt hv0 kp_5_2) (by decide) rfl rfl rfl (by omega) (by decide) (Nat.le_of_ble_eq_true rfl) rfl (show decode cX5_extend 199 = .ok (.invokevirtual 103, 3) from by decide +kernel) rfl (fun x199 => ?_)
    refine sr_cVi (As := [.int x199]) (st := [.int v5, .int (s1 + s0), .int s2, .int s3, .int s4, xad κ s5]) (b := lk v0 2) (q := 205) C yvX7_worthOf ml_X5_106 (cnX7_worthOf (xo κ) (lk v0 2) x199 (kt hv0 kp_5_2)) (kt hv0 kp_5_2) (by decide) rfl rfl rfl (by omega) (by decide) (Nat.le_of_ble_eq_true rfl) rfl (show decode cX5_extend 202 = .ok (.invokevirtual 106, 3) from by decide +kernel) rfl (fun x202 => ?_)
    refine sr_goto (q := 209) C (show decode cX5_extend 205 = .ok (.goto 4, 3) from by decide +kernel) (by decide) ?_
    refine sr_weak (L' := [some (xad κ v0), some (.int v1), some (.int v2), some (.int v3), some (.int v4), some (.int v5), some (.int v6), none, none, none]) ⟨rfl, rfl, rfl, rfl, rfl, rfl, rfl, trivial⟩ ?_
    exact slX5_extend_J209 C RC K71 v0 v1 v2 v3 v4 v5 v6 x202 v5 (s1 + s0) s2 s3 s4 s5 hv0 hs5
def fnX5_extend_J180 (rc : Nat → Int32 → Int32 → Int32 → Int32 → Int32 → sm_M Unit) (k71 : Nat → Int32 → Int32 → Int32 → Int32 → Int32 → Int32 → sm_M Unit) (v0 : Nat) (v1 : Int32) (v2 : Int32) (v3 : Int32) (v4 : Int32) (v5 : Int32) (v6 : Int32) (v7 : Int32) (v9 : Int32) (s0 : Int32) (s1 : Int32) (s2 : Int32) (s3 : Int32) (s4 : Nat) : sm_M Unit := fnX5_extend_J181 rc k71 v0 v1 v2 v3 v4 v5 v6 v7 v9 (0 : Int32) s0 s1 s2 s3 s4
set_option maxHeartbeats 4000000 in
set_option maxRecDepth 100000 in
theorem slX5_extend_J180 {κ : sm_X} {n0 : Nat} (C : sm_C κ RX5 cX5_extend 10 (6 + n0)) {rc : Nat → Int32 → Int32 → Int32 → Int32 → Int32 → sm_M Unit} (RC : ∀ (this : Nat) (p0 : Int32) (p1 : Int32) (p2 : Int32) (p3 : Int32) (p4 : Int32) (hthis : kd this = 5), sm_Mt (5 + n0) yX5_extend cX5_extend 10 none (xo κ) [xad κ this, .int p0, .int p1, .int p2, .int p3, .int p4] (fun _ => none) (rc this p0 p1 p2 p3 p4)) {k71 : Nat → Int32 → Int32 → Int32 → Int32 → Int32 → Int32 → sm_M Unit} (K71 : ∀ (v0 : Nat) (v1 : Int32) (v2 : Int32) (v3 : Int32) (v4 : Int32) (v5 : Int32) (v6 : Int32) (hv0 : kd v0 = 5), sm_S κ (fun _ : Unit => .inr none) (.inl (71, [some (xad κ v0), some (.int v1), some (.int v2), some (.int v3), some (.int v4), some (.int v5), some (.int v6), none, none, none], [])) (k71 v0 v1 v2 v3 v4 v5 v6)) (v0 : Nat) (v1 : Int32) (v2 : Int32) (v3 : Int32) (v4 : Int32) (v5 : Int32) (v6 : Int32) (v7 : Int32) (v9 : Int32) (s0 : Int32) (s1 : Int32) (s2 : Int32) (s3 : Int32) (s4 : Nat) (hv0 : kd v0 = 5) (hs4 : kd s4 = 5) : sm_S κ (fun _ : Unit => .inr none) (.inl (180, [some (xad κ v0), some (.int v1), some (.int v2), some (.int v3), some (.int v4), some (.int v5), some (.int v6), some (.int v7), none, some (.int v9)], [.int s0, .int s1, .int s2, .int s3, xad κ s4])) (fnX5_extend_J180 rc k71 v0 v1 v2 v3 v4 v5 v6 v7 v9 s0 s1 s2 s3 s4) := by
  unfold fnX5_extend_J180
  refine sr_iconst (v := (0 : Int32)) (q := 181) C (show decode cX5_extend 180 = .ok (.iconst 0, 1) from by decide +kernel) (by decide) rfl ?_
  exact slX5_extend_J181 C RC K71 v0 v1 v2 v3 v4 v5 v6 v7 v9 (0 : Int32) s0 s1 s2 s3 s4 hv0 hs4
def fnX5_extend_J142 (rc : Nat → Int32 → Int32 → Int32 → Int32 → Int32 → sm_M Unit) (k71 : Nat → Int32 → Int32 → Int32 → Int32 → Int32 → Int32 → sm_M Unit) (v0 : Nat) (v1 : Int32) (v2 : Int32) (v3 : Int32) (v4 : Int32) (v5 : Int32) (v6 : Int32) (v7 : Int32) (s0 : Int32) : sm_M Unit := m_br (s0 = 0)
    (fnX5_extend_J180 rc k71 v0 v1 v2 v3 v4 v5 v6 v7 s0 v4 v3 (v2 &&& (((1 : Int32) <<< (v7 &&& 31)) ^^^ (-1 : Int32))) (v1 + (1 : Int32)) v0)
    (m_bnd (fnX7_mustGo (lk v0 2) v7) fun x170 => m_br ((bI x170) = 0)
    (fnX5_extend_J180 rc k71 v0 v1 v2 v3 v4 v5 v6 v7 s0 v4 v3 (v2 &&& (((1 : Int32) <<< (v7 &&& 31)) ^^^ (-1 : Int32))) (v1 + (1 : Int32)) v0)
    (fnX5_extend_J181 rc k71 v0 v1 v2 v3 v4 v5 v6 v7 s0 (1 : Int32) v4 v3 (v2 &&& (((1 : Int32) <<< (v7 &&& 31)) ^^^ (-1 : Int32))) (v1 + (1 : Int32)) v0))
set_option maxHeartbeats 4000000 in
set_option maxRecDepth 100000 in
theorem slX5_extend_J142 {κ : sm_X} {n0 : Nat} (C : sm_C κ RX5 cX5_extend 10 (6 + n0)) {rc : Nat → Int32 → Int32 → Int32 → Int32 → Int32 → sm_M Unit} (RC : ∀ (this : Nat) (p0 : Int32) (p1 : Int32) (p2 : Int32) (p3 : Int32) (p4 : Int32) (hthis : kd this = 5), sm_Mt (5 + n0) yX5_extend cX5_extend 10 none (xo κ) [xad κ this, .int p0, .int p1, .int p2, .int p3, .int p4] (fun _ => none) (rc this p0 p1 p2 p3 p4)) {k71 : Nat → Int32 → Int32 → Int32 → Int32 → Int32 → Int32 → sm_M Unit} (K71 : ∀ (v0 : Nat) (v1 : Int32) (v2 : Int32) (v3 : Int32) (v4 : Int32) (v5 : Int32) (v6 : Int32) (hv0 : kd v0 = 5), sm_S κ (fun _ : Unit => .inr none) (.inl (71, [some (xad κ v0), some (.int v1), some (.int v2), some (.int v3), some (.int v4), some (.int v5), some (.int v6), none, none, none], [])) (k71 v0 v1 v2 v3 v4 v5 v6)) (v0 : Nat) (v1 : Int32) (v2 : Int32) (v3 : Int32) (v4 : Int32) (v5 : Int32) (v6 : Int32) (v7 : Int32) (s0 : Int32) (hv0 : kd v0 = 5) : sm_S κ (fun _ : Unit => .inr none) (.inl (142, [some (xad κ v0), some (.int v1), some (.int v2), some (.int v3), some (.int v4), some (.int v5), some (.int v6), some (.int v7), none, none], [.int s0])) (fnX5_extend_J142 rc k71 v0 v1 v2 v3 v4 v5 v6 v7 s0) := by
  unfold fnX5_extend_J142
  refine sr_istore (i := 9) (L' := [some (xad κ v0), some (.int v1), some (.int v2), some (.int v3), some (.int v4), some (.int v5), some (.int v6), some (.int v7), none, some (.int s0)]) (q := 144) C (show decode cX5_extend 142 = .ok (.istore 9, 2) from by decide +kernel) (by decide) rfl rfl ?_
  refine sr_aload_n (i := 0) (q := 145) C (show decode cX5_extend 144 = .ok (.aload_n 0, 1) from by decide +kernel) rfl rfl rfl ?_
  refine sr_iload_n (i := 1) (q := 146) C (show decode cX5_extend 145 = .ok (.iload_n 1, 1) from by decide +kernel) rfl rfl rfl ?_
  refine sr_iconst (v := (1 : Int32)) (q := 147) C (show decode cX5_extend 146 = .ok (.iconst 1, 1) from by decide +kernel) (by decide) rfl ?_
  refine sr_iadd (q := 148) C (show decode cX5_extend 147 = .ok (.iadd, 1) from by decide +kernel) rfl ?_
  refine sr_iload_n (i := 2) (q := 149) C (show decode cX5_extend 148 = .ok (.iload_n 2, 1) from by decide +kernel) rfl rfl rfl ?_
  refine sr_iconst (v := (1 : Int32)) (q := 150) C (show decode cX5_extend 149 = .ok (.iconst 1, 1) from by decide +kernel) (by decide) rfl ?_
  refine sr_iload (i := 7) (q := 152) C (show decode cX5_extend 150 = .ok (.iload 7, 2) from by decide +kernel) rfl rfl ?_
  refine sr_ishl (q := 153) C (show decode cX5_extend 152 = .ok (.ishl, 1) from by decide +kernel) rfl ?_
  refine sr_iconst (v := (-1 : Int32)) (q := 154) C (show decode cX5_extend 153 = .ok (.iconst (-1), 1) from by decide +kernel) (by decide) rfl ?_
  refine sr_ixor (q := 155) C (show decode cX5_extend 154 = .ok (.ixor, 1) from by decide +kernel) rfl ?_
  refine sr_iand (q := 156) C (show decode cX5_extend 155 = .ok (.iand, 1) from by decide +kernel) rfl ?_
  refine sr_iload_n (i := 3) (q := 157) C (show decode cX5_extend 156 = .ok (.iload_n 3, 1) from by decide +kernel) rfl rfl rfl ?_
  refine sr_iload (i := 4) (q := 159) C (show decode cX5_extend 157 = .ok (.iload 4, 2) from by decide +kernel) rfl rfl ?_
  refine sr_iload (i := 9) (q := 161) C (show decode cX5_extend 159 = .ok (.iload 9, 2) from by decide +kernel) rfl rfl ?_
  refine sr_if_eq (q := 164) C 180 (show decode cX5_extend 161 = .ok (.ifCond .eq 19, 3) from by decide +kernel) (by decide) rfl ?_ ?_
  · exact slX5_extend_J180 C RC K71 v0 v1 v2 v3 v4 v5 v6 v7 s0 v4 v3 (v2 &&& (((1 : Int32) <<< (v7 &&& 31)) ^^^ (-1 : Int32))) (v1 + (1 : Int32)) v0 hv0 hv0
  · refine sr_aload_n (i := 0) (q := 165) C (show decode cX5_extend 164 = .ok (.aload_n 0, 1) from by decide +kernel) rfl rfl rfl ?_
    refine sr_getr (q := 168) C fl_X5_32 hv0 (show decode cX5_extend 165 = .ok (.getfield 32, 3) from by decide +kernel) rfl ?_
    refine sr_iload (i := 7) (q := 170) C (show decode cX5_extend 168 = .ok (.iload 7, 2) from by decide +kernel) rfl rfl ?_
    refine sr_cVz (As := [.int v7]) (st := [.int v4, .int v3, .int (v2 &&& (((1 : Int32) <<< (v7 &&& 31)) ^^^ (-1 : Int32))), .int (v1 + (1 : Int32)), xad κ v0]) (b := lk v0 2) (q := 173) C yvX7_mustGo ml_X5_100 (cnX7_mustGo (xo κ) (lk v0 2) v7 (kt hv0 kp_5_2)) (kt hv0 kp_5_2) (by decide) rfl rfl rfl (by omega) (by decide) (Nat.le_of_ble_eq_true rfl) rfl (show decode cX5_extend 170 = .ok (.invokevirtual 100, 3) from by decide +kernel) rfl (fun x170 => ?_)
    refine sr_if_eq (q := 176) C 180 (show decode cX5_extend 173 = .ok (.ifCond .eq 7, 3) from by decide +kernel) (by decide) rfl ?_ ?_
    · exact slX5_extend_J180 C RC K71 v0 v1 v2 v3 v4 v5 v6 v7 s0 v4 v3 (v2 &&& (((1 : Int32) <<< (v7 &&& 31)) ^^^ (-1 : Int32))) (v1 + (1 : Int32)) v0 hv0 hv0
    · refine sr_iconst (v := (1 : Int32)) (q := 177) C (show decode cX5_extend 176 = .ok (.iconst 1, 1) from by decide +kernel) (by decide) rfl ?_
      refine sr_goto (q := 181) C (show decode cX5_extend 177 = .ok (.goto 4, 3) from by decide +kernel) (by decide) ?_
      exact slX5_extend_J181 C RC K71 v0 v1 v2 v3 v4 v5 v6 v7 s0 (1 : Int32) v4 v3 (v2 &&& (((1 : Int32) <<< (v7 &&& 31)) ^^^ (-1 : Int32))) (v1 + (1 : Int32)) v0 hv0 hv0
def fnX5_extend_L71 (rc : Nat → Int32 → Int32 → Int32 → Int32 → Int32 → sm_M Unit) : Nat → Nat → Int32 → Int32 → Int32 → Int32 → Int32 → Int32 → sm_M Unit
  | 0, _, _, _, _, _, _, _ => m_fail
  | n + 1, v0, v1, v2, v3, v4, v5, v6 => m_br (v6 = 0)
    (m_ret ())
    (m_bnd (fnJ6_numberOfTrailingZeros_0f7a4 v6) fun x78 => m_bnd (fnX5_hasTwin v0 v2 x78) fun x87 => m_br ((bI x87) = 0)
    (m_sai (lk v0 5) v1 x78 <| m_ap (lk v0 4) (v1 + (1 : Int32)) fun x108 => m_ap (lk v0 4) v1 fun x118 => m_bnd (fnX9_takeFrom x108 x118) fun _ => m_bnd (fnX0_send (lk v0 3) x108 x78 v3) fun x131 => m_br (x131 < 0)
    (fnX5_extend_J142 rc (fnX5_extend_L71 rc n) v0 v1 v2 v3 v4 v5 v6 x78 (0 : Int32))
    (fnX5_extend_J142 rc (fnX5_extend_L71 rc n) v0 v1 v2 v3 v4 v5 v6 x78 (1 : Int32)))
    (fnX5_extend_J213 rc (fnX5_extend_L71 rc n) v0 v1 v2 v3 v4 v5 v6))
set_option maxHeartbeats 4000000 in
set_option maxRecDepth 100000 in
theorem slX5_extend_L71 {κ : sm_X} {n0 : Nat} (C : sm_C κ RX5 cX5_extend 10 (6 + n0)) {rc : Nat → Int32 → Int32 → Int32 → Int32 → Int32 → sm_M Unit} (RC : ∀ (this : Nat) (p0 : Int32) (p1 : Int32) (p2 : Int32) (p3 : Int32) (p4 : Int32) (hthis : kd this = 5), sm_Mt (5 + n0) yX5_extend cX5_extend 10 none (xo κ) [xad κ this, .int p0, .int p1, .int p2, .int p3, .int p4] (fun _ => none) (rc this p0 p1 p2 p3 p4)) : ∀ (n : Nat) (v0 : Nat) (v1 : Int32) (v2 : Int32) (v3 : Int32) (v4 : Int32) (v5 : Int32) (v6 : Int32) (hv0 : kd v0 = 5), sm_S κ (fun _ : Unit => .inr none) (.inl (71, [some (xad κ v0), some (.int v1), some (.int v2), some (.int v3), some (.int v4), some (.int v5), some (.int v6), none, none, none], [])) (fnX5_extend_L71 rc n v0 v1 v2 v3 v4 v5 v6) := by
  intro n
  induction n with
  | zero =>
    intros
    exact sr_fail
  | succ n K71 =>
    intro v0 v1 v2 v3 v4 v5 v6 hv0
    unfold fnX5_extend_L71
    refine sr_iload (i := 6) (q := 73) C (show decode cX5_extend 71 = .ok (.iload 6, 2) from by decide +kernel) rfl rfl ?_
    refine sr_if_eq (q := 76) C 225 (show decode cX5_extend 73 = .ok (.ifCond .eq 152, 3) from by decide +kernel) (by decide) rfl ?_ ?_
    · exact sr_vreturn C _ rfl (show decode cX5_extend 225 = .ok (.return_, 1) from by decide +kernel)
    · refine sr_iload (i := 6) (q := 78) C (show decode cX5_extend 76 = .ok (.iload 6, 2) from by decide +kernel) rfl rfl ?_
      refine sr_cSi (As := [.int v6]) (st := []) (q := 81) C ysJ6_numberOfTrailingZeros_0f7a4 ml_X5_88 (cnJ6_numberOfTrailingZeros_0f7a4 (xo κ) v6) rfl (by omega) (by decide) (Nat.le_of_ble_eq_true rfl) rfl (show decode cX5_extend 78 = .ok (.invokestatic 88, 3) from by decide +kernel) rfl (fun x78 => ?_)
      refine sr_istore (i := 7) (L' := [some (xad κ v0), some (.int v1), some (.int v2), some (.int v3), some (.int v4), some (.int v5), some (.int v6), some (.int x78), none, none]) (q := 83) C (show decode cX5_extend 81 = .ok (.istore 7, 2) from by decide +kernel) (by decide) rfl rfl ?_
      refine sr_aload_n (i := 0) (q := 84) C (show decode cX5_extend 83 = .ok (.aload_n 0, 1) from by decide +kernel) rfl rfl rfl ?_
      refine sr_iload_n (i := 2) (q := 85) C (show decode cX5_extend 84 = .ok (.iload_n 2, 1) from by decide +kernel) rfl rfl rfl ?_
      refine sr_iload (i := 7) (q := 87) C (show decode cX5_extend 85 = .ok (.iload 7, 2) from by decide +kernel) rfl rfl ?_
      refine sr_cVz (As := [.int v2, .int x78]) (st := []) (b := v0) (q := 90) C yvX5_hasTwin ml_X5_91 (cnX5_hasTwin (xo κ) v0 v2 x78 hv0) hv0 (by decide) rfl rfl rfl (by omega) (by decide) (Nat.le_of_ble_eq_true rfl) rfl (show decode cX5_extend 87 = .ok (.invokevirtual 91, 3) from by decide +kernel) rfl (fun x87 => ?_)
      refine sr_if_ne (q := 93) C 213 (show decode cX5_extend 90 = .ok (.ifCond .ne 123, 3) from by decide +kernel) (by decide) rfl ?_ ?_
      · refine sr_weak (L' := [some (xad κ v0), some (.int v1), some (.int v2), some (.int v3), some (.int v4), some (.int v5), some (.int v6), none, none, none]) ⟨rfl, rfl, rfl, rfl, rfl, rfl, rfl, trivial⟩ ?_
        exact slX5_extend_J213 C RC K71 v0 v1 v2 v3 v4 v5 v6 hv0
      · refine sr_aload_n (i := 0) (q := 94) C (show decode cX5_extend 93 = .ok (.aload_n 0, 1) from by decide +kernel) rfl rfl rfl ?_
        refine sr_getr (q := 97) C fl_X5_17 hv0 (show decode cX5_extend 94 = .ok (.getfield 17, 3) from by decide +kernel) rfl ?_
        refine sr_iload_n (i := 1) (q := 98) C (show decode cX5_extend 97 = .ok (.iload_n 1, 1) from by decide +kernel) rfl rfl rfl ?_
        refine sr_iload (i := 7) (q := 100) C (show decode cX5_extend 98 = .ok (.iload 7, 2) from by decide +kernel) rfl rfl ?_
        refine sr_iastore (q := 101) C (kt hv0 kp_5_5) (show decode cX5_extend 100 = .ok (.iastore, 1) from by decide +kernel) rfl ?_
        refine sr_aload_n (i := 0) (q := 102) C (show decode cX5_extend 101 = .ok (.aload_n 0, 1) from by decide +kernel) rfl rfl rfl ?_
        refine sr_getr (q := 105) C fl_X5_13 hv0 (show decode cX5_extend 102 = .ok (.getfield 13, 3) from by decide +kernel) rfl ?_
        refine sr_iload_n (i := 1) (q := 106) C (show decode cX5_extend 105 = .ok (.iload_n 1, 1) from by decide +kernel) rfl rfl rfl ?_
        refine sr_iconst (v := (1 : Int32)) (q := 107) C (show decode cX5_extend 106 = .ok (.iconst 1, 1) from by decide +kernel) (by decide) rfl ?_
        refine sr_iadd (q := 108) C (show decode cX5_extend 107 = .ok (.iadd, 1) from by decide +kernel) rfl ?_
        refine sr_aaload (t0 := 4) (q := 109) C (kt hv0 kp_5_4) (Or.inl rfl) rfl (show decode cX5_extend 108 = .ok (.aaload, 1) from by decide +kernel) rfl (fun x108 hx108 => ?_)
        refine sr_astore (i := 8) (L' := [some (xad κ v0), some (.int v1), some (.int v2), some (.int v3), some (.int v4), some (.int v5), some (.int v6), some (.int x78), some (xad κ x108), none]) (q := 111) C (show decode cX5_extend 109 = .ok (.astore 8, 2) from by decide +kernel) (by decide) rfl rfl ?_
        refine sr_aload (i := 8) (q := 113) C (show decode cX5_extend 111 = .ok (.aload 8, 2) from by decide +kernel) rfl rfl ?_
        refine sr_aload_n (i := 0) (q := 114) C (show decode cX5_extend 113 = .ok (.aload_n 0, 1) from by decide +kernel) rfl rfl rfl ?_
        refine sr_getr (q := 117) C fl_X5_13 hv0 (show decode cX5_extend 114 = .ok (.getfield 13, 3) from by decide +kernel) rfl ?_
        refine sr_iload_n (i := 1) (q := 118) C (show decode cX5_extend 117 = .ok (.iload_n 1, 1) from by decide +kernel) rfl rfl rfl ?_
        refine sr_aaload (t0 := 4) (q := 119) C (kt hv0 kp_5_4) (Or.inl rfl) rfl (show decode cX5_extend 118 = .ok (.aaload, 1) from by decide +kernel) rfl (fun x118 hx118 => ?_)
        refine sr_cVv (As := [xad κ x118]) (st := []) (b := x108) (q := 122) C yvX9_takeFrom ml_X5_67 (cnX9_takeFrom (xo κ) x108 x118 hx108 hx118) hx108 (by decide) rfl rfl rfl (by omega) (by decide) (Nat.le_of_ble_eq_true rfl) rfl (show decode cX5_extend 119 = .ok (.invokevirtual 67, 3) from by decide +kernel) rfl (fun _ => ?_)
        refine sr_aload_n (i := 0) (q := 123) C (show decode cX5_extend 122 = .ok (.aload_n 0, 1) from by decide +kernel) rfl rfl rfl ?_
        refine sr_getr (q := 126) C fl_X5_28 hv0 (show decode cX5_extend 123 = .ok (.getfield 28, 3) from by decide +kernel) rfl ?_
        refine sr_aload (i := 8) (q := 128) C (show decode cX5_extend 126 = .ok (.aload 8, 2) from by decide +kernel) rfl rfl ?_
        refine sr_iload (i := 7) (q := 130) C (show decode cX5_extend 128 = .ok (.iload 7, 2) from by decide +kernel) rfl rfl ?_
        refine sr_iload_n (i := 3) (q := 131) C (show decode cX5_extend 130 = .ok (.iload_n 3, 1) from by decide +kernel) rfl rfl rfl ?_
        refine sr_cVi (As := [xad κ x108, .int x78, .int v3]) (st := []) (b := lk v0 3) (q := 134) C yvX0_send ml_X5_94 (cnX0_send (xo κ) (lk v0 3) x108 x78 v3 (kt hv0 kp_5_3) hx108) (kt hv0 kp_5_3) (by decide) rfl rfl rfl (by omega) (by decide) (Nat.le_of_ble_eq_true rfl) rfl (show decode cX5_extend 131 = .ok (.invokevirtual 94, 3) from by decide +kernel) rfl (fun x131 => ?_)
        refine sr_if_lt (q := 137) C 141 (show decode cX5_extend 134 = .ok (.ifCond .lt 7, 3) from by decide +kernel) (by decide) rfl ?_ ?_
        · refine sr_iconst (v := (0 : Int32)) (q := 142) C (show decode cX5_extend 141 = .ok (.iconst 0, 1) from by decide +kernel) (by decide) rfl ?_
          refine sr_weak (L' := [some (xad κ v0), some (.int v1), some (.int v2), some (.int v3), some (.int v4), some (.int v5), some (.int v6), some (.int x78), none, none]) ⟨rfl, rfl, rfl, rfl, rfl, rfl, rfl, rfl, trivial⟩ ?_
          exact slX5_extend_J142 C RC K71 v0 v1 v2 v3 v4 v5 v6 x78 (0 : Int32) hv0
        · refine sr_iconst (v := (1 : Int32)) (q := 138) C (show decode cX5_extend 137 = .ok (.iconst 1, 1) from by decide +kernel) (by decide) rfl ?_
          refine sr_goto (q := 142) C (show decode cX5_extend 138 = .ok (.goto 4, 3) from by decide +kernel) (by decide) ?_
          refine sr_weak (L' := [some (xad κ v0), some (.int v1), some (.int v2), some (.int v3), some (.int v4), some (.int v5), some (.int v6), some (.int x78), none, none]) ⟨rfl, rfl, rfl, rfl, rfl, rfl, rfl, rfl, trivial⟩ ?_
          exact slX5_extend_J142 C RC K71 v0 v1 v2 v3 v4 v5 v6 x78 (1 : Int32) hv0
def fnX5_extend_B (rc : Nat → Int32 → Int32 → Int32 → Int32 → Int32 → sm_M Unit) (v0 : Nat) (v1 : Int32) (v2 : Int32) (v3 : Int32) (v4 : Int32) (v5 : Int32) : sm_M Unit := m_br (v2 = 0)
    (m_bnd (fnX5_isBetter v0 v4 v5) fun x9 => m_br ((bI x9) = 0)
    (m_ret ())
    (m_si v0 0 v4 <| m_si v0 1 v5 <| m_cpi (lk v0 5) (0 : Int32) (lk v0 6) (0 : Int32) (6 : Int32) <| m_ret ()))
    (m_br ((6 : Int32) ≤ v1)
    (m_ret ())
    (m_ap (lk v0 4) v1 fun x55 => m_bnd (fnX5_couldBeBetter v0 x55 v2 v4 v5) fun x61 => m_br ((bI x61) = 0)
    (m_ret ())
    (fnX5_extend_L71 rc 4096 v0 v1 v2 v3 v4 v5 v2)))
set_option maxHeartbeats 4000000 in
set_option maxRecDepth 100000 in
theorem slX5_extend_B {κ : sm_X} {n0 : Nat} (C : sm_C κ RX5 cX5_extend 10 (6 + n0)) {rc : Nat → Int32 → Int32 → Int32 → Int32 → Int32 → sm_M Unit} (RC : ∀ (this : Nat) (p0 : Int32) (p1 : Int32) (p2 : Int32) (p3 : Int32) (p4 : Int32) (hthis : kd this = 5), sm_Mt (5 + n0) yX5_extend cX5_extend 10 none (xo κ) [xad κ this, .int p0, .int p1, .int p2, .int p3, .int p4] (fun _ => none) (rc this p0 p1 p2 p3 p4)) (v0 : Nat) (v1 : Int32) (v2 : Int32) (v3 : Int32) (v4 : Int32) (v5 : Int32) (hv0 : kd v0 = 5) : sm_S κ (fun _ : Unit => .inr none) (.inl (0, [some (xad κ v0), some (.int v1), some (.int v2), some (.int v3), some (.int v4), some (.int v5), none, none, none, none], [])) (fnX5_extend_B rc v0 v1 v2 v3 v4 v5) := by
  unfold fnX5_extend_B
  refine sr_iload_n (i := 2) (q := 1) C (show decode cX5_extend 0 = .ok (.iload_n 2, 1) from by decide +kernel) rfl rfl rfl ?_
  refine sr_if_ne (q := 4) C 43 (show decode cX5_extend 1 = .ok (.ifCond .ne 42, 3) from by decide +kernel) (by decide) rfl ?_ ?_
  · refine sr_iload_n (i := 1) (q := 44) C (show decode cX5_extend 43 = .ok (.iload_n 1, 1) from by decide +kernel) rfl rfl rfl ?_
    refine sr_bipush (v := (6 : Int32)) (q := 46) C (show decode cX5_extend 44 = .ok (.bipush 6, 2) from by decide +kernel) (by decide) rfl ?_
    refine sr_icmp_ge (q := 49) C 67 (show decode cX5_extend 46 = .ok (.if_icmp .ge 21, 3) from by decide +kernel) (by decide) rfl ?_ ?_
    · exact sr_vreturn C _ rfl (show decode cX5_extend 67 = .ok (.return_, 1) from by decide +kernel)
    · refine sr_aload_n (i := 0) (q := 50) C (show decode cX5_extend 49 = .ok (.aload_n 0, 1) from by decide +kernel) rfl rfl rfl ?_
      refine sr_aload_n (i := 0) (q := 51) C (show decode cX5_extend 50 = .ok (.aload_n 0, 1) from by decide +kernel) rfl rfl rfl ?_
      refine sr_getr (q := 54) C fl_X5_13 hv0 (show decode cX5_extend 51 = .ok (.getfield 13, 3) from by decide +kernel) rfl ?_
      refine sr_iload_n (i := 1) (q := 55) C (show decode cX5_extend 54 = .ok (.iload_n 1, 1) from by decide +kernel) rfl rfl rfl ?_
      refine sr_aaload (t0 := 4) (q := 56) C (kt hv0 kp_5_4) (Or.inl rfl) rfl (show decode cX5_extend 55 = .ok (.aaload, 1) from by decide +kernel) rfl (fun x55 hx55 => ?_)
      refine sr_iload_n (i := 2) (q := 57) C (show decode cX5_extend 56 = .ok (.iload_n 2, 1) from by decide +kernel) rfl rfl rfl ?_
      refine sr_iload (i := 4) (q := 59) C (show decode cX5_extend 57 = .ok (.iload 4, 2) from by decide +kernel) rfl rfl ?_
      refine sr_iload (i := 5) (q := 61) C (show decode cX5_extend 59 = .ok (.iload 5, 2) from by decide +kernel) rfl rfl ?_
      refine sr_cVz (As := [xad κ x55, .int v2, .int v4, .int v5]) (st := []) (b := v0) (q := 64) C yvX5_couldBeBetter ml_X5_84 (cnX5_couldBeBetter (xo κ) v0 x55 v2 v4 v5 hv0 hx55) hv0 (by decide) rfl rfl rfl (by omega) (by decide) (Nat.le_of_ble_eq_true rfl) rfl (show decode cX5_extend 61 = .ok (.invokevirtual 84, 3) from by decide +kernel) rfl (fun x61 => ?_)
      refine sr_if_ne (q := 67) C 68 (show decode cX5_extend 64 = .ok (.ifCond .ne 4, 3) from by decide +kernel) (by decide) rfl ?_ ?_
      · refine sr_iload_n (i := 2) (q := 69) C (show decode cX5_extend 68 = .ok (.iload_n 2, 1) from by decide +kernel) rfl rfl rfl ?_
        refine sr_istore (i := 6) (L' := [some (xad κ v0), some (.int v1), some (.int v2), some (.int v3), some (.int v4), some (.int v5), some (.int v2), none, none, none]) (q := 71) C (show decode cX5_extend 69 = .ok (.istore 6, 2) from by decide +kernel) (by decide) rfl rfl ?_
        exact slX5_extend_L71 C RC 4096 v0 v1 v2 v3 v4 v5 v2 hv0
      · exact sr_vreturn C _ rfl (show decode cX5_extend 67 = .ok (.return_, 1) from by decide +kernel)
  · refine sr_aload_n (i := 0) (q := 5) C (show decode cX5_extend 4 = .ok (.aload_n 0, 1) from by decide +kernel) rfl rfl rfl ?_
    refine sr_iload (i := 4) (q := 7) C (show decode cX5_extend 5 = .ok (.iload 4, 2) from by decide +kernel) rfl rfl ?_
    refine sr_iload (i := 5) (q := 9) C (show decode cX5_extend 7 = .ok (.iload 5, 2) from by decide +kernel) rfl rfl ?_
    refine sr_cVz (As := [.int v4, .int v5]) (st := []) (b := v0) (q := 12) C yvX5_isBetter ml_X5_75 (cnX5_isBetter (xo κ) v0 v4 v5 hv0) hv0 (by decide) rfl rfl rfl (by omega) (by decide) (Nat.le_of_ble_eq_true rfl) rfl (show decode cX5_extend 9 = .ok (.invokevirtual 75, 3) from by decide +kernel) rfl (fun x9 => ?_)
    refine sr_if_eq (q := 15) C 42 (show decode cX5_extend 12 = .ok (.ifCond .eq 30, 3) from by decide +kernel) (by decide) rfl ?_ ?_
    · exact sr_vreturn C _ rfl (show decode cX5_extend 42 = .ok (.return_, 1) from by decide +kernel)
    · refine sr_aload_n (i := 0) (q := 16) C (show decode cX5_extend 15 = .ok (.aload_n 0, 1) from by decide +kernel) rfl rfl rfl ?_
      refine sr_iload (i := 4) (q := 18) C (show decode cX5_extend 16 = .ok (.iload 4, 2) from by decide +kernel) rfl rfl ?_
      refine sr_puti (q := 21) C fp_X5_61 hv0 (show decode cX5_extend 18 = .ok (.putfield 61, 3) from by decide +kernel) rfl ?_
      refine sr_aload_n (i := 0) (q := 22) C (show decode cX5_extend 21 = .ok (.aload_n 0, 1) from by decide +kernel) rfl rfl rfl ?_
      refine sr_iload (i := 5) (q := 24) C (show decode cX5_extend 22 = .ok (.iload 5, 2) from by decide +kernel) rfl rfl ?_
      refine sr_puti (q := 27) C fp_X5_64 hv0 (show decode cX5_extend 24 = .ok (.putfield 64, 3) from by decide +kernel) rfl ?_
      refine sr_aload_n (i := 0) (q := 28) C (show decode cX5_extend 27 = .ok (.aload_n 0, 1) from by decide +kernel) rfl rfl rfl ?_
      refine sr_getr (q := 31) C fl_X5_17 hv0 (show decode cX5_extend 28 = .ok (.getfield 17, 3) from by decide +kernel) rfl ?_
      refine sr_iconst (v := (0 : Int32)) (q := 32) C (show decode cX5_extend 31 = .ok (.iconst 0, 1) from by decide +kernel) (by decide) rfl ?_
      refine sr_aload_n (i := 0) (q := 33) C (show decode cX5_extend 32 = .ok (.aload_n 0, 1) from by decide +kernel) rfl rfl rfl ?_
      refine sr_getr (q := 36) C fl_X5_21 hv0 (show decode cX5_extend 33 = .ok (.getfield 21, 3) from by decide +kernel) rfl ?_
      refine sr_iconst (v := (0 : Int32)) (q := 37) C (show decode cX5_extend 36 = .ok (.iconst 0, 1) from by decide +kernel) (by decide) rfl ?_
      refine sr_bipush (v := (6 : Int32)) (q := 39) C (show decode cX5_extend 37 = .ok (.bipush 6, 2) from by decide +kernel) (by decide) rfl ?_
      refine sr_copyi (st := []) (q := 42) C ml_X5_78 (kt hv0 kp_5_5) (kt hv0 kp_5_6) (by omega) (by decide) (show decode cX5_extend 39 = .ok (.invokestatic 78, 3) from by decide +kernel) rfl ?_
      exact sr_vreturn C _ rfl (show decode cX5_extend 42 = .ok (.return_, 1) from by decide +kernel)
def fnX5_extend : Nat → Nat → Int32 → Int32 → Int32 → Int32 → Int32 → sm_M Unit
  | 0, _, _, _, _, _, _ => m_fail
  | n + 1, v0, v1, v2, v3, v4, v5 => fnX5_extend_B (fnX5_extend n) v0 v1 v2 v3 v4 v5
theorem cnX5_extend (ω : sm_O) : ∀ (n : Nat) (v0 : Nat) (v1 : Int32) (v2 : Int32) (v3 : Int32) (v4 : Int32) (v5 : Int32) (hv0 : kd v0 = 5), sm_Mt (5 + n) yX5_extend cX5_extend 10 none ω [.ref (ω.1 + v0), .int v1, .int v2, .int v3, .int v4, .int v5] (fun _ => none) (fnX5_extend n v0 v1 v2 v3 v4 v5) := by
  intro n
  induction n with
  | zero =>
    intros
    intro l μ a μ2 hf
    cases hf
  | succ n ih =>
    intro v0 v1 v2 v3 v4 v5 hv0
    have e : 5 + (n + 1) = 6 + n := by omega
    rw [e]
    refine sm_conV (by decide) (Nat.le_of_ble_eq_true rfl) ?_
    intro κ hκ C
    subst hκ
    exact slX5_extend_B C ih v0 v1 v2 v3 v4 v5 hv0
