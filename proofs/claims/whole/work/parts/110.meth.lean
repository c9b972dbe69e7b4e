def fnX11_plank (v0 : Nat) (v1 : Int32) (v2 : Int32) (v3 : Int32) : sm_M Int32 := m_bnd (fnX7_isPlace (lk v0 5) v1) fun x5 => m_br ((bI x5) = 0)
    (m_ret (-2 : Int32))
    (m_bnd (fnX7_isPlace (lk v0 5) v2) fun x16 => m_br ((bI x16) = 0)
    (m_ret (-2 : Int32))
    (m_br (v1 = v2)
    (m_ret (-2 : Int32))
    (m_bnd (fnX11_isStride v0 v3) fun x29 => m_br ((bI x29) = 0)
    (m_ret (-2 : Int32))
    (m_gi (lk v0 5) 3 fun x48 => m_bnd (fnX7_joins (lk v0 5) v1 v2 x48) fun x51 => m_br ((bI x51) = 0)
    (m_ret (-5 : Int32))
    (m_gi (lk v0 5) 1 fun x65 => m_br (x65 ≤ v3)
    (m_ret (999 : Int32))
    (m_br ((jmin v1 v2) = (98 : Int32))
    (m_ret (999 : Int32))
    (m_bnd (fnX2_lay (lk v0 13) (lk v0 6) v3 (1 : Int32)) fun _ => m_bnd (fnX2_join (lk v0 13) v1 v2) fun _ => m_bnd (fnX2_fill (lk v0 13)) fun x111 => m_ret x111)))))))
set_option maxHeartbeats 4000000 in
set_option maxRecDepth 100000 in
theorem slX11_plank {κ : sm_X} (C : sm_C κ RX11 cX11_plank 4 5) (v0 : Nat) (v1 : Int32) (v2 : Int32) (v3 : Int32) (hv0 : kd v0 = 11) : sm_S κ (fun r : Int32 => .inr (some (.int r))) (.inl (0, [some (xad κ v0), some (.int v1), some (.int v2), some (.int v3)], [])) (fnX11_plank v0 v1 v2 v3) := by
  unfold fnX11_plank
  refine sr_aload_n (i := 0) (q := 1) C (show decode cX11_plank 0 = .ok (.aload_n 0, 1) from by decide +kernel) rfl rfl rfl ?_
  refine sr_getr (q := 4) C fl_X11_27 hv0 (show decode cX11_plank 1 = .ok (.getfield 27, 3) from by decide +kernel) rfl ?_
  refine sr_iload_n (i := 1) (q := 5) C (show decode cX11_plank 4 = .ok (.iload_n 1, 1) from by decide +kernel) rfl rfl rfl ?_
  refine sr_cVz (As := [.int v1]) (st := []) (b := lk v0 5) (q := 8) C yvX7_isPlace ml_X11_184 (cnX7_isPlace (xo κ) (lk v0 5) v1 (kt hv0 kp_11_5)) (kt hv0 kp_11_5) (by decide) rfl rfl rfl (by decide) (by decide) (Nat.le_of_ble_eq_true rfl) rfl (show decode cX11_plank 5 = .ok (.invokevirtual 184, 3) from by decide +kernel) rfl (fun x5 => ?_)
  refine sr_if_eq (q := 11) C 35 (show decode cX11_plank 8 = .ok (.ifCond .eq 27, 3) from by decide +kernel) (by decide) rfl ?_ ?_
  · refine sr_bipush (v := (-2 : Int32)) (q := 37) C (show decode cX11_plank 35 = .ok (.bipush (-2), 2) from by decide +kernel) (by decide) rfl ?_
    exact sr_ireturn C _ rfl (show decode cX11_plank 37 = .ok (.ireturn, 1) from by decide +kernel)
  · refine sr_aload_n (i := 0) (q := 12) C (show decode cX11_plank 11 = .ok (.aload_n 0, 1) from by decide +kernel) rfl rfl rfl ?_
    refine sr_getr (q := 15) C fl_X11_27 hv0 (show decode cX11_plank 12 = .ok (.getfield 27, 3) from by decide +kernel) rfl ?_
    refine sr_iload_n (i := 2) (q := 16) C (show decode cX11_plank 15 = .ok (.iload_n 2, 1) from by decide +kernel) rfl rfl rfl ?_
    refine sr_cVz (As := [.int v2]) (st := []) (b := lk v0 5) (q := 19) C yvX7_isPlace ml_X11_184 (cnX7_isPlace (xo κ) (lk v0 5) v2 (kt hv0 kp_11_5)) (kt hv0 kp_11_5) (by decide) rfl rfl rfl (by decide) (by decide) (Nat.le_of_ble_eq_true rfl) rfl (show decode cX11_plank 16 = .ok (.invokevirtual 184, 3) from by decide +kernel) rfl (fun x16 => ?_)
    refine sr_if_eq (q := 22) C 35 (show decode cX11_plank 19 = .ok (.ifCond .eq 16, 3) from by decide +kernel) (by decide) rfl ?_ ?_
    · refine sr_bipush (v := (-2 : Int32)) (q := 37) C (show decode cX11_plank 35 = .ok (.bipush (-2), 2) from by decide +kernel) (by decide) rfl ?_
      exact sr_ireturn C _ rfl (show decode cX11_plank 37 = .ok (.ireturn, 1) from by decide +kernel)
    · refine sr_iload_n (i := 1) (q := 23) C (show decode cX11_plank 22 = .ok (.iload_n 1, 1) from by decide +kernel) rfl rfl rfl ?_
      refine sr_iload_n (i := 2) (q := 24) C (show decode cX11_plank 23 = .ok (.iload_n 2, 1) from by decide +kernel) rfl rfl rfl ?_
      refine sr_icmp_eq (q := 27) C 35 (show decode cX11_plank 24 = .ok (.if_icmp .eq 11, 3) from by decide +kernel) (by decide) rfl ?_ ?_
      · refine sr_bipush (v := (-2 : Int32)) (q := 37) C (show decode cX11_plank 35 = .ok (.bipush (-2), 2) from by decide +kernel) (by decide) rfl ?_
        exact sr_ireturn C _ rfl (show decode cX11_plank 37 = .ok (.ireturn, 1) from by decide +kernel)
      · refine sr_aload_n (i := 0) (q := 28) C (show decode cX11_plank 27 = .ok (.aload_n 0, 1) from by decide +kernel) rfl rfl rfl ?_
        refine sr_iload_n (i := 3) (q := 29) C (show decode cX11_plank 28 = .ok (.iload_n 3, 1) from by decide +kernel) rfl rfl rfl ?_
        refine sr_cVz (As := [.int v3]) (st := []) (b := v0) (q := 32) C yvX11_isStride ml_X11_187 (cnX11_isStride (xo κ) v0 v3 hv0) hv0 (by decide) rfl rfl rfl (by decide) (by decide) (Nat.le_of_ble_eq_true rfl) rfl (show decode cX11_plank 29 = .ok (.invokevirtual 187, 3) from by decide +kernel) rfl (fun x29 => ?_)
        refine sr_if_ne (q := 35) C 38 (show decode cX11_plank 32 = .ok (.ifCond .ne 6, 3) from by decide +kernel) (by decide) rfl ?_ ?_
        · refine sr_aload_n (i := 0) (q := 39) C (show decode cX11_plank 38 = .ok (.aload_n 0, 1) from by decide +kernel) rfl rfl rfl ?_
          refine sr_getr (q := 42) C fl_X11_27 hv0 (show decode cX11_plank 39 = .ok (.getfield 27, 3) from by decide +kernel) rfl ?_
          refine sr_iload_n (i := 1) (q := 43) C (show decode cX11_plank 42 = .ok (.iload_n 1, 1) from by decide +kernel) rfl rfl rfl ?_
          refine sr_iload_n (i := 2) (q := 44) C (show decode cX11_plank 43 = .ok (.iload_n 2, 1) from by decide +kernel) rfl rfl rfl ?_
          refine sr_aload_n (i := 0) (q := 45) C (show decode cX11_plank 44 = .ok (.aload_n 0, 1) from by decide +kernel) rfl rfl rfl ?_
          refine sr_getr (q := 48) C fl_X11_27 hv0 (show decode cX11_plank 45 = .ok (.getfield 27, 3) from by decide +kernel) rfl ?_
          refine sr_geti (q := 51) C fl_X11_362 (Or.inl rfl) (kt hv0 kp_11_5) (show decode cX11_plank 48 = .ok (.getfield 362, 3) from by decide +kernel) rfl (fun x48 => ?_)
          refine sr_cVz (As := [.int v1, .int v2, .int x48]) (st := []) (b := lk v0 5) (q := 54) C yvX7_joins ml_X11_190 (cnX7_joins (xo κ) (lk v0 5) v1 v2 x48 (kt hv0 kp_11_5)) (kt hv0 kp_11_5) (by decide) rfl rfl rfl (by decide) (by decide) (Nat.le_of_ble_eq_true rfl) rfl (show decode cX11_plank 51 = .ok (.invokevirtual 190, 3) from by decide +kernel) rfl (fun x51 => ?_)
          refine sr_if_ne (q := 57) C 60 (show decode cX11_plank 54 = .ok (.ifCond .ne 6, 3) from by decide +kernel) (by decide) rfl ?_ ?_
          · refine sr_iload_n (i := 3) (q := 61) C (show decode cX11_plank 60 = .ok (.iload_n 3, 1) from by decide +kernel) rfl rfl rfl ?_
            refine sr_aload_n (i := 0) (q := 62) C (show decode cX11_plank 61 = .ok (.aload_n 0, 1) from by decide +kernel) rfl rfl rfl ?_
            refine sr_getr (q := 65) C fl_X11_27 hv0 (show decode cX11_plank 62 = .ok (.getfield 27, 3) from by decide +kernel) rfl ?_
            refine sr_geti (q := 68) C fl_X11_310 (Or.inl rfl) (kt hv0 kp_11_5) (show decode cX11_plank 65 = .ok (.getfield 310, 3) from by decide +kernel) rfl (fun x65 => ?_)
            refine sr_icmp_ge (q := 71) C 81 (show decode cX11_plank 68 = .ok (.if_icmp .ge 13, 3) from by decide +kernel) (by decide) rfl ?_ ?_
            · refine sr_sipush (v := (999 : Int32)) (q := 84) C (show decode cX11_plank 81 = .ok (.sipush 999, 3) from by decide +kernel) (by decide) rfl ?_
              exact sr_ireturn C _ rfl (show decode cX11_plank 84 = .ok (.ireturn, 1) from by decide +kernel)
            · refine sr_iload_n (i := 1) (q := 72) C (show decode cX11_plank 71 = .ok (.iload_n 1, 1) from by decide +kernel) rfl rfl rfl ?_
              refine sr_iload_n (i := 2) (q := 73) C (show decode cX11_plank 72 = .ok (.iload_n 2, 1) from by decide +kernel) rfl rfl rfl ?_
              refine sr_jmin (st := []) (q := 76) C ml_X11_365 (by decide) (Nat.le_of_ble_eq_true rfl) (show decode cX11_plank 73 = .ok (.invokestatic 365, 3) from by decide +kernel) rfl ?_
              refine sr_bipush (v := (98 : Int32)) (q := 78) C (show decode cX11_plank 76 = .ok (.bipush 98, 2) from by decide +kernel) (by decide) rfl ?_
              refine sr_icmp_ne (q := 81) C 85 (show decode cX11_plank 78 = .ok (.if_icmp .ne 7, 3) from by decide +kernel) (by decide) rfl ?_ ?_
              · refine sr_aload_n (i := 0) (q := 86) C (show decode cX11_plank 85 = .ok (.aload_n 0, 1) from by decide +kernel) rfl rfl rfl ?_
                refine sr_getr (q := 89) C fl_X11_87 hv0 (show decode cX11_plank 86 = .ok (.getfield 87, 3) from by decide +kernel) rfl ?_
                refine sr_aload_n (i := 0) (q := 90) C (show decode cX11_plank 89 = .ok (.aload_n 0, 1) from by decide +kernel) rfl rfl rfl ?_
                refine sr_getr (q := 93) C fl_X11_36 hv0 (show decode cX11_plank 90 = .ok (.getfield 36, 3) from by decide +kernel) rfl ?_
                refine sr_iload_n (i := 3) (q := 94) C (show decode cX11_plank 93 = .ok (.iload_n 3, 1) from by decide +kernel) rfl rfl rfl ?_
                refine sr_iconst (v := (1 : Int32)) (q := 95) C (show decode cX11_plank 94 = .ok (.iconst 1, 1) from by decide +kernel) (by decide) rfl ?_
                refine sr_cVv (As := [xad κ (lk v0 6), .int v3, .int (1 : Int32)]) (st := []) (b := lk v0 13) (q := 98) C yvX2_lay ml_X11_313 (cnX2_lay (xo κ) (lk v0 13) (lk v0 6) v3 (1 : Int32) (kt hv0 kp_11_13) (kt hv0 kp_11_6)) (kt hv0 kp_11_13) (by decide) rfl rfl rfl (by decide) (by decide) (Nat.le_of_ble_eq_true rfl) rfl (show decode cX11_plank 95 = .ok (.invokevirtual 313, 3) from by decide +kernel) rfl (fun _ => ?_)
                refine sr_aload_n (i := 0) (q := 99) C (show decode cX11_plank 98 = .ok (.aload_n 0, 1) from by decide +kernel) rfl rfl rfl ?_
                refine sr_getr (q := 102) C fl_X11_87 hv0 (show decode cX11_plank 99 = .ok (.getfield 87, 3) from by decide +kernel) rfl ?_
                refine sr_iload_n (i := 1) (q := 103) C (show decode cX11_plank 102 = .ok (.iload_n 1, 1) from by decide +kernel) rfl rfl rfl ?_
                refine sr_iload_n (i := 2) (q := 104) C (show decode cX11_plank 103 = .ok (.iload_n 2, 1) from by decide +kernel) rfl rfl rfl ?_
                refine sr_cVv (As := [.int v1, .int v2]) (st := []) (b := lk v0 13) (q := 107) C yvX2_join ml_X11_370 (cnX2_join (xo κ) (lk v0 13) v1 v2 (kt hv0 kp_11_13)) (kt hv0 kp_11_13) (by decide) rfl rfl rfl (by decide) (by decide) (Nat.le_of_ble_eq_true rfl) rfl (show decode cX11_plank 104 = .ok (.invokevirtual 370, 3) from by decide +kernel) rfl (fun _ => ?_)
                refine sr_aload_n (i := 0) (q := 108) C (show decode cX11_plank 107 = .ok (.aload_n 0, 1) from by decide +kernel) rfl rfl rfl ?_
                refine sr_getr (q := 111) C fl_X11_87 hv0 (show decode cX11_plank 108 = .ok (.getfield 87, 3) from by decide +kernel) rfl ?_
                refine sr_cVi (As := []) (st := []) (b := lk v0 13) (q := 114) C yvX2_fill ml_X11_316 (cnX2_fill (xo κ) (lk v0 13) (kt hv0 kp_11_13)) (kt hv0 kp_11_13) (by decide) rfl rfl rfl (by decide) (by decide) (Nat.le_of_ble_eq_true rfl) rfl (show decode cX11_plank 111 = .ok (.invokevirtual 316, 3) from by decide +kernel) rfl (fun x111 => ?_)
                exact sr_ireturn C _ rfl (show decode cX11_plank 114 = .ok (.ireturn, 1) from by decide +kernel)
              · refine sr_sipush (v := (999 : Int32)) (q := 84) C (show decode cX11_plank 81 = .ok (.sipush 999, 3) from by decide +kernel) (by decide) rfl ?_
                exact sr_ireturn C _ rfl (show decode cX11_plank 84 = .ok (.ireturn, 1) from by decide +kernel)
          · refine sr_bipush (v := (-5 : Int32)) (q := 59) C (show decode cX11_plank 57 = .ok (.bipush (-5), 2) from by decide +kernel) (by decide) rfl ?_
            exact sr_ireturn C _ rfl (show decode cX11_plank 59 = .ok (.ireturn, 1) from by decide +kernel)
        · refine sr_bipush (v := (-2 : Int32)) (q := 37) C (show decode cX11_plank 35 = .ok (.bipush (-2), 2) from by decide +kernel) (by decide) rfl ?_
          exact sr_ireturn C _ rfl (show decode cX11_plank 37 = .ok (.ireturn, 1) from by decide +kernel)
theorem cnX11_plank (ω : sm_O) (v0 : Nat) (v1 : Int32) (v2 : Int32) (v3 : Int32) (hv0 : kd v0 = 11) : sm_Mt 5 yX11_plank cX11_plank 4 (some .int) ω [.ref (ω.1 + v0), .int v1, .int v2, .int v3] (fun a => some (.int a)) (fnX11_plank v0 v1 v2 v3) := by
  refine sm_conI (r := fun a => a) (by decide) (fun _ => rfl) (Nat.le_of_ble_eq_true rfl) ?_
  intro κ hκ C
  subst hκ
  exact slX11_plank C v0 v1 v2 v3 hv0
def fnX2_save (v0 : Nat) : sm_M Unit := m_bnd (fnX4_takeFrom (lk v0 2) (lk v0 1)) fun _ => m_ret ()
set_option maxHeartbeats 4000000 in
set_option maxRecDepth 100000 in
theorem slX2_save {κ : sm_X} (C : sm_C κ RX2 cX2_save 1 2) (v0 : Nat) (hv0 : kd v0 = 2) : sm_S κ (fun _ : Unit => .inr none) (.inl (0, [some (xad κ v0)], [])) (fnX2_save v0) := by
  unfold fnX2_save
  refine sr_aload_n (i := 0) (q := 1) C (show decode cX2_save 0 = .ok (.aload_n 0, 1) from by decide +kernel) rfl rfl rfl ?_
  refine sr_getr (q := 4) C fl_X2_18 hv0 (show decode cX2_save 1 = .ok (.getfield 18, 3) from by decide +kernel) rfl ?_
  refine sr_aload_n (i := 0) (q := 5) C (show decode cX2_save 4 = .ok (.aload_n 0, 1) from by decide +kernel) rfl rfl rfl ?_
  refine sr_getr (q := 8) C fl_X2_14 hv0 (show decode cX2_save 5 = .ok (.getfield 14, 3) from by decide +kernel) rfl ?_
  refine sr_cVv (As := [xad κ (lk v0 1)]) (st := []) (b := lk v0 2) (q := 11) C yvX4_takeFrom ml_X2_82 (cnX4_takeFrom (xo κ) (lk v0 2) (lk v0 1) (kt hv0 kp_2_2) (kt hv0 kp_2_1)) (kt hv0 kp_2_2) (by decide) rfl rfl rfl (by decide) (by decide) (Nat.le_of_ble_eq_true rfl) rfl (show decode cX2_save 8 = .ok (.invokevirtual 82, 3) from by decide +kernel) rfl (fun _ => ?_)
  exact sr_vreturn C _ rfl (show decode cX2_save 11 = .ok (.return_, 1) from by decide +kernel)
theorem cnX2_save (ω : sm_O) (v0 : Nat) (hv0 : kd v0 = 2) : sm_Mt 2 yX2_save cX2_save 1 none ω [.ref (ω.1 + v0)] (fun _ => none) (fnX2_save v0) := by
  refine sm_conV (by decide) (Nat.le_of_ble_eq_true rfl) ?_
  intro κ hκ C
  subst hκ
  exact slX2_save C v0 hv0
def fnX7_placeBy (v0 : Nat) (v1 : Int32) : sm_M Int32 := m_gi v0 4 fun x2 => m_br (x2 ≤ v1)
    (m_gi v0 4 fun x17 => m_ret (((98 : Int32) + v1) - x17))
    (m_ret v1)
set_option maxHeartbeats 4000000 in
set_option maxRecDepth 100000 in
theorem slX7_placeBy {κ : sm_X} (C : sm_C κ RX7 cX7_placeBy 2 1) (v0 : Nat) (v1 : Int32) (hv0 : kd v0 = 7) : sm_S κ (fun r : Int32 => .inr (some (.int r))) (.inl (0, [some (xad κ v0), some (.int v1)], [])) (fnX7_placeBy v0 v1) := by
  unfold fnX7_placeBy
  refine sr_iload_n (i := 1) (q := 1) C (show decode cX7_placeBy 0 = .ok (.iload_n 1, 1) from by decide +kernel) rfl rfl rfl ?_
  refine sr_aload_n (i := 0) (q := 2) C (show decode cX7_placeBy 1 = .ok (.aload_n 0, 1) from by decide +kernel) rfl rfl rfl ?_
  refine sr_geti (q := 5) C fl_X7_52 (Or.inl rfl) hv0 (show decode cX7_placeBy 2 = .ok (.getfield 52, 3) from by decide +kernel) rfl (fun x2 => ?_)
  refine sr_icmp_ge (q := 8) C 12 (show decode cX7_placeBy 5 = .ok (.if_icmp .ge 7, 3) from by decide +kernel) (by decide) rfl ?_ ?_
  · refine sr_bipush (v := (98 : Int32)) (q := 14) C (show decode cX7_placeBy 12 = .ok (.bipush 98, 2) from by decide +kernel) (by decide) rfl ?_
    refine sr_iload_n (i := 1) (q := 15) C (show decode cX7_placeBy 14 = .ok (.iload_n 1, 1) from by decide +kernel) rfl rfl rfl ?_
    refine sr_iadd (q := 16) C (show decode cX7_placeBy 15 = .ok (.iadd, 1) from by decide +kernel) rfl ?_
    refine sr_aload_n (i := 0) (q := 17) C (show decode cX7_placeBy 16 = .ok (.aload_n 0, 1) from by decide +kernel) rfl rfl rfl ?_
    refine sr_geti (q := 20) C fl_X7_52 (Or.inl rfl) hv0 (show decode cX7_placeBy 17 = .ok (.getfield 52, 3) from by decide +kernel) rfl (fun x17 => ?_)
    refine sr_isub (q := 21) C (show decode cX7_placeBy 20 = .ok (.isub, 1) from by decide +kernel) rfl ?_
    exact sr_ireturn C _ rfl (show decode cX7_placeBy 21 = .ok (.ireturn, 1) from by decide +kernel)
  · refine sr_iload_n (i := 1) (q := 9) C (show decode cX7_placeBy 8 = .ok (.iload_n 1, 1) from by decide +kernel) rfl rfl rfl ?_
    refine sr_goto (q := 21) C (show decode cX7_placeBy 9 = .ok (.goto 12, 3) from by decide +kernel) (by decide) ?_
    exact sr_ireturn C _ rfl (show decode cX7_placeBy 21 = .ok (.ireturn, 1) from by decide +kernel)
theorem cnX7_placeBy (ω : sm_O) (v0 : Nat) (v1 : Int32) (hv0 : kd v0 = 7) : sm_Mt 1 yX7_placeBy cX7_placeBy 2 (some .int) ω [.ref (ω.1 + v0), .int v1] (fun a => some (.int a)) (fnX7_placeBy v0 v1) := by
  refine sm_conI (r := fun a => a) (by decide) (fun _ => rfl) (Nat.le_of_ble_eq_true rfl) ?_
  intro κ hκ C
  subst hκ
  exact slX7_placeBy C v0 v1 hv0
def fnX11_planks_J200 (k65 : Nat → Int32 → Int32 → Int32 → Int32 → Int32 → sm_M Int32) (v0 : Nat) (v2 : Int32) (v3 : Int32) (v4 : Int32) (v5 : Int32) (v6 : Int32) : sm_M Int32 := k65 v0 v2 v3 v4 v5 (v6 + (1 : Int32))
set_option maxHeartbeats 4000000 in
set_option maxRecDepth 100000 in
theorem slX11_planks_J200 {κ : sm_X} (C : sm_C κ RX11 cX11_planks 11 6) {k65 : Nat → Int32 → Int32 → Int32 → Int32 → Int32 → sm_M Int32} (K65 : ∀ (v0 : Nat) (v2 : Int32) (v3 : Int32) (v4 : Int32) (v5 : Int32) (v6 : Int32) (hv0 : kd v0 = 11), sm_S κ (fun r : Int32 => .inr (some (.int r))) (.inl (65, [some (xad κ v0), none, some (.int v2), some (.int v3), some (.int v4), some (.int v5), some (.int v6), none, none, none, none], [])) (k65 v0 v2 v3 v4 v5 v6)) (v0 : Nat) (v2 : Int32) (v3 : Int32) (v4 : Int32) (v5 : Int32) (v6 : Int32) (hv0 : kd v0 = 11) : sm_S κ (fun r : Int32 => .inr (some (.int r))) (.inl (200, [some (xad κ v0), none, some (.int v2), some (.int v3), some (.int v4), some (.int v5), some (.int v6), none, none, none, none], [])) (fnX11_planks_J200 k65 v0 v2 v3 v4 v5 v6) := by
  unfold fnX11_planks_J200
  refine sr_iinc (v := v6 + (1 : Int32)) (L' := [some (xad κ v0), none, some (.int v2), some (.int v3), some (.int v4), some (.int v5), some (.int (v6 + (1 : Int32))), none, none, none, none]) (q := 203) C (show decode cX11_planks 200 = .ok (.iinc 6 1, 3) from by decide +kernel) rfl rfl (by decide) rfl rfl ?_
  refine sr_goto (q := 65) C (show decode cX11_planks 203 = .ok (.goto (-138), 3) from by decide +kernel) (by decide) ?_
  exact K65 v0 v2 v3 v4 v5 (v6 + (1 : Int32)) hv0
def fnX11_planks_J194 (k65 : Nat → Int32 → Int32 → Int32 → Int32 → Int32 → sm_M Int32) (k96 : Nat → Int32 → Int32 → Int32 → Int32 → Int32 → Int32 → Int32 → sm_M Int32) (v0 : Nat) (v2 : Int32) (v3 : Int32) (v4 : Int32) (v5 : Int32) (v6 : Int32) (v7 : Int32) (v8 : Int32) : sm_M Int32 := k96 v0 v2 v3 v4 v5 v6 v7 (v8 + (1 : Int32))
set_option maxHeartbeats 4000000 in
set_option maxRecDepth 100000 in
theorem slX11_planks_J194 {κ : sm_X} (C : sm_C κ RX11 cX11_planks 11 6) {k65 : Nat → Int32 → Int32 → Int32 → Int32 → Int32 → sm_M Int32} (K65 : ∀ (v0 : Nat) (v2 : Int32) (v3 : Int32) (v4 : Int32) (v5 : Int32) (v6 : Int32) (hv0 : kd v0 = 11), sm_S κ (fun r : Int32 => .inr (some (.int r))) (.inl (65, [some (xad κ v0), none, some (.int v2), some (.int v3), some (.int v4), some (.int v5), some (.int v6), none, none, none, none], [])) (k65 v0 v2 v3 v4 v5 v6)) {k96 : Nat → Int32 → Int32 → Int32 → Int32 → Int32 → Int32 → Int32 → sm_M Int32} (K96 : ∀ (v0 : Nat) (v2 : Int32) (v3 : Int32) (v4 : Int32) (v5 : Int32) (v6 : Int32) (v7 : Int32) (v8 : Int32) (hv0 : kd v0 = 11), sm_S κ (fun r : Int32 => .inr (some (.int r))) (.inl (96, [some (xad κ v0), none, some (.int v2), some (.int v3), some (.int v4), some (.int v5), some (.int v6), some (.int v7), some (.int v8), none, none], [])) (k96 v0 v2 v3 v4 v5 v6 v7 v8)) (v0 : Nat) (v2 : Int32) (v3 : Int32) (v4 : Int32) (v5 : Int32) (v6 : Int32) (v7 : Int32) (v8 : Int32) (hv0 : kd v0 = 11) : sm_S κ (fun r : Int32 => .inr (some (.int r))) (.inl (194, [some (xad κ v0), none, some (.int v2), some (.int v3), some (.int v4), some (.int v5), some (.int v6), some (.int v7), some (.int v8), none, none], [])) (fnX11_planks_J194 k65 k96 v0 v2 v3 v4 v5 v6 v7 v8) := by
  unfold fnX11_planks_J194
  refine sr_iinc (v := v8 + (1 : Int32)) (L' := [some (xad κ v0), none, some (.int v2), some (.int v3), some (.int v4), some (.int v5), some (.int v6), some (.int v7), some (.int (v8 + (1 : Int32))), none, none]) (q := 197) C (show decode cX11_planks 194 = .ok (.iinc 8 1, 3) from by decide +kernel) rfl rfl (by decide) rfl rfl ?_
  refine sr_goto (q := 96) C (show decode cX11_planks 197 = .ok (.goto (-101), 3) from by decide +kernel) (by decide) ?_
  exact K96 v0 v2 v3 v4 v5 v6 v7 (v8 + (1 : Int32)) hv0
def fnX11_planks_J172 (k65 : Nat → Int32 → Int32 → Int32 → Int32 → Int32 → sm_M Int32) (k96 : Nat → Int32 → Int32 → Int32 → Int32 → Int32 → Int32 → Int32 → sm_M Int32) (v0 : Nat) (v2 : Int32) (v3 : Int32) (v4 : Int32) (v5 : Int32) (v6 : Int32) (v7 : Int32) (v8 : Int32) (v9 : Int32) (s0 : Int32) : sm_M Int32 := m_br (s0 ≤ v4)
    (fnX11_planks_J194 k65 k96 v0 v2 v3 v4 v5 v6 v7 v8)
    (m_nm (((100 : Int32) * v7) + v9) fun y193 => fnX11_planks_J194 k65 k96 v0 v2 y193 s0 v5 v6 v7 v8)
set_option maxHeartbeats 4000000 in
set_option maxRecDepth 100000 in
theorem slX11_planks_J172 {κ : sm_X} (C : sm_C κ RX11 cX11_planks 11 6) {k65 : Nat → Int32 → Int32 → Int32 → Int32 → Int32 → sm_M Int32} (K65 : ∀ (v0 : Nat) (v2 : Int32) (v3 : Int32) (v4 : Int32) (v5 : Int32) (v6 : Int32) (hv0 : kd v0 = 11), sm_S κ (fun r : Int32 => .inr (some (.int r))) (.inl (65, [some (xad κ v0), none, some (.int v2), some (.int v3), some (.int v4), some (.int v5), some (.int v6), none, none, none, none], [])) (k65 v0 v2 v3 v4 v5 v6)) {k96 : Nat → Int32 → Int32 → Int32 → Int32 → Int32 → Int32 → Int32 → sm_M Int32} (K96 : ∀ (v0 : Nat) (v2 : Int32) (v3 : Int32) (v4 : Int32) (v5 : Int32) (v6 : Int32) (v7 : Int32) (v8 : Int32) (hv0 : kd v0 = 11), sm_S κ (fun r : Int32 => .inr (some (.int r))) (.inl (96, [some (xad κ v0), none, some (.int v2), some (.int v3), some (.int v4), some (.int v5), some (.int v6), some (.int v7), some (.int v8), none, none], [])) (k96 v0 v2 v3 v4 v5 v6 v7 v8)) (v0 : Nat) (v2 : Int32) (v3 : Int32) (v4 : Int32) (v5 : Int32) (v6 : Int32) (v7 : Int32) (v8 : Int32) (v9 : Int32) (s0 : Int32) (hv0 : kd v0 = 11) : sm_S κ (fun r : Int32 => .inr (some (.int r))) (.inl (172, [some (xad κ v0), none, some (.int v2), some (.int v3), some (.int v4), some (.int v5), some (.int v6), some (.int v7), some (.int v8), some (.int v9), none], [.int s0])) (fnX11_planks_J172 k65 k96 v0 v2 v3 v4 v5 v6 v7 v8 v9 s0) := by
  unfold fnX11_planks_J172
  refine sr_istore (i := 10) (L' := [some (xad κ v0), none, some (.int v2), some (.int v3), some (.int v4), some (.int v5), some (.int v6), some (.int v7), some (.int v8), some (.int v9), some (.int s0)]) (q := 174) C (show decode cX11_planks 172 = .ok (.istore 10, 2) from by decide +kernel) (by decide) rfl rfl ?_
  refine sr_iload (i := 10) (q := 176) C (show decode cX11_planks 174 = .ok (.iload 10, 2) from by decide +kernel) rfl rfl ?_
  refine sr_iload (i := 4) (q := 178) C (show decode cX11_planks 176 = .ok (.iload 4, 2) from by decide +kernel) rfl rfl ?_
  refine sr_icmp_le (q := 181) C 194 (show decode cX11_planks 178 = .ok (.if_icmp .le 16, 3) from by decide +kernel) (by decide) rfl ?_ ?_
  · refine sr_weak (L' := [some (xad κ v0), none, some (.int v2), some (.int v3), some (.int v4), some (.int v5), some (.int v6), some (.int v7), some (.int v8), none, none]) ⟨rfl, rfl, rfl, rfl, rfl, rfl, rfl, rfl, trivial⟩ ?_
    exact slX11_planks_J194 C K65 K96 v0 v2 v3 v4 v5 v6 v7 v8 hv0
  · refine sr_iload (i := 10) (q := 183) C (show decode cX11_planks 181 = .ok (.iload 10, 2) from by decide +kernel) rfl rfl ?_
    refine sr_istore (i := 4) (L' := [some (xad κ v0), none, some (.int v2), some (.int v3), some (.int s0), some (.int v5), some (.int v6), some (.int v7), some (.int v8), some (.int v9), some (.int s0)]) (q := 185) C (show decode cX11_planks 183 = .ok (.istore 4, 2) from by decide +kernel) (by decide) rfl rfl ?_
    refine sr_bipush (v := (100 : Int32)) (q := 187) C (show decode cX11_planks 185 = .ok (.bipush 100, 2) from by decide +kernel) (by decide) rfl ?_
    refine sr_iload (i := 7) (q := 189) C (show decode cX11_planks 187 = .ok (.iload 7, 2) from by decide +kernel) rfl rfl ?_
    refine sr_imul (q := 190) C (show decode cX11_planks 189 = .ok (.imul, 1) from by decide +kernel) rfl ?_
    refine sr_iload (i := 9) (q := 192) C (show decode cX11_planks 190 = .ok (.iload 9, 2) from by decide +kernel) rfl rfl ?_
    refine sr_iadd (q := 193) C (show decode cX11_planks 192 = .ok (.iadd, 1) from by decide +kernel) rfl ?_
    refine sr_nmi (fun y193 => ?_)
    refine sr_istore_n (i := 3) (L' := [some (xad κ v0), none, some (.int v2), some (.int y193), some (.int s0), some (.int v5), some (.int v6), some (.int v7), some (.int v8), some (.int v9), some (.int s0)]) (q := 194) C (show decode cX11_planks 193 = .ok (.istore_n 3, 1) from by decide +kernel) rfl (by decide) rfl rfl ?_
    refine sr_weak (L' := [some (xad κ v0), none, some (.int v2), some (.int y193), some (.int s0), some (.int v5), some (.int v6), some (.int v7), some (.int v8), none, none]) ⟨rfl, rfl, rfl, rfl, rfl, rfl, rfl, rfl, trivial⟩ ?_
    exact slX11_planks_J194 C K65 K96 v0 v2 y193 s0 v5 v6 v7 v8 hv0
def fnX11_planks_J156 (k65 : Nat → Int32 → Int32 → Int32 → Int32 → Int32 → sm_M Int32) (k96 : Nat → Int32 → Int32 → Int32 → Int32 → Int32 → Int32 → Int32 → sm_M Int32) (v0 : Nat) (v2 : Int32) (v3 : Int32) (v4 : Int32) (v5 : Int32) (v6 : Int32) (v7 : Int32) (v8 : Int32) (v9 : Int32) : sm_M Int32 := fnX11_planks_J172 k65 k96 v0 v2 v3 v4 v5 v6 v7 v8 v9 (999 : Int32)
set_option maxHeartbeats 4000000 in
set_option maxRecDepth 100000 in
theorem slX11_planks_J156 {κ : sm_X} (C : sm_C κ RX11 cX11_planks 11 6) {k65 : Nat → Int32 → Int32 → Int32 → Int32 → Int32 → sm_M Int32} (K65 : ∀ (v0 : Nat) (v2 : Int32) (v3 : Int32) (v4 : Int32) (v5 : Int32) (v6 : Int32) (hv0 : kd v0 = 11), sm_S κ (fun r : Int32 => .inr (some (.int r))) (.inl (65, [some (xad κ v0), none, some (.int v2), some (.int v3), some (.int v4), some (.int v5), some (.int v6), none, none, none, none], [])) (k65 v0 v2 v3 v4 v5 v6)) {k96 : Nat → Int32 → Int32 → Int32 → Int32 → Int32 → Int32 → Int32 → sm_M Int32} (K96 : ∀ (v0 : Nat) (v2 : Int32) (v3 : Int32) (v4 : Int32) (v5 : Int32) (v6 : Int32) (v7 : Int32) (v8 : Int32) (hv0 : kd v0 = 11), sm_S κ (fun r : Int32 => .inr (some (.int r))) (.inl (96, [some (xad κ v0), none, some (.int v2), some (.int v3), some (.int v4), some (.int v5), some (.int v6), some (.int v7), some (.int v8), none, none], [])) (k96 v0 v2 v3 v4 v5 v6 v7 v8)) (v0 : Nat) (v2 : Int32) (v3 : Int32) (v4 : Int32) (v5 : Int32) (v6 : Int32) (v7 : Int32) (v8 : Int32) (v9 : Int32) (hv0 : kd v0 = 11) : sm_S κ (fun r : Int32 => .inr (some (.int r))) (.inl (156, [some (xad κ v0), none, some (.int v2), some (.int v3), some (.int v4), some (.int v5), some (.int v6), some (.int v7), some (.int v8), some (.int v9), none], [])) (fnX11_planks_J156 k65 k96 v0 v2 v3 v4 v5 v6 v7 v8 v9) := by
  unfold fnX11_planks_J156
  refine sr_sipush (v := (999 : Int32)) (q := 159) C (show decode cX11_planks 156 = .ok (.sipush 999, 3) from by decide +kernel) (by decide) rfl ?_
  refine sr_goto (q := 172) C (show decode cX11_planks 159 = .ok (.goto 13, 3) from by decide +kernel) (by decide) ?_
  exact slX11_planks_J172 C K65 K96 v0 v2 v3 v4 v5 v6 v7 v8 v9 (999 : Int32) hv0
def fnX11_planks_L96 (k65 : Nat → Int32 → Int32 → Int32 → Int32 → Int32 → sm_M Int32) : Nat → Nat → Int32 → Int32 → Int32 → Int32 → Int32 → Int32 → Int32 → sm_M Int32
  | 0, _, _, _, _, _, _, _, _ => m_fail
  | n + 1, v0, v2, v3, v4, v5, v6, v7, v8 => m_gi (lk v0 5) 4 fun x102 => m_br ((x102 + (2 : Int32)) ≤ v8)
    (fnX11_planks_J200 k65 v0 v2 v3 v4 v5 v6)
    (m_bnd (fnX7_placeBy (lk v0 5) v8) fun x116 => m_gi (lk v0 5) 3 fun x133 => m_bnd (fnX7_joins (lk v0 5) v7 x116 x133) fun x136 => m_br ((bI x136) = 0)
    (fnX11_planks_J194 k65 (fnX11_planks_L96 k65 n) v0 v2 v3 v4 v5 v6 v7 v8)
    (m_br (v2 = 0)
    (m_br (v7 = (98 : Int32))
    (fnX11_planks_J156 k65 (fnX11_planks_L96 k65 n) v0 v2 v3 v4 v5 v6 v7 v8 x116)
    (m_bnd (fnX11_mostWithPlank v0 v7 x116 v5) fun x169 => fnX11_planks_J172 k65 (fnX11_planks_L96 k65 n) v0 v2 v3 v4 v5 v6 v7 v8 x116 x169))
    (fnX11_planks_J156 k65 (fnX11_planks_L96 k65 n) v0 v2 v3 v4 v5 v6 v7 v8 x116)))
set_option maxHeartbeats 4000000 in
set_option maxRecDepth 100000 in
theorem slX11_planks_L96 {κ : sm_X} (C : sm_C κ RX11 cX11_planks 11 6) {k65 : Nat → Int32 → Int32 → Int32 → Int32 → Int32 → sm_M Int32} (K65 : ∀ (v0 : Nat) (v2 : Int32) (v3 : Int32) (v4 : Int32) (v5 : Int32) (v6 : Int32) (hv0 : kd v0 = 11), sm_S κ (fun r : Int32 => .inr (some (.int r))) (.inl (65, [some (xad κ v0), none, some (.int v2), some (.int v3), some (.int v4), some (.int v5), some (.int v6), none, none, none, none], [])) (k65 v0 v2 v3 v4 v5 v6)) : ∀ (n : Nat) (v0 : Nat) (v2 : Int32) (v3 : Int32) (v4 : Int32) (v5 : Int32) (v6 : Int32) (v7 : Int32) (v8 : Int32) (hv0 : kd v0 = 11), sm_S κ (fun r : Int32 => .inr (some (.int r))) (.inl (96, [some (xad κ v0), none, some (.int v2), some (.int v3), some (.int v4), some (.int v5), some (.int v6), some (.int v7), some (.int v8), none, none], [])) (fnX11_planks_L96 k65 n v0 v2 v3 v4 v5 v6 v7 v8) := by
  intro n
  induction n with
  | zero =>
    intros
    exact sr_fail
  | succ n K96 =>
    intro v0 v2 v3 v4 v5 v6 v7 v8 hv0
    unfold fnX11_planks_L96
    refine sr_iload (i := 8) (q := 98) C (show decode cX11_planks 96 = .ok (.iload 8, 2) from by decide +kernel) rfl rfl ?_
    refine sr_aload_n (i := 0) (q := 99) C (show decode cX11_planks 98 = .ok (.aload_n 0, 1) from by decide +kernel) rfl rfl rfl ?_
    refine sr_getr (q := 102) C fl_X11_27 hv0 (show decode cX11_planks 99 = .ok (.getfield 27, 3) from by decide +kernel) rfl ?_
    refine sr_geti (q := 105) C fl_X11_374 (Or.inl rfl) (kt hv0 kp_11_5) (show decode cX11_planks 102 = .ok (.getfield 374, 3) from by decide +kernel) rfl (fun x102 => ?_)
    refine sr_iconst (v := (2 : Int32)) (q := 106) C (show decode cX11_planks 105 = .ok (.iconst 2, 1) from by decide +kernel) (by decide) rfl ?_
    refine sr_iadd (q := 107) C (show decode cX11_planks 106 = .ok (.iadd, 1) from by decide +kernel) rfl ?_
    refine sr_icmp_ge (q := 110) C 200 (show decode cX11_planks 107 = .ok (.if_icmp .ge 93, 3) from by decide +kernel) (by decide) rfl ?_ ?_
    · refine sr_weak (L' := [some (xad κ v0), none, some (.int v2), some (.int v3), some (.int v4), some (.int v5), some (.int v6), none, none, none, none]) ⟨rfl, rfl, rfl, rfl, rfl, rfl, trivial⟩ ?_
      exact slX11_planks_J200 C K65 v0 v2 v3 v4 v5 v6 hv0
    · refine sr_aload_n (i := 0) (q := 111) C (show decode cX11_planks 110 = .ok (.aload_n 0, 1) from by decide +kernel) rfl rfl rfl ?_
      refine sr_getr (q := 114) C fl_X11_27 hv0 (show decode cX11_planks 111 = .ok (.getfield 27, 3) from by decide +kernel) rfl ?_
      refine sr_iload (i := 8) (q := 116) C (show decode cX11_planks 114 = .ok (.iload 8, 2) from by decide +kernel) rfl rfl ?_
      refine sr_cVi (As := [.int v8]) (st := []) (b := lk v0 5) (q := 119) C yvX7_placeBy ml_X11_377 (cnX7_placeBy (xo κ) (lk v0 5) v8 (kt hv0 kp_11_5)) (kt hv0 kp_11_5) (by decide) rfl rfl rfl (by decide) (by decide) (Nat.le_of_ble_eq_true rfl) rfl (show decode cX11_planks 116 = .ok (.invokevirtual 377, 3) from by decide +kernel) rfl (fun x116 => ?_)
      refine sr_istore (i := 9) (L' := [some (xad κ v0), none, some (.int v2), some (.int v3), some (.int v4), some (.int v5), some (.int v6), some (.int v7), some (.int v8), some (.int x116), none]) (q := 121) C (show decode cX11_planks 119 = .ok (.istore 9, 2) from by decide +kernel) (by decide) rfl rfl ?_
      refine sr_aload_n (i := 0) (q := 122) C (show decode cX11_planks 121 = .ok (.aload_n 0, 1) from by decide +kernel) rfl rfl rfl ?_
      refine sr_getr (q := 125) C fl_X11_27 hv0 (show decode cX11_planks 122 = .ok (.getfield 27, 3) from by decide +kernel) rfl ?_
      refine sr_iload (i := 7) (q := 127) C (show decode cX11_planks 125 = .ok (.iload 7, 2) from by decide +kernel) rfl rfl ?_
      refine sr_iload (i := 9) (q := 129) C (show decode cX11_planks 127 = .ok (.iload 9, 2) from by decide +kernel) rfl rfl ?_
      refine sr_aload_n (i := 0) (q := 130) C (show decode cX11_planks 129 = .ok (.aload_n 0, 1) from by decide +kernel) rfl rfl rfl ?_
      refine sr_getr (q := 133) C fl_X11_27 hv0 (show decode cX11_planks 130 = .ok (.getfield 27, 3) from by decide +kernel) rfl ?_
      refine sr_geti (q := 136) C fl_X11_362 (Or.inl rfl) (kt hv0 kp_11_5) (show decode cX11_planks 133 = .ok (.getfield 362, 3) from by decide +kernel) rfl (fun x133 => ?_)
      refine sr_cVz (As := [.int v7, .int x116, .int x133]) (st := []) (b := lk v0 5) (q := 139) C yvX7_joins ml_X11_190 (cnX7_joins (xo κ) (lk v0 5) v7 x116 x133 (kt hv0 kp_11_5)) (kt hv0 kp_11_5) (by decide) rfl rfl rfl (by decide) (by decide) (Nat.le_of_ble_eq_true rfl) rfl (show decode cX11_planks 136 = .ok (.invokevirtual 190, 3) from by decide +kernel) rfl (fun x136 => ?_)
      refine sr_if_ne (q := 142) C 145 (show decode cX11_planks 139 = .ok (.ifCond .ne 6, 3) from by decide +kernel) (by decide) rfl ?_ ?_
      · refine sr_iload_n (i := 2) (q := 146) C (show decode cX11_planks 145 = .ok (.iload_n 2, 1) from by decide +kernel) rfl rfl rfl ?_
        refine sr_if_ne (q := 149) C 156 (show decode cX11_planks 146 = .ok (.ifCond .ne 10, 3) from by decide +kernel) (by decide) rfl ?_ ?_
        · exact slX11_planks_J156 C K65 K96 v0 v2 v3 v4 v5 v6 v7 v8 x116 hv0
        · refine sr_iload (i := 7) (q := 151) C (show decode cX11_planks 149 = .ok (.iload 7, 2) from by decide +kernel) rfl rfl ?_
          refine sr_bipush (v := (98 : Int32)) (q := 153) C (show decode cX11_planks 151 = .ok (.bipush 98, 2) from by decide +kernel) (by decide) rfl ?_
          refine sr_icmp_ne (q := 156) C 162 (show decode cX11_planks 153 = .ok (.if_icmp .ne 9, 3) from by decide +kernel) (by decide) rfl ?_ ?_
          · refine sr_aload_n (i := 0) (q := 163) C (show decode cX11_planks 162 = .ok (.aload_n 0, 1) from by decide +kernel) rfl rfl rfl ?_
            refine sr_iload (i := 7) (q := 165) C (show decode cX11_planks 163 = .ok (.iload 7, 2) from by decide +kernel) rfl rfl ?_
            refine sr_iload (i := 9) (q := 167) C (show decode cX11_planks 165 = .ok (.iload 9, 2) from by decide +kernel) rfl rfl ?_
            refine sr_iload (i := 5) (q := 169) C (show decode cX11_planks 167 = .ok (.iload 5, 2) from by decide +kernel) rfl rfl ?_
            refine sr_cVi (As := [.int v7, .int x116, .int v5]) (st := []) (b := v0) (q := 172) C yvX11_mostWithPlank ml_X11_380 (cnX11_mostWithPlank (xo κ) v0 v7 x116 v5 hv0) hv0 (by decide) rfl rfl rfl (by decide) (by decide) (Nat.le_of_ble_eq_true rfl) rfl (show decode cX11_planks 169 = .ok (.invokevirtual 380, 3) from by decide +kernel) rfl (fun x169 => ?_)
            exact slX11_planks_J172 C K65 K96 v0 v2 v3 v4 v5 v6 v7 v8 x116 x169 hv0
          · exact slX11_planks_J156 C K65 K96 v0 v2 v3 v4 v5 v6 v7 v8 x116 hv0
      · refine sr_goto (q := 194) C (show decode cX11_planks 142 = .ok (.goto 52, 3) from by decide +kernel) (by decide) ?_
        refine sr_weak (L' := [some (xad κ v0), none, some (.int v2), some (.int v3), some (.int v4), some (.int v5), some (.int v6), some (.int v7), some (.int v8), none, none]) ⟨rfl, rfl, rfl, rfl, rfl, rfl, rfl, rfl, trivial⟩ ?_
        exact slX11_planks_J194 C K65 K96 v0 v2 v3 v4 v5 v6 v7 v8 hv0
def fnX11_planks_L65 : Nat → Nat → Int32 → Int32 → Int32 → Int32 → Int32 → sm_M Int32
  | 0, _, _, _, _, _, _ => m_fail
  | n + 1, v0, v2, v3, v4, v5, v6 => m_gi (lk v0 5) 4 fun x71 => m_br ((x71 + (2 : Int32)) ≤ v6)
    (m_ret v3)
    (m_bnd (fnX7_placeBy (lk v0 5) v6) fun x85 => m_nm (v6 + (1 : Int32)) fun y94 => fnX11_planks_L96 (fnX11_planks_L65 n) 4096 v0 v2 v3 v4 v5 v6 x85 y94)
set_option maxHeartbeats 4000000 in
set_option maxRecDepth 100000 in
theorem slX11_planks_L65 {κ : sm_X} (C : sm_C κ RX11 cX11_planks 11 6) : ∀ (n : Nat) (v0 : Nat) (v2 : Int32) (v3 : Int32) (v4 : Int32) (v5 : Int32) (v6 : Int32) (hv0 : kd v0 = 11), sm_S κ (fun r : Int32 => .inr (some (.int r))) (.inl (65, [some (xad κ v0), none, some (.int v2), some (.int v3), some (.int v4), some (.int v5), some (.int v6), none, none, none, none], [])) (fnX11_planks_L65 n v0 v2 v3 v4 v5 v6) := by
  intro n
  induction n with
  | zero =>
    intros
    exact sr_fail
  | succ n K65 =>
    intro v0 v2 v3 v4 v5 v6 hv0
    unfold fnX11_planks_L65
    refine sr_iload (i := 6) (q := 67) C (show decode cX11_planks 65 = .ok (.iload 6, 2) from by decide +kernel) rfl rfl ?_
    refine sr_aload_n (i := 0) (q := 68) C (show decode cX11_planks 67 = .ok (.aload_n 0, 1) from by decide +kernel) rfl rfl rfl ?_
    refine sr_getr (q := 71) C fl_X11_27 hv0 (show decode cX11_planks 68 = .ok (.getfield 27, 3) from by decide +kernel) rfl ?_
    refine sr_geti (q := 74) C fl_X11_374 (Or.inl rfl) (kt hv0 kp_11_5) (show decode cX11_planks 71 = .ok (.getfield 374, 3) from by decide +kernel) rfl (fun x71 => ?_)
    refine sr_iconst (v := (2 : Int32)) (q := 75) C (show decode cX11_planks 74 = .ok (.iconst 2, 1) from by decide +kernel) (by decide) rfl ?_
    refine sr_iadd (q := 76) C (show decode cX11_planks 75 = .ok (.iadd, 1) from by decide +kernel) rfl ?_
    refine sr_icmp_ge (q := 79) C 206 (show decode cX11_planks 76 = .ok (.if_icmp .ge 130, 3) from by decide +kernel) (by decide) rfl ?_ ?_
    · refine sr_iload_n (i := 3) (q := 207) C (show decode cX11_planks 206 = .ok (.iload_n 3, 1) from by decide +kernel) rfl rfl rfl ?_
      exact sr_ireturn C _ rfl (show decode cX11_planks 207 = .ok (.ireturn, 1) from by decide +kernel)
    · refine sr_aload_n (i := 0) (q := 80) C (show decode cX11_planks 79 = .ok (.aload_n 0, 1) from by decide +kernel) rfl rfl rfl ?_
      refine sr_getr (q := 83) C fl_X11_27 hv0 (show decode cX11_planks 80 = .ok (.getfield 27, 3) from by decide +kernel) rfl ?_
      refine sr_iload (i := 6) (q := 85) C (show decode cX11_planks 83 = .ok (.iload 6, 2) from by decide +kernel) rfl rfl ?_
      refine sr_cVi (As := [.int v6]) (st := []) (b := lk v0 5) (q := 88) C yvX7_placeBy ml_X11_377 (cnX7_placeBy (xo κ) (lk v0 5) v6 (kt hv0 kp_11_5)) (kt hv0 kp_11_5) (by decide) rfl rfl rfl (by decide) (by decide) (Nat.le_of_ble_eq_true rfl) rfl (show decode cX11_planks 85 = .ok (.invokevirtual 377, 3) from by decide +kernel) rfl (fun x85 => ?_)
      refine sr_istore (i := 7) (L' := [some (xad κ v0), none, some (.int v2), some (.int v3), some (.int v4), some (.int v5), some (.int v6), some (.int x85), none, none, none]) (q := 90) C (show decode cX11_planks 88 = .ok (.istore 7, 2) from by decide +kernel) (by decide) rfl rfl ?_
      refine sr_iload (i := 6) (q := 92) C (show decode cX11_planks 90 = .ok (.iload 6, 2) from by decide +kernel) rfl rfl ?_
      refine sr_iconst (v := (1 : Int32)) (q := 93) C (show decode cX11_planks 92 = .ok (.iconst 1, 1) from by decide +kernel) (by decide) rfl ?_
      refine sr_iadd (q := 94) C (show decode cX11_planks 93 = .ok (.iadd, 1) from by decide +kernel) rfl ?_
      refine sr_nmi (fun y94 => ?_)
      refine sr_istore (i := 8) (L' := [some (xad κ v0), none, some (.int v2), some (.int v3), some (.int v4), some (.int v5), some (.int v6), some (.int x85), some (.int y94), none, none]) (q := 96) C (show decode cX11_planks 94 = .ok (.istore 8, 2) from by decide +kernel) (by decide) rfl rfl ?_
      exact slX11_planks_L96 C K65 4096 v0 v2 v3 v4 v5 v6 x85 y94 hv0
def fnX11_planks_J53 (v0 : Nat) (v2 : Int32) (v3 : Int32) (v4 : Int32) (s0 : Int32) : sm_M Int32 := m_bnd (fnX2_save (lk v0 13)) fun _ => fnX11_planks_L65 4096 v0 v2 v3 v4 s0 (0 : Int32)
set_option maxHeartbeats 4000000 in
set_option maxRecDepth 100000 in
theorem slX11_planks_J53 {κ : sm_X} (C : sm_C κ RX11 cX11_planks 11 6) (v0 : Nat) (v2 : Int32) (v3 : Int32) (v4 : Int32) (s0 : Int32) (hv0 : kd v0 = 11) : sm_S κ (fun r : Int32 => .inr (some (.int r))) (.inl (53, [some (xad κ v0), none, some (.int v2), some (.int v3), some (.int v4), none, none, none, none, none, none], [.int s0])) (fnX11_planks_J53 v0 v2 v3 v4 s0) := by
  unfold fnX11_planks_J53
  refine sr_istore (i := 5) (L' := [some (xad κ v0), none, some (.int v2), some (.int v3), some (.int v4), some (.int s0), none, none, none, none, none]) (q := 55) C (show decode cX11_planks 53 = .ok (.istore 5, 2) from by decide +kernel) (by decide) rfl rfl ?_
  refine sr_aload_n (i := 0) (q := 56) C (show decode cX11_planks 55 = .ok (.aload_n 0, 1) from by decide +kernel) rfl rfl rfl ?_
  refine sr_getr (q := 59) C fl_X11_87 hv0 (show decode cX11_planks 56 = .ok (.getfield 87, 3) from by decide +kernel) rfl ?_
  refine sr_cVv (As := []) (st := []) (b := lk v0 13) (q := 62) C yvX2_save ml_X11_342 (cnX2_save (xo κ) (lk v0 13) (kt hv0 kp_11_13)) (kt hv0 kp_11_13) (by decide) rfl rfl rfl (by decide) (by decide) (Nat.le_of_ble_eq_true rfl) rfl (show decode cX11_planks 59 = .ok (.invokevirtual 342, 3) from by decide +kernel) rfl (fun _ => ?_)
  refine sr_iconst (v := (0 : Int32)) (q := 63) C (show decode cX11_planks 62 = .ok (.iconst 0, 1) from by decide +kernel) (by decide) rfl ?_
  refine sr_istore (i := 6) (L' := [some (xad κ v0), none, some (.int v2), some (.int v3), some (.int v4), some (.int s0), some (.int (0 : Int32)), none, none, none, none]) (q := 65) C (show decode cX11_planks 63 = .ok (.istore 6, 2) from by decide +kernel) (by decide) rfl rfl ?_
  exact slX11_planks_L65 C 4096 v0 v2 v3 v4 s0 (0 : Int32) hv0
def fnX11_planks_J27 (v0 : Nat) (v1 : Int32) (s0 : Int32) : sm_M Int32 := m_br (s0 = 0)
    (m_bnd (fnX11_mostOf v0 (lk v0 6) v1 (1 : Int32)) fun x50 => fnX11_planks_J53 v0 s0 (-1 : Int32) (-1 : Int32) x50)
    (fnX11_planks_J53 v0 s0 (-1 : Int32) (-1 : Int32) (999 : Int32))
set_option maxHeartbeats 4000000 in
set_option maxRecDepth 100000 in
theorem slX11_planks_J27 {κ : sm_X} (C : sm_C κ RX11 cX11_planks 11 6) (v0 : Nat) (v1 : Int32) (s0 : Int32) (hv0 : kd v0 = 11) : sm_S κ (fun r : Int32 => .inr (some (.int r))) (.inl (27, [some (xad κ v0), some (.int v1), none, none, none, none, none, none, none, none, none], [.int s0])) (fnX11_planks_J27 v0 v1 s0) := by
  unfold fnX11_planks_J27
  refine sr_istore_n (i := 2) (L' := [some (xad κ v0), some (.int v1), some (.int s0), none, none, none, none, none, none, none, none]) (q := 28) C (show decode cX11_planks 27 = .ok (.istore_n 2, 1) from by decide +kernel) rfl (by decide) rfl rfl ?_
  refine sr_iconst (v := (-1 : Int32)) (q := 29) C (show decode cX11_planks 28 = .ok (.iconst (-1), 1) from by decide +kernel) (by decide) rfl ?_
  refine sr_istore_n (i := 3) (L' := [some (xad κ v0), some (.int v1), some (.int s0), some (.int (-1 : Int32)), none, none, none, none, none, none, none]) (q := 30) C (show decode cX11_planks 29 = .ok (.istore_n 3, 1) from by decide +kernel) rfl (by decide) rfl rfl ?_
  refine sr_iconst (v := (-1 : Int32)) (q := 31) C (show decode cX11_planks 30 = .ok (.iconst (-1), 1) from by decide +kernel) (by decide) rfl ?_
  refine sr_istore (i := 4) (L' := [some (xad κ v0), some (.int v1), some (.int s0), some (.int (-1 : Int32)), some (.int (-1 : Int32)), none, none, none, none, none, none]) (q := 33) C (show decode cX11_planks 31 = .ok (.istore 4, 2) from by decide +kernel) (by decide) rfl rfl ?_
  refine sr_iload_n (i := 2) (q := 34) C (show decode cX11_planks 33 = .ok (.iload_n 2, 1) from by decide +kernel) rfl rfl rfl ?_
  refine sr_if_eq (q := 37) C 43 (show decode cX11_planks 34 = .ok (.ifCond .eq 9, 3) from by decide +kernel) (by decide) rfl ?_ ?_
  · refine sr_aload_n (i := 0) (q := 44) C (show decode cX11_planks 43 = .ok (.aload_n 0, 1) from by decide +kernel) rfl rfl rfl ?_
    refine sr_aload_n (i := 0) (q := 45) C (show decode cX11_planks 44 = .ok (.aload_n 0, 1) from by decide +kernel) rfl rfl rfl ?_
    refine sr_getr (q := 48) C fl_X11_36 hv0 (show decode cX11_planks 45 = .ok (.getfield 36, 3) from by decide +kernel) rfl ?_
    refine sr_iload_n (i := 1) (q := 49) C (show decode cX11_planks 48 = .ok (.iload_n 1, 1) from by decide +kernel) rfl rfl rfl ?_
    refine sr_iconst (v := (1 : Int32)) (q := 50) C (show decode cX11_planks 49 = .ok (.iconst 1, 1) from by decide +kernel) (by decide) rfl ?_
    refine sr_cVi (As := [xad κ (lk v0 6), .int v1, .int (1 : Int32)]) (st := []) (b := v0) (q := 53) C yvX11_mostOf ml_X11_307 (cnX11_mostOf (xo κ) v0 (lk v0 6) v1 (1 : Int32) hv0 (kt hv0 kp_11_6)) hv0 (by decide) rfl rfl rfl (by decide) (by decide) (Nat.le_of_ble_eq_true rfl) rfl (show decode cX11_planks 50 = .ok (.invokevirtual 307, 3) from by decide +kernel) rfl (fun x50 => ?_)
    refine sr_weak (L' := [some (xad κ v0), none, some (.int s0), some (.int (-1 : Int32)), some (.int (-1 : Int32)), none, none, none, none, none, none]) ⟨rfl, rfl, rfl, rfl, trivial⟩ ?_
    exact slX11_planks_J53 C v0 s0 (-1 : Int32) (-1 : Int32) x50 hv0
  · refine sr_sipush (v := (999 : Int32)) (q := 40) C (show decode cX11_planks 37 = .ok (.sipush 999, 3) from by decide +kernel) (by decide) rfl ?_
    refine sr_goto (q := 53) C (show decode cX11_planks 40 = .ok (.goto 13, 3) from by decide +kernel) (by decide) ?_
    refine sr_weak (L' := [some (xad κ v0), none, some (.int s0), some (.int (-1 : Int32)), some (.int (-1 : Int32)), none, none, none, none, none, none]) ⟨rfl, rfl, rfl, rfl, trivial⟩ ?_
    exact slX11_planks_J53 C v0 s0 (-1 : Int32) (-1 : Int32) (999 : Int32) hv0
def fnX11_planks (v0 : Nat) (v1 : Int32) : sm_M Int32 := m_bnd (fnX11_isStride v0 v1) fun x2 => m_br ((bI x2) = 0)
    (m_ret (-2 : Int32))
    (m_gi (lk v0 5) 1 fun x16 => m_br (v1 < x16)
    (fnX11_planks_J27 v0 v1 (0 : Int32))
    (fnX11_planks_J27 v0 v1 (1 : Int32)))
set_option maxHeartbeats 4000000 in
set_option maxRecDepth 100000 in
theorem slX11_planks {κ : sm_X} (C : sm_C κ RX11 cX11_planks 11 6) (v0 : Nat) (v1 : Int32) (hv0 : kd v0 = 11) : sm_S κ (fun r : Int32 => .inr (some (.int r))) (.inl (0, [some (xad κ v0), some (.int v1), none, none, none, none, none, none, none, none, none], [])) (fnX11_planks v0 v1) := by
  unfold fnX11_planks
  refine sr_aload_n (i := 0) (q := 1) C (show decode cX11_planks 0 = .ok (.aload_n 0, 1) from by decide +kernel) rfl rfl rfl ?_
  refine sr_iload_n (i := 1) (q := 2) C (show decode cX11_planks 1 = .ok (.iload_n 1, 1) from by decide +kernel) rfl rfl rfl ?_
  refine sr_cVz (As := [.int v1]) (st := []) (b := v0) (q := 5) C yvX11_isStride ml_X11_187 (cnX11_isStride (xo κ) v0 v1 hv0) hv0 (by decide) rfl rfl rfl (by decide) (by decide) (Nat.le_of_ble_eq_true rfl) rfl (show decode cX11_planks 2 = .ok (.invokevirtual 187, 3) from by decide +kernel) rfl (fun x2 => ?_)
  refine sr_if_ne (q := 8) C 11 (show decode cX11_planks 5 = .ok (.ifCond .ne 6, 3) from by decide +kernel) (by decide) rfl ?_ ?_
  · refine sr_iload_n (i := 1) (q := 12) C (show decode cX11_planks 11 = .ok (.iload_n 1, 1) from by decide +kernel) rfl rfl rfl ?_
    refine sr_aload_n (i := 0) (q := 13) C (show decode cX11_planks 12 = .ok (.aload_n 0, 1) from by decide +kernel) rfl rfl rfl ?_
    refine sr_getr (q := 16) C fl_X11_27 hv0 (show decode cX11_planks 13 = .ok (.getfield 27, 3) from by decide +kernel) rfl ?_
    refine sr_geti (q := 19) C fl_X11_310 (Or.inl rfl) (kt hv0 kp_11_5) (show decode cX11_planks 16 = .ok (.getfield 310, 3) from by decide +kernel) rfl (fun x16 => ?_)
    refine sr_icmp_lt (q := 22) C 26 (show decode cX11_planks 19 = .ok (.if_icmp .lt 7, 3) from by decide +kernel) (by decide) rfl ?_ ?_
    · refine sr_iconst (v := (0 : Int32)) (q := 27) C (show decode cX11_planks 26 = .ok (.iconst 0, 1) from by decide +kernel) (by decide) rfl ?_
      exact slX11_planks_J27 C v0 v1 (0 : Int32) hv0
    · refine sr_iconst (v := (1 : Int32)) (q := 23) C (show decode cX11_planks 22 = .ok (.iconst 1, 1) from by decide +kernel) (by decide) rfl ?_
      refine sr_goto (q := 27) C (show decode cX11_planks 23 = .ok (.goto 4, 3) from by decide +kernel) (by decide) ?_
      exact slX11_planks_J27 C v0 v1 (1 : Int32) hv0
  · refine sr_bipush (v := (-2 : Int32)) (q := 10) C (show decode cX11_planks 8 = .ok (.bipush (-2), 2) from by decide +kernel) (by decide) rfl ?_
    exact sr_ireturn C _ rfl (show decode cX11_planks 10 = .ok (.ireturn, 1) from by decide +kernel)
theorem cnX11_planks (ω : sm_O) (v0 : Nat) (v1 : Int32) (hv0 : kd v0 = 11) : sm_Mt 6 yX11_planks cX11_planks 11 (some .int) ω [.ref (ω.1 + v0), .int v1] (fun a => some (.int a)) (fnX11_planks v0 v1) := by
  refine sm_conI (r := fun a => a) (by decide) (fun _ => rfl) (Nat.le_of_ble_eq_true rfl) ?_
  intro κ hκ C
  subst hκ
  exact slX11_planks C v0 v1 hv0
def fnX11_price (v0 : Nat) (v1 : Int32) (v2 : Int32) (v3 : Int32) : sm_M Int32 := m_bnd (fnX11_isStride v0 v1) fun x2 => m_br ((bI x2) = 0)
    (m_ret (-2 : Int32))
    (m_bnd (fnX11_isStride v0 v2) fun x10 => m_br ((bI x10) = 0)
    (m_ret (-2 : Int32))
    (m_bnd (fnX11_isWay v0 v3) fun x18 => m_br ((bI x18) = 0)
    (m_ret (-2 : Int32))
    (m_bnd (fnX11_priceOf v0 v1 v2 v3) fun x31 => m_ret x31)))
set_option maxHeartbeats 4000000 in
set_option maxRecDepth 100000 in
theorem slX11_price {κ : sm_X} (C : sm_C κ RX11 cX11_price 4 7) (v0 : Nat) (v1 : Int32) (v2 : Int32) (v3 : Int32) (hv0 : kd v0 = 11) : sm_S κ (fun r : Int32 => .inr (some (.int r))) (.inl (0, [some (xad κ v0), some (.int v1), some (.int v2), some (.int v3)], [])) (fnX11_price v0 v1 v2 v3) := by
  unfold fnX11_price
  refine sr_aload_n (i := 0) (q := 1) C (show decode cX11_price 0 = .ok (.aload_n 0, 1) from by decide +kernel) rfl rfl rfl ?_
  refine sr_iload_n (i := 1) (q := 2) C (show decode cX11_price 1 = .ok (.iload_n 1, 1) from by decide +kernel) rfl rfl rfl ?_
  refine sr_cVz (As := [.int v1]) (st := []) (b := v0) (q := 5) C yvX11_isStride ml_X11_187 (cnX11_isStride (xo κ) v0 v1 hv0) hv0 (by decide) rfl rfl rfl (by decide) (by decide) (Nat.le_of_ble_eq_true rfl) rfl (show decode cX11_price 2 = .ok (.invokevirtual 187, 3) from by decide +kernel) rfl (fun x2 => ?_)
  refine sr_if_eq (q := 8) C 24 (show decode cX11_price 5 = .ok (.ifCond .eq 19, 3) from by decide +kernel) (by decide) rfl ?_ ?_
  · refine sr_bipush (v := (-2 : Int32)) (q := 26) C (show decode cX11_price 24 = .ok (.bipush (-2), 2) from by decide +kernel) (by decide) rfl ?_
    exact sr_ireturn C _ rfl (show decode cX11_price 26 = .ok (.ireturn, 1) from by decide +kernel)
  · refine sr_aload_n (i := 0) (q := 9) C (show decode cX11_price 8 = .ok (.aload_n 0, 1) from by decide +kernel) rfl rfl rfl ?_
    refine sr_iload_n (i := 2) (q := 10) C (show decode cX11_price 9 = .ok (.iload_n 2, 1) from by decide +kernel) rfl rfl rfl ?_
    refine sr_cVz (As := [.int v2]) (st := []) (b := v0) (q := 13) C yvX11_isStride ml_X11_187 (cnX11_isStride (xo κ) v0 v2 hv0) hv0 (by decide) rfl rfl rfl (by decide) (by decide) (Nat.le_of_ble_eq_true rfl) rfl (show decode cX11_price 10 = .ok (.invokevirtual 187, 3) from by decide +kernel) rfl (fun x10 => ?_)
    refine sr_if_eq (q := 16) C 24 (show decode cX11_price 13 = .ok (.ifCond .eq 11, 3) from by decide +kernel) (by decide) rfl ?_ ?_
    · refine sr_bipush (v := (-2 : Int32)) (q := 26) C (show decode cX11_price 24 = .ok (.bipush (-2), 2) from by decide +kernel) (by decide) rfl ?_
      exact sr_ireturn C _ rfl (show decode cX11_price 26 = .ok (.ireturn, 1) from by decide +kernel)
    · refine sr_aload_n (i := 0) (q := 17) C (show decode cX11_price 16 = .ok (.aload_n 0, 1) from by decide +kernel) rfl rfl rfl ?_
      refine sr_iload_n (i := 3) (q := 18) C (show decode cX11_price 17 = .ok (.iload_n 3, 1) from by decide +kernel) rfl rfl rfl ?_
      refine sr_cVz (As := [.int v3]) (st := []) (b := v0) (q := 21) C yvX11_isWay ml_X11_214 (cnX11_isWay (xo κ) v0 v3 hv0) hv0 (by decide) rfl rfl rfl (by decide) (by decide) (Nat.le_of_ble_eq_true rfl) rfl (show decode cX11_price 18 = .ok (.invokevirtual 214, 3) from by decide +kernel) rfl (fun x18 => ?_)
      refine sr_if_ne (q := 24) C 27 (show decode cX11_price 21 = .ok (.ifCond .ne 6, 3) from by decide +kernel) (by decide) rfl ?_ ?_
      · refine sr_aload_n (i := 0) (q := 28) C (show decode cX11_price 27 = .ok (.aload_n 0, 1) from by decide +kernel) rfl rfl rfl ?_
        refine sr_iload_n (i := 1) (q := 29) C (show decode cX11_price 28 = .ok (.iload_n 1, 1) from by decide +kernel) rfl rfl rfl ?_
        refine sr_iload_n (i := 2) (q := 30) C (show decode cX11_price 29 = .ok (.iload_n 2, 1) from by decide +kernel) rfl rfl rfl ?_
        refine sr_iload_n (i := 3) (q := 31) C (show decode cX11_price 30 = .ok (.iload_n 3, 1) from by decide +kernel) rfl rfl rfl ?_
        refine sr_cVi (As := [.int v1, .int v2, .int v3]) (st := []) (b := v0) (q := 34) C yvX11_priceOf ml_X11_401 (cnX11_priceOf (xo κ) v0 v1 v2 v3 hv0) hv0 (by decide) rfl rfl rfl (by decide) (by decide) (Nat.le_of_ble_eq_true rfl) rfl (show decode cX11_price 31 = .ok (.invokevirtual 401, 3) from by decide +kernel) rfl (fun x31 => ?_)
        exact sr_ireturn C _ rfl (show decode cX11_price 34 = .ok (.ireturn, 1) from by decide +kernel)
      · refine sr_bipush (v := (-2 : Int32)) (q := 26) C (show decode cX11_price 24 = .ok (.bipush (-2), 2) from by decide +kernel) (by decide) rfl ?_
        exact sr_ireturn C _ rfl (show decode cX11_price 26 = .ok (.ireturn, 1) from by decide +kernel)
theorem cnX11_price (ω : sm_O) (v0 : Nat) (v1 : Int32) (v2 : Int32) (v3 : Int32) (hv0 : kd v0 = 11) : sm_Mt 7 yX11_price cX11_price 4 (some .int) ω [.ref (ω.1 + v0), .int v1, .int v2, .int v3] (fun a => some (.int a)) (fnX11_price v0 v1 v2 v3) := by
  refine sm_conI (r := fun a => a) (by decide) (fun _ => rfl) (Nat.le_of_ble_eq_true rfl) ?_
  intro κ hκ C
  subst hκ
  exact slX11_price C v0 v1 v2 v3 hv0
def fnX11_reach (v0 : Nat) (v1 : Int32) : sm_M Int32 := m_bnd (fnX11_isStride v0 v1) fun x2 => m_br ((bI x2) = 0)
    (m_ret (-2 : Int32))
    (m_bnd (fnX9_openFor (lk v0 6) (1 : Int32)) fun x20 => m_bnd (fnX3_flood (lk v0 8) x20 v1) fun x24 => m_ret x24)
set_option maxHeartbeats 4000000 in
set_option maxRecDepth 100000 in
theorem slX11_reach {κ : sm_X} (C : sm_C κ RX11 cX11_reach 2 3) (v0 : Nat) (v1 : Int32) (hv0 : kd v0 = 11) : sm_S κ (fun r : Int32 => .inr (some (.int r))) (.inl (0, [some (xad κ v0), some (.int v1)], [])) (fnX11_reach v0 v1) := by
  unfold fnX11_reach
  refine sr_aload_n (i := 0) (q := 1) C (show decode cX11_reach 0 = .ok (.aload_n 0, 1) from by decide +kernel) rfl rfl rfl ?_
  refine sr_iload_n (i := 1) (q := 2) C (show decode cX11_reach 1 = .ok (.iload_n 1, 1) from by decide +kernel) rfl rfl rfl ?_
  refine sr_cVz (As := [.int v1]) (st := []) (b := v0) (q := 5) C yvX11_isStride ml_X11_187 (cnX11_isStride (xo κ) v0 v1 hv0) hv0 (by decide) rfl rfl rfl (by decide) (by decide) (Nat.le_of_ble_eq_true rfl) rfl (show decode cX11_reach 2 = .ok (.invokevirtual 187, 3) from by decide +kernel) rfl (fun x2 => ?_)
  refine sr_if_ne (q := 8) C 11 (show decode cX11_reach 5 = .ok (.ifCond .ne 6, 3) from by decide +kernel) (by decide) rfl ?_ ?_
  · refine sr_aload_n (i := 0) (q := 12) C (show decode cX11_reach 11 = .ok (.aload_n 0, 1) from by decide +kernel) rfl rfl rfl ?_
    refine sr_getr (q := 15) C fl_X11_46 hv0 (show decode cX11_reach 12 = .ok (.getfield 46, 3) from by decide +kernel) rfl ?_
    refine sr_aload_n (i := 0) (q := 16) C (show decode cX11_reach 15 = .ok (.aload_n 0, 1) from by decide +kernel) rfl rfl rfl ?_
    refine sr_getr (q := 19) C fl_X11_36 hv0 (show decode cX11_reach 16 = .ok (.getfield 36, 3) from by decide +kernel) rfl ?_
    refine sr_iconst (v := (1 : Int32)) (q := 20) C (show decode cX11_reach 19 = .ok (.iconst 1, 1) from by decide +kernel) (by decide) rfl ?_
    refine sr_cVi (As := [.int (1 : Int32)]) (st := [xad κ (lk v0 8)]) (b := lk v0 6) (q := 23) C yvX9_openFor ml_X11_194 (cnX9_openFor (xo κ) (lk v0 6) (1 : Int32) (kt hv0 kp_11_6)) (kt hv0 kp_11_6) (by decide) rfl rfl rfl (by decide) (by decide) (Nat.le_of_ble_eq_true rfl) rfl (show decode cX11_reach 20 = .ok (.invokevirtual 194, 3) from by decide +kernel) rfl (fun x20 => ?_)
    refine sr_iload_n (i := 1) (q := 24) C (show decode cX11_reach 23 = .ok (.iload_n 1, 1) from by decide +kernel) rfl rfl rfl ?_
    refine sr_cVi (As := [.int x20, .int v1]) (st := []) (b := lk v0 8) (q := 27) C yvX3_flood ml_X11_197 (cnX3_flood (xo κ) (lk v0 8) x20 v1 (kt hv0 kp_11_8)) (kt hv0 kp_11_8) (by decide) rfl rfl rfl (by decide) (by decide) (Nat.le_of_ble_eq_true rfl) rfl (show decode cX11_reach 24 = .ok (.invokevirtual 197, 3) from by decide +kernel) rfl (fun x24 => ?_)
    exact sr_ireturn C _ rfl (show decode cX11_reach 27 = .ok (.ireturn, 1) from by decide +kernel)
  · refine sr_bipush (v := (-2 : Int32)) (q := 10) C (show decode cX11_reach 8 = .ok (.bipush (-2), 2) from by decide +kernel) (by decide) rfl ?_
    exact sr_ireturn C _ rfl (show decode cX11_reach 10 = .ok (.ireturn, 1) from by decide +kernel)
theorem cnX11_reach (ω : sm_O) (v0 : Nat) (v1 : Int32) (hv0 : kd v0 = 11) : sm_Mt 3 yX11_reach cX11_reach 2 (some .int) ω [.ref (ω.1 + v0), .int v1] (fun a => some (.int a)) (fnX11_reach v0 v1) := by
  refine sm_conI (r := fun a => a) (by decide) (fun _ => rfl) (Nat.le_of_ble_eq_true rfl) ?_
  intro κ hκ C
  subst hκ
  exact slX11_reach C v0 v1 hv0
def fnX6_isDigit (v0 : Int32) : sm_M Bool := m_br (v0 < (48 : Int32))
    (m_ret false)
    (m_br ((57 : Int32) < v0)
    (m_ret false)
    (m_ret true))
set_option maxHeartbeats 4000000 in
set_option maxRecDepth 100000 in
theorem slX6_isDigit {κ : sm_X} (C : sm_C κ RX6 cX6_isDigit 1 1) (v0 : Int32)  : sm_S κ (fun r : Bool => .inr (some (.int (bI r)))) (.inl (0, [some (.int v0)], [])) (fnX6_isDigit v0) := by
  unfold fnX6_isDigit
  refine sr_iload_n (i := 0) (q := 1) C (show decode cX6_isDigit 0 = .ok (.iload_n 0, 1) from by decide +kernel) rfl rfl rfl ?_
  refine sr_bipush (v := (48 : Int32)) (q := 3) C (show decode cX6_isDigit 1 = .ok (.bipush 48, 2) from by decide +kernel) (by decide) rfl ?_
  refine sr_icmp_lt (q := 6) C 16 (show decode cX6_isDigit 3 = .ok (.if_icmp .lt 13, 3) from by decide +kernel) (by decide) rfl ?_ ?_
  · refine sr_iconst (v := (0 : Int32)) (q := 17) C (show decode cX6_isDigit 16 = .ok (.iconst 0, 1) from by decide +kernel) (by decide) rfl ?_
    exact sr_ireturn C false rfl (show decode cX6_isDigit 17 = .ok (.ireturn, 1) from by decide +kernel)
  · refine sr_iload_n (i := 0) (q := 7) C (show decode cX6_isDigit 6 = .ok (.iload_n 0, 1) from by decide +kernel) rfl rfl rfl ?_
    refine sr_bipush (v := (57 : Int32)) (q := 9) C (show decode cX6_isDigit 7 = .ok (.bipush 57, 2) from by decide +kernel) (by decide) rfl ?_
    refine sr_icmp_gt (q := 12) C 16 (show decode cX6_isDigit 9 = .ok (.if_icmp .gt 7, 3) from by decide +kernel) (by decide) rfl ?_ ?_
    · refine sr_iconst (v := (0 : Int32)) (q := 17) C (show decode cX6_isDigit 16 = .ok (.iconst 0, 1) from by decide +kernel) (by decide) rfl ?_
      exact sr_ireturn C false rfl (show decode cX6_isDigit 17 = .ok (.ireturn, 1) from by decide +kernel)
    · refine sr_iconst (v := (1 : Int32)) (q := 13) C (show decode cX6_isDigit 12 = .ok (.iconst 1, 1) from by decide +kernel) (by decide) rfl ?_
      refine sr_goto (q := 17) C (show decode cX6_isDigit 13 = .ok (.goto 4, 3) from by decide +kernel) (by decide) ?_
      exact sr_ireturn C true rfl (show decode cX6_isDigit 17 = .ok (.ireturn, 1) from by decide +kernel)
theorem cnX6_isDigit (ω : sm_O) (v0 : Int32)  : sm_Mt 1 yX6_isDigit cX6_isDigit 1 (some .boolean) ω [.int v0] (fun a => some (.int (bI a))) (fnX6_isDigit v0) := by
  refine sm_conI (r := bI) (by decide) bI_nar (Nat.le_of_ble_eq_true rfl) ?_
  intro κ hκ C
  subst hκ
  exact slX6_isDigit C v0
def fnX6_isLetter (v0 : Int32) : sm_M Bool := m_br (v0 < (97 : Int32))
    (m_ret false)
    (m_br ((122 : Int32) < v0)
    (m_ret false)
    (m_ret true))
set_option maxHeartbeats 4000000 in
set_option maxRecDepth 100000 in
theorem slX6_isLetter {κ : sm_X} (C : sm_C κ RX6 cX6_isLetter 1 1) (v0 : Int32)  : sm_S κ (fun r : Bool => .inr (some (.int (bI r)))) (.inl (0, [some (.int v0)], [])) (fnX6_isLetter v0) := by
  unfold fnX6_isLetter
  refine sr_iload_n (i := 0) (q := 1) C (show decode cX6_isLetter 0 = .ok (.iload_n 0, 1) from by decide +kernel) rfl rfl rfl ?_
  refine sr_bipush (v := (97 : Int32)) (q := 3) C (show decode cX6_isLetter 1 = .ok (.bipush 97, 2) from by decide +kernel) (by decide) rfl ?_
  refine sr_icmp_lt (q := 6) C 16 (show decode cX6_isLetter 3 = .ok (.if_icmp .lt 13, 3) from by decide +kernel) (by decide) rfl ?_ ?_
  · refine sr_iconst (v := (0 : Int32)) (q := 17) C (show decode cX6_isLetter 16 = .ok (.iconst 0, 1) from by decide +kernel) (by decide) rfl ?_
    exact sr_ireturn C false rfl (show decode cX6_isLetter 17 = .ok (.ireturn, 1) from by decide +kernel)
  · refine sr_iload_n (i := 0) (q := 7) C (show decode cX6_isLetter 6 = .ok (.iload_n 0, 1) from by decide +kernel) rfl rfl rfl ?_
    refine sr_bipush (v := (122 : Int32)) (q := 9) C (show decode cX6_isLetter 7 = .ok (.bipush 122, 2) from by decide +kernel) (by decide) rfl ?_
    refine sr_icmp_gt (q := 12) C 16 (show decode cX6_isLetter 9 = .ok (.if_icmp .gt 7, 3) from by decide +kernel) (by decide) rfl ?_ ?_
    · refine sr_iconst (v := (0 : Int32)) (q := 17) C (show decode cX6_isLetter 16 = .ok (.iconst 0, 1) from by decide +kernel) (by decide) rfl ?_
      exact sr_ireturn C false rfl (show decode cX6_isLetter 17 = .ok (.ireturn, 1) from by decide +kernel)
    · refine sr_iconst (v := (1 : Int32)) (q := 13) C (show decode cX6_isLetter 12 = .ok (.iconst 1, 1) from by decide +kernel) (by decide) rfl ?_
      refine sr_goto (q := 17) C (show decode cX6_isLetter 13 = .ok (.goto 4, 3) from by decide +kernel) (by decide) ?_
      exact sr_ireturn C true rfl (show decode cX6_isLetter 17 = .ok (.ireturn, 1) from by decide +kernel)
theorem cnX6_isLetter (ω : sm_O) (v0 : Int32)  : sm_Mt 1 yX6_isLetter cX6_isLetter 1 (some .boolean) ω [.int v0] (fun a => some (.int (bI a))) (fnX6_isLetter v0) := by
  refine sm_conI (r := bI) (by decide) bI_nar (Nat.le_of_ble_eq_true rfl) ?_
  intro κ hκ C
  subst hκ
  exact slX6_isLetter C v0
def fnX6_advance_J260 (v0 : Nat) (s0 : Int32) (s1 : Nat) : sm_M Unit := m_si s1 7 s0 <| m_gi v0 6 fun x265 => m_si v0 6 (x265 + (1 : Int32)) <| m_ret ()
set_option maxHeartbeats 4000000 in
set_option maxRecDepth 100000 in
theorem slX6_advance_J260 {κ : sm_X} (C : sm_C κ RX6 cX6_advance 1 2) (v0 : Nat) (s0 : Int32) (s1 : Nat) (hv0 : kd v0 = 6) (hs1 : kd s1 = 6) : sm_S κ (fun _ : Unit => .inr none) (.inl (260, [some (xad κ v0)], [.int s0, xad κ s1])) (fnX6_advance_J260 v0 s0 s1) := by
  unfold fnX6_advance_J260
  refine sr_puti (q := 263) C fp_X6_54 hs1 (show decode cX6_advance 260 = .ok (.putfield 54, 3) from by decide +kernel) rfl ?_
  refine sr_aload_n (i := 0) (q := 264) C (show decode cX6_advance 263 = .ok (.aload_n 0, 1) from by decide +kernel) rfl rfl rfl ?_
  refine sr_dup (q := 265) C (show decode cX6_advance 264 = .ok (.dup, 1) from by decide +kernel) rfl rfl ?_
  refine sr_geti (q := 268) C fl_X6_41 (Or.inl rfl) hv0 (show decode cX6_advance 265 = .ok (.getfield 41, 3) from by decide +kernel) rfl (fun x265 => ?_)
  refine sr_iconst (v := (1 : Int32)) (q := 269) C (show decode cX6_advance 268 = .ok (.iconst 1, 1) from by decide +kernel) (by decide) rfl ?_
  refine sr_iadd (q := 270) C (show decode cX6_advance 269 = .ok (.iadd, 1) from by decide +kernel) rfl ?_
  refine sr_puti (q := 273) C fp_X6_41 hv0 (show decode cX6_advance 270 = .ok (.putfield 41, 3) from by decide +kernel) rfl ?_
  exact sr_vreturn C _ rfl (show decode cX6_advance 273 = .ok (.return_, 1) from by decide +kernel)
def fnX6_advance_L171 : Nat → Nat → sm_M Unit
  | 0, _ => m_fail
  | n + 1, v0 => m_gi v0 6 fun x172 => m_gi v0 4 fun x176 => m_br (x176 ≤ x172)
    (m_ret ())
    (m_gt fun x183 => m_gi v0 6 fun x187 => m_ai x183 x187 fun x190 => m_bnd (fnX6_isDigit x190) fun x191 => m_br ((bI x191) = 0)
    (m_ret ())
    (m_gi v0 8 fun x204 => m_gt fun x209 => m_gi v0 6 fun x213 => m_ai x209 x213 fun x216 => m_si v0 8 (jmin (1000 : Int32) ((((10 : Int32) * x204) + x216) - (48 : Int32))) <| m_gi v0 6 fun x229 => m_si v0 6 (x229 + (1 : Int32)) <| (fnX6_advance_L171 n) v0))
set_option maxHeartbeats 4000000 in
set_option maxRecDepth 100000 in
theorem slX6_advance_L171 {κ : sm_X} (C : sm_C κ RX6 cX6_advance 1 2) : ∀ (n : Nat) (v0 : Nat) (hv0 : kd v0 = 6), sm_S κ (fun _ : Unit => .inr none) (.inl (171, [some (xad κ v0)], [])) (fnX6_advance_L171 n v0) := by
  intro n
  induction n with
  | zero =>
    intros
    exact sr_fail
  | succ n K171 =>
    intro v0 hv0
    unfold fnX6_advance_L171
    refine sr_aload_n (i := 0) (q := 172) C (show decode cX6_advance 171 = .ok (.aload_n 0, 1) from by decide +kernel) rfl rfl rfl ?_
    refine sr_geti (q := 175) C fl_X6_41 (Or.inl rfl) hv0 (show decode cX6_advance 172 = .ok (.getfield 41, 3) from by decide +kernel) rfl (fun x172 => ?_)
    refine sr_aload_n (i := 0) (q := 176) C (show decode cX6_advance 175 = .ok (.aload_n 0, 1) from by decide +kernel) rfl rfl rfl ?_
    refine sr_geti (q := 179) C fl_X6_28 (Or.inl rfl) hv0 (show decode cX6_advance 176 = .ok (.getfield 28, 3) from by decide +kernel) rfl (fun x176 => ?_)
    refine sr_icmp_ge (q := 182) C 273 (show decode cX6_advance 179 = .ok (.if_icmp .ge 94, 3) from by decide +kernel) (by decide) rfl ?_ ?_
    · exact sr_vreturn C _ rfl (show decode cX6_advance 273 = .ok (.return_, 1) from by decide +kernel)
    · refine sr_aload_n (i := 0) (q := 183) C (show decode cX6_advance 182 = .ok (.aload_n 0, 1) from by decide +kernel) rfl rfl rfl ?_
      refine sr_gett (q := 186) C fl_X6_18 hv0 (show decode cX6_advance 183 = .ok (.getfield 18, 3) from by decide +kernel) rfl (fun x183 hx183 => ?_)
      refine sr_aload_n (i := 0) (q := 187) C (show decode cX6_advance 186 = .ok (.aload_n 0, 1) from by decide +kernel) rfl rfl rfl ?_
      refine sr_geti (q := 190) C fl_X6_41 (Or.inl rfl) hv0 (show decode cX6_advance 187 = .ok (.getfield 41, 3) from by decide +kernel) rfl (fun x187 => ?_)
      refine sr_baload (q := 191) C hx183 (show decode cX6_advance 190 = .ok (.baload, 1) from by decide +kernel) rfl (fun x190 => ?_)
      refine sr_cSz (As := [.int x190]) (st := []) (q := 194) C ysX6_isDigit ml_X6_190 (cnX6_isDigit (xo κ) x190) rfl (by decide) (by decide) (Nat.le_of_ble_eq_true rfl) rfl (show decode cX6_advance 191 = .ok (.invokestatic 190, 3) from by decide +kernel) rfl (fun x191 => ?_)
      refine sr_if_eq (q := 197) C 273 (show decode cX6_advance 194 = .ok (.ifCond .eq 79, 3) from by decide +kernel) (by decide) rfl ?_ ?_
      · exact sr_vreturn C _ rfl (show decode cX6_advance 273 = .ok (.return_, 1) from by decide +kernel)
      · refine sr_aload_n (i := 0) (q := 198) C (show decode cX6_advance 197 = .ok (.aload_n 0, 1) from by decide +kernel) rfl rfl rfl ?_
        refine sr_sipush (v := (1000 : Int32)) (q := 201) C (show decode cX6_advance 198 = .ok (.sipush 1000, 3) from by decide +kernel) (by decide) rfl ?_
        refine sr_bipush (v := (10 : Int32)) (q := 203) C (show decode cX6_advance 201 = .ok (.bipush 10, 2) from by decide +kernel) (by decide) rfl ?_
        refine sr_aload_n (i := 0) (q := 204) C (show decode cX6_advance 203 = .ok (.aload_n 0, 1) from by decide +kernel) rfl rfl rfl ?_
        refine sr_geti (q := 207) C fl_X6_113 (Or.inl rfl) hv0 (show decode cX6_advance 204 = .ok (.getfield 113, 3) from by decide +kernel) rfl (fun x204 => ?_)
        refine sr_imul (q := 208) C (show decode cX6_advance 207 = .ok (.imul, 1) from by decide +kernel) rfl ?_
        refine sr_aload_n (i := 0) (q := 209) C (show decode cX6_advance 208 = .ok (.aload_n 0, 1) from by decide +kernel) rfl rfl rfl ?_
        refine sr_gett (q := 212) C fl_X6_18 hv0 (show decode cX6_advance 209 = .ok (.getfield 18, 3) from by decide +kernel) rfl (fun x209 hx209 => ?_)
        refine sr_aload_n (i := 0) (q := 213) C (show decode cX6_advance 212 = .ok (.aload_n 0, 1) from by decide +kernel) rfl rfl rfl ?_
        refine sr_geti (q := 216) C fl_X6_41 (Or.inl rfl) hv0 (show decode cX6_advance 213 = .ok (.getfield 41, 3) from by decide +kernel) rfl (fun x213 => ?_)
        refine sr_baload (q := 217) C hx209 (show decode cX6_advance 216 = .ok (.baload, 1) from by decide +kernel) rfl (fun x216 => ?_)
        refine sr_iadd (q := 218) C (show decode cX6_advance 217 = .ok (.iadd, 1) from by decide +kernel) rfl ?_
        refine sr_bipush (v := (48 : Int32)) (q := 220) C (show decode cX6_advance 218 = .ok (.bipush 48, 2) from by decide +kernel) (by decide) rfl ?_
        refine sr_isub (q := 221) C (show decode cX6_advance 220 = .ok (.isub, 1) from by decide +kernel) rfl ?_
        refine sr_jmin (st := [xad κ v0]) (q := 224) C ml_X6_22 (by decide) (Nat.le_of_ble_eq_true rfl) (show decode cX6_advance 221 = .ok (.invokestatic 22, 3) from by decide +kernel) rfl ?_
        refine sr_puti (q := 227) C fp_X6_113 hv0 (show decode cX6_advance 224 = .ok (.putfield 113, 3) from by decide +kernel) rfl ?_
        refine sr_aload_n (i := 0) (q := 228) C (show decode cX6_advance 227 = .ok (.aload_n 0, 1) from by decide +kernel) rfl rfl rfl ?_
        refine sr_dup (q := 229) C (show decode cX6_advance 228 = .ok (.dup, 1) from by decide +kernel) rfl rfl ?_
        refine sr_geti (q := 232) C fl_X6_41 (Or.inl rfl) hv0 (show decode cX6_advance 229 = .ok (.getfield 41, 3) from by decide +kernel) rfl (fun x229 => ?_)
        refine sr_iconst (v := (1 : Int32)) (q := 233) C (show decode cX6_advance 232 = .ok (.iconst 1, 1) from by decide +kernel) (by decide) rfl ?_
        refine sr_iadd (q := 234) C (show decode cX6_advance 233 = .ok (.iadd, 1) from by decide +kernel) rfl ?_
        refine sr_puti (q := 237) C fp_X6_41 hv0 (show decode cX6_advance 234 = .ok (.putfield 41, 3) from by decide +kernel) rfl ?_
        refine sr_goto (q := 171) C (show decode cX6_advance 237 = .ok (.goto (-66), 3) from by decide +kernel) (by decide) ?_
        exact K171 v0 hv0
def fnX6_advance_L112 : Nat → Nat → sm_M Unit
  | 0, _ => m_fail
  | n + 1, v0 => m_gi v0 6 fun x113 => m_gi v0 4 fun x117 => m_br (x117 ≤ x113)
    (m_ret ())
    (m_gt fun x124 => m_gi v0 6 fun x128 => m_ai x124 x128 fun x131 => m_bnd (fnX6_isLetter x131) fun x132 => m_br ((bI x132) = 0)
    (m_ret ())
    (m_gi v0 6 fun x140 => m_si v0 6 (x140 + (1 : Int32)) <| (fnX6_advance_L112 n) v0))
set_option maxHeartbeats 4000000 in
set_option maxRecDepth 100000 in
theorem slX6_advance_L112 {κ : sm_X} (C : sm_C κ RX6 cX6_advance 1 2) : ∀ (n : Nat) (v0 : Nat) (hv0 : kd v0 = 6), sm_S κ (fun _ : Unit => .inr none) (.inl (112, [some (xad κ v0)], [])) (fnX6_advance_L112 n v0) := by
  intro n
  induction n with
  | zero =>
    intros
    exact sr_fail
  | succ n K112 =>
    intro v0 hv0
    unfold fnX6_advance_L112
    refine sr_aload_n (i := 0) (q := 113) C (show decode cX6_advance 112 = .ok (.aload_n 0, 1) from by decide +kernel) rfl rfl rfl ?_
    refine sr_geti (q := 116) C fl_X6_41 (Or.inl rfl) hv0 (show decode cX6_advance 113 = .ok (.getfield 41, 3) from by decide +kernel) rfl (fun x113 => ?_)
    refine sr_aload_n (i := 0) (q := 117) C (show decode cX6_advance 116 = .ok (.aload_n 0, 1) from by decide +kernel) rfl rfl rfl ?_
    refine sr_geti (q := 120) C fl_X6_28 (Or.inl rfl) hv0 (show decode cX6_advance 117 = .ok (.getfield 28, 3) from by decide +kernel) rfl (fun x117 => ?_)
    refine sr_icmp_ge (q := 123) C 273 (show decode cX6_advance 120 = .ok (.if_icmp .ge 153, 3) from by decide +kernel) (by decide) rfl ?_ ?_
    · exact sr_vreturn C _ rfl (show decode cX6_advance 273 = .ok (.return_, 1) from by decide +kernel)
    · refine sr_aload_n (i := 0) (q := 124) C (show decode cX6_advance 123 = .ok (.aload_n 0, 1) from by decide +kernel) rfl rfl rfl ?_
      refine sr_gett (q := 127) C fl_X6_18 hv0 (show decode cX6_advance 124 = .ok (.getfield 18, 3) from by decide +kernel) rfl (fun x124 hx124 => ?_)
      refine sr_aload_n (i := 0) (q := 128) C (show decode cX6_advance 127 = .ok (.aload_n 0, 1) from by decide +kernel) rfl rfl rfl ?_
      refine sr_geti (q := 131) C fl_X6_41 (Or.inl rfl) hv0 (show decode cX6_advance 128 = .ok (.getfield 41, 3) from by decide +kernel) rfl (fun x128 => ?_)
      refine sr_baload (q := 132) C hx124 (show decode cX6_advance 131 = .ok (.baload, 1) from by decide +kernel) rfl (fun x131 => ?_)
      refine sr_cSz (As := [.int x131]) (st := []) (q := 135) C ysX6_isLetter ml_X6_186 (cnX6_isLetter (xo κ) x131) rfl (by decide) (by decide) (Nat.le_of_ble_eq_true rfl) rfl (show decode cX6_advance 132 = .ok (.invokestatic 186, 3) from by decide +kernel) rfl (fun x132 => ?_)
      refine sr_if_eq (q := 138) C 273 (show decode cX6_advance 135 = .ok (.ifCond .eq 138, 3) from by decide +kernel) (by decide) rfl ?_ ?_
      · exact sr_vreturn C _ rfl (show decode cX6_advance 273 = .ok (.return_, 1) from by decide +kernel)
      · refine sr_aload_n (i := 0) (q := 139) C (show decode cX6_advance 138 = .ok (.aload_n 0, 1) from by decide +kernel) rfl rfl rfl ?_
        refine sr_dup (q := 140) C (show decode cX6_advance 139 = .ok (.dup, 1) from by decide +kernel) rfl rfl ?_
        refine sr_geti (q := 143) C fl_X6_41 (Or.inl rfl) hv0 (show decode cX6_advance 140 = .ok (.getfield 41, 3) from by decide +kernel) rfl (fun x140 => ?_)
        refine sr_iconst (v := (1 : Int32)) (q := 144) C (show decode cX6_advance 143 = .ok (.iconst 1, 1) from by decide +kernel) (by decide) rfl ?_
        refine sr_iadd (q := 145) C (show decode cX6_advance 144 = .ok (.iadd, 1) from by decide +kernel) rfl ?_
        refine sr_puti (q := 148) C fp_X6_41 hv0 (show decode cX6_advance 145 = .ok (.putfield 41, 3) from by decide +kernel) rfl ?_
        refine sr_goto (q := 112) C (show decode cX6_advance 148 = .ok (.goto (-36), 3) from by decide +kernel) (by decide) ?_
        exact K112 v0 hv0
def fnX6_advance_J60 (v0 : Nat) : sm_M Unit := m_gi v0 5 fun x62 => m_si v0 6 x62 <| m_si v0 8 (0 : Int32) <| m_gi v0 5 fun x74 => m_gi v0 4 fun x78 => m_br (x74 < x78)
    (m_gt fun x93 => m_gi v0 5 fun x97 => m_ai x93 x97 fun x100 => m_bnd (fnX6_isLetter x100) fun x101 => m_br ((bI x101) = 0)
    (m_gt fun x152 => m_gi v0 5 fun x156 => m_ai x152 x156 fun x159 => m_bnd (fnX6_isDigit x159) fun x160 => m_br ((bI x160) = 0)
    (m_gt fun x242 => m_gi v0 5 fun x246 => m_ai x242 x246 fun x249 => m_br (x249 = (59 : Int32))
    (fnX6_advance_J260 v0 (3 : Int32) v0)
    (fnX6_advance_J260 v0 (4 : Int32) v0))
    (m_si v0 7 (2 : Int32) <| fnX6_advance_L171 4096 v0))
    (m_si v0 7 (1 : Int32) <| fnX6_advance_L112 4096 v0))
    (m_si v0 7 (0 : Int32) <| m_ret ())
set_option maxHeartbeats 4000000 in
set_option maxRecDepth 100000 in
theorem slX6_advance_J60 {κ : sm_X} (C : sm_C κ RX6 cX6_advance 1 2) (v0 : Nat) (hv0 : kd v0 = 6) : sm_S κ (fun _ : Unit => .inr none) (.inl (60, [some (xad κ v0)], [])) (fnX6_advance_J60 v0) := by
  unfold fnX6_advance_J60
  refine sr_aload_n (i := 0) (q := 61) C (show decode cX6_advance 60 = .ok (.aload_n 0, 1) from by decide +kernel) rfl rfl rfl ?_
  refine sr_aload_n (i := 0) (q := 62) C (show decode cX6_advance 61 = .ok (.aload_n 0, 1) from by decide +kernel) rfl rfl rfl ?_
  refine sr_geti (q := 65) C fl_X6_173 (Or.inl rfl) hv0 (show decode cX6_advance 62 = .ok (.getfield 173, 3) from by decide +kernel) rfl (fun x62 => ?_)
  refine sr_puti (q := 68) C fp_X6_41 hv0 (show decode cX6_advance 65 = .ok (.putfield 41, 3) from by decide +kernel) rfl ?_
  refine sr_aload_n (i := 0) (q := 69) C (show decode cX6_advance 68 = .ok (.aload_n 0, 1) from by decide +kernel) rfl rfl rfl ?_
  refine sr_iconst (v := (0 : Int32)) (q := 70) C (show decode cX6_advance 69 = .ok (.iconst 0, 1) from by decide +kernel) (by decide) rfl ?_
  refine sr_puti (q := 73) C fp_X6_113 hv0 (show decode cX6_advance 70 = .ok (.putfield 113, 3) from by decide +kernel) rfl ?_
  refine sr_aload_n (i := 0) (q := 74) C (show decode cX6_advance 73 = .ok (.aload_n 0, 1) from by decide +kernel) rfl rfl rfl ?_
  refine sr_geti (q := 77) C fl_X6_173 (Or.inl rfl) hv0 (show decode cX6_advance 74 = .ok (.getfield 173, 3) from by decide +kernel) rfl (fun x74 => ?_)
  refine sr_aload_n (i := 0) (q := 78) C (show decode cX6_advance 77 = .ok (.aload_n 0, 1) from by decide +kernel) rfl rfl rfl ?_
  refine sr_geti (q := 81) C fl_X6_28 (Or.inl rfl) hv0 (show decode cX6_advance 78 = .ok (.getfield 28, 3) from by decide +kernel) rfl (fun x78 => ?_)
  refine sr_icmp_lt (q := 84) C 92 (show decode cX6_advance 81 = .ok (.if_icmp .lt 11, 3) from by decide +kernel) (by decide) rfl ?_ ?_
  · refine sr_aload_n (i := 0) (q := 93) C (show decode cX6_advance 92 = .ok (.aload_n 0, 1) from by decide +kernel) rfl rfl rfl ?_
    refine sr_gett (q := 96) C fl_X6_18 hv0 (show decode cX6_advance 93 = .ok (.getfield 18, 3) from by decide +kernel) rfl (fun x93 hx93 => ?_)
    refine sr_aload_n (i := 0) (q := 97) C (show decode cX6_advance 96 = .ok (.aload_n 0, 1) from by decide +kernel) rfl rfl rfl ?_
    refine sr_geti (q := 100) C fl_X6_173 (Or.inl rfl) hv0 (show decode cX6_advance 97 = .ok (.getfield 173, 3) from by decide +kernel) rfl (fun x97 => ?_)
    refine sr_baload (q := 101) C hx93 (show decode cX6_advance 100 = .ok (.baload, 1) from by decide +kernel) rfl (fun x100 => ?_)
    refine sr_cSz (As := [.int x100]) (st := []) (q := 104) C ysX6_isLetter ml_X6_186 (cnX6_isLetter (xo κ) x100) rfl (by decide) (by decide) (Nat.le_of_ble_eq_true rfl) rfl (show decode cX6_advance 101 = .ok (.invokestatic 186, 3) from by decide +kernel) rfl (fun x101 => ?_)
    refine sr_if_eq (q := 107) C 151 (show decode cX6_advance 104 = .ok (.ifCond .eq 47, 3) from by decide +kernel) (by decide) rfl ?_ ?_
    · refine sr_aload_n (i := 0) (q := 152) C (show decode cX6_advance 151 = .ok (.aload_n 0, 1) from by decide +kernel) rfl rfl rfl ?_
      refine sr_gett (q := 155) C fl_X6_18 hv0 (show decode cX6_advance 152 = .ok (.getfield 18, 3) from by decide +kernel) rfl (fun x152 hx152 => ?_)
      refine sr_aload_n (i := 0) (q := 156) C (show decode cX6_advance 155 = .ok (.aload_n 0, 1) from by decide +kernel) rfl rfl rfl ?_
      refine sr_geti (q := 159) C fl_X6_173 (Or.inl rfl) hv0 (show decode cX6_advance 156 = .ok (.getfield 173, 3) from by decide +kernel) rfl (fun x156 => ?_)
      refine sr_baload (q := 160) C hx152 (show decode cX6_advance 159 = .ok (.baload, 1) from by decide +kernel) rfl (fun x159 => ?_)
      refine sr_cSz (As := [.int x159]) (st := []) (q := 163) C ysX6_isDigit ml_X6_190 (cnX6_isDigit (xo κ) x159) rfl (by decide) (by decide) (Nat.le_of_ble_eq_true rfl) rfl (show decode cX6_advance 160 = .ok (.invokestatic 190, 3) from by decide +kernel) rfl (fun x160 => ?_)
      refine sr_if_eq (q := 166) C 240 (show decode cX6_advance 163 = .ok (.ifCond .eq 77, 3) from by decide +kernel) (by decide) rfl ?_ ?_
      · refine sr_aload_n (i := 0) (q := 241) C (show decode cX6_advance 240 = .ok (.aload_n 0, 1) from by decide +kernel) rfl rfl rfl ?_
        refine sr_aload_n (i := 0) (q := 242) C (show decode cX6_advance 241 = .ok (.aload_n 0, 1) from by decide +kernel) rfl rfl rfl ?_
        refine sr_gett (q := 245) C fl_X6_18 hv0 (show decode cX6_advance 242 = .ok (.getfield 18, 3) from by decide +kernel) rfl (fun x242 hx242 => ?_)
        refine sr_aload_n (i := 0) (q := 246) C (show decode cX6_advance 245 = .ok (.aload_n 0, 1) from by decide +kernel) rfl rfl rfl ?_
        refine sr_geti (q := 249) C fl_X6_173 (Or.inl rfl) hv0 (show decode cX6_advance 246 = .ok (.getfield 173, 3) from by decide +kernel) rfl (fun x246 => ?_)
        refine sr_baload (q := 250) C hx242 (show decode cX6_advance 249 = .ok (.baload, 1) from by decide +kernel) rfl (fun x249 => ?_)
        refine sr_bipush (v := (59 : Int32)) (q := 252) C (show decode cX6_advance 250 = .ok (.bipush 59, 2) from by decide +kernel) (by decide) rfl ?_
        refine sr_icmp_ne (q := 255) C 259 (show decode cX6_advance 252 = .ok (.if_icmp .ne 7, 3) from by decide +kernel) (by decide) rfl ?_ ?_
        · refine sr_iconst (v := (4 : Int32)) (q := 260) C (show decode cX6_advance 259 = .ok (.iconst 4, 1) from by decide +kernel) (by decide) rfl ?_
          exact slX6_advance_J260 C v0 (4 : Int32) v0 hv0 hv0
        · refine sr_iconst (v := (3 : Int32)) (q := 256) C (show decode cX6_advance 255 = .ok (.iconst 3, 1) from by decide +kernel) (by decide) rfl ?_
          refine sr_goto (q := 260) C (show decode cX6_advance 256 = .ok (.goto 4, 3) from by decide +kernel) (by decide) ?_
          exact slX6_advance_J260 C v0 (3 : Int32) v0 hv0 hv0
      · refine sr_aload_n (i := 0) (q := 167) C (show decode cX6_advance 166 = .ok (.aload_n 0, 1) from by decide +kernel) rfl rfl rfl ?_
        refine sr_iconst (v := (2 : Int32)) (q := 168) C (show decode cX6_advance 167 = .ok (.iconst 2, 1) from by decide +kernel) (by decide) rfl ?_
        refine sr_puti (q := 171) C fp_X6_54 hv0 (show decode cX6_advance 168 = .ok (.putfield 54, 3) from by decide +kernel) rfl ?_
        exact slX6_advance_L171 C 4096 v0 hv0
    · refine sr_aload_n (i := 0) (q := 108) C (show decode cX6_advance 107 = .ok (.aload_n 0, 1) from by decide +kernel) rfl rfl rfl ?_
      refine sr_iconst (v := (1 : Int32)) (q := 109) C (show decode cX6_advance 108 = .ok (.iconst 1, 1) from by decide +kernel) (by decide) rfl ?_
      refine sr_puti (q := 112) C fp_X6_54 hv0 (show decode cX6_advance 109 = .ok (.putfield 54, 3) from by decide +kernel) rfl ?_
      exact slX6_advance_L112 C 4096 v0 hv0
  · refine sr_aload_n (i := 0) (q := 85) C (show decode cX6_advance 84 = .ok (.aload_n 0, 1) from by decide +kernel) rfl rfl rfl ?_
    refine sr_iconst (v := (0 : Int32)) (q := 86) C (show decode cX6_advance 85 = .ok (.iconst 0, 1) from by decide +kernel) (by decide) rfl ?_
    refine sr_puti (q := 89) C fp_X6_54 hv0 (show decode cX6_advance 86 = .ok (.putfield 54, 3) from by decide +kernel) rfl ?_
    refine sr_goto (q := 273) C (show decode cX6_advance 89 = .ok (.goto 184, 3) from by decide +kernel) (by decide) ?_
    exact sr_vreturn C _ rfl (show decode cX6_advance 273 = .ok (.return_, 1) from by decide +kernel)
def fnX6_advance_J47 (k8 : Nat → sm_M Unit) (v0 : Nat) : sm_M Unit := m_gi v0 5 fun x49 => m_si v0 5 (x49 + (1 : Int32)) <| k8 v0
set_option maxHeartbeats 4000000 in
set_option maxRecDepth 100000 in
theorem slX6_advance_J47 {κ : sm_X} (C : sm_C κ RX6 cX6_advance 1 2) {k8 : Nat → sm_M Unit} (K8 : ∀ (v0 : Nat) (hv0 : kd v0 = 6), sm_S κ (fun _ : Unit => .inr none) (.inl (8, [some (xad κ v0)], [])) (k8 v0)) (v0 : Nat) (hv0 : kd v0 = 6) : sm_S κ (fun _ : Unit => .inr none) (.inl (47, [some (xad κ v0)], [])) (fnX6_advance_J47 k8 v0) := by
  unfold fnX6_advance_J47
  refine sr_aload_n (i := 0) (q := 48) C (show decode cX6_advance 47 = .ok (.aload_n 0, 1) from by decide +kernel) rfl rfl rfl ?_
  refine sr_dup (q := 49) C (show decode cX6_advance 48 = .ok (.dup, 1) from by decide +kernel) rfl rfl ?_
  refine sr_geti (q := 52) C fl_X6_173 (Or.inl rfl) hv0 (show decode cX6_advance 49 = .ok (.getfield 173, 3) from by decide +kernel) rfl (fun x49 => ?_)
  refine sr_iconst (v := (1 : Int32)) (q := 53) C (show decode cX6_advance 52 = .ok (.iconst 1, 1) from by decide +kernel) (by decide) rfl ?_
  refine sr_iadd (q := 54) C (show decode cX6_advance 53 = .ok (.iadd, 1) from by decide +kernel) rfl ?_
  refine sr_puti (q := 57) C fp_X6_173 hv0 (show decode cX6_advance 54 = .ok (.putfield 173, 3) from by decide +kernel) rfl ?_
  refine sr_goto (q := 8) C (show decode cX6_advance 57 = .ok (.goto (-49), 3) from by decide +kernel) (by decide) ?_
  exact K8 v0 hv0
def fnX6_advance_L8 : Nat → Nat → sm_M Unit
  | 0, _ => m_fail
  | n + 1, v0 => m_gi v0 5 fun x9 => m_gi v0 4 fun x13 => m_br (x13 ≤ x9)
    (fnX6_advance_J60 v0)
    (m_gt fun x20 => m_gi v0 5 fun x24 => m_ai x20 x24 fun x27 => m_br (x27 = (32 : Int32))
    (fnX6_advance_J47 (fnX6_advance_L8 n) v0)
    (m_gt fun x34 => m_gi v0 5 fun x38 => m_ai x34 x38 fun x41 => m_br (x41 = (10 : Int32))
    (fnX6_advance_J47 (fnX6_advance_L8 n) v0)
    (fnX6_advance_J60 v0)))
set_option maxHeartbeats 4000000 in
set_option maxRecDepth 100000 in
theorem slX6_advance_L8 {κ : sm_X} (C : sm_C κ RX6 cX6_advance 1 2) : ∀ (n : Nat) (v0 : Nat) (hv0 : kd v0 = 6), sm_S κ (fun _ : Unit => .inr none) (.inl (8, [some (xad κ v0)], [])) (fnX6_advance_L8 n v0) := by
  intro n
  induction n with
  | zero =>
    intros
    exact sr_fail
  | succ n K8 =>
    intro v0 hv0
    unfold fnX6_advance_L8
    refine sr_aload_n (i := 0) (q := 9) C (show decode cX6_advance 8 = .ok (.aload_n 0, 1) from by decide +kernel) rfl rfl rfl ?_
    refine sr_geti (q := 12) C fl_X6_173 (Or.inl rfl) hv0 (show decode cX6_advance 9 = .ok (.getfield 173, 3) from by decide +kernel) rfl (fun x9 => ?_)
    refine sr_aload_n (i := 0) (q := 13) C (show decode cX6_advance 12 = .ok (.aload_n 0, 1) from by decide +kernel) rfl rfl rfl ?_
    refine sr_geti (q := 16) C fl_X6_28 (Or.inl rfl) hv0 (show decode cX6_advance 13 = .ok (.getfield 28, 3) from by decide +kernel) rfl (fun x13 => ?_)
    refine sr_icmp_ge (q := 19) C 60 (show decode cX6_advance 16 = .ok (.if_icmp .ge 44, 3) from by decide +kernel) (by decide) rfl ?_ ?_
    · exact slX6_advance_J60 C v0 hv0
    · refine sr_aload_n (i := 0) (q := 20) C (show decode cX6_advance 19 = .ok (.aload_n 0, 1) from by decide +kernel) rfl rfl rfl ?_
      refine sr_gett (q := 23) C fl_X6_18 hv0 (show decode cX6_advance 20 = .ok (.getfield 18, 3) from by decide +kernel) rfl (fun x20 hx20 => ?_)
      refine sr_aload_n (i := 0) (q := 24) C (show decode cX6_advance 23 = .ok (.aload_n 0, 1) from by decide +kernel) rfl rfl rfl ?_
      refine sr_geti (q := 27) C fl_X6_173 (Or.inl rfl) hv0 (show decode cX6_advance 24 = .ok (.getfield 173, 3) from by decide +kernel) rfl (fun x24 => ?_)
      refine sr_baload (q := 28) C hx20 (show decode cX6_advance 27 = .ok (.baload, 1) from by decide +kernel) rfl (fun x27 => ?_)
      refine sr_bipush (v := (32 : Int32)) (q := 30) C (show decode cX6_advance 28 = .ok (.bipush 32, 2) from by decide +kernel) (by decide) rfl ?_
      refine sr_icmp_eq (q := 33) C 47 (show decode cX6_advance 30 = .ok (.if_icmp .eq 17, 3) from by decide +kernel) (by decide) rfl ?_ ?_
      · exact slX6_advance_J47 C K8 v0 hv0
      · refine sr_aload_n (i := 0) (q := 34) C (show decode cX6_advance 33 = .ok (.aload_n 0, 1) from by decide +kernel) rfl rfl rfl ?_
        refine sr_gett (q := 37) C fl_X6_18 hv0 (show decode cX6_advance 34 = .ok (.getfield 18, 3) from by decide +kernel) rfl (fun x34 hx34 => ?_)
        refine sr_aload_n (i := 0) (q := 38) C (show decode cX6_advance 37 = .ok (.aload_n 0, 1) from by decide +kernel) rfl rfl rfl ?_
        refine sr_geti (q := 41) C fl_X6_173 (Or.inl rfl) hv0 (show decode cX6_advance 38 = .ok (.getfield 173, 3) from by decide +kernel) rfl (fun x38 => ?_)
        refine sr_baload (q := 42) C hx34 (show decode cX6_advance 41 = .ok (.baload, 1) from by decide +kernel) rfl (fun x41 => ?_)
        refine sr_bipush (v := (10 : Int32)) (q := 44) C (show decode cX6_advance 42 = .ok (.bipush 10, 2) from by decide +kernel) (by decide) rfl ?_
        refine sr_icmp_ne (q := 47) C 60 (show decode cX6_advance 44 = .ok (.if_icmp .ne 16, 3) from by decide +kernel) (by decide) rfl ?_ ?_
        · exact slX6_advance_J60 C v0 hv0
        · exact slX6_advance_J47 C K8 v0 hv0
def fnX6_advance (v0 : Nat) : sm_M Unit := m_gi v0 6 fun x2 => m_si v0 5 x2 <| fnX6_advance_L8 4096 v0
set_option maxHeartbeats 4000000 in
set_option maxRecDepth 100000 in
theorem slX6_advance {κ : sm_X} (C : sm_C κ RX6 cX6_advance 1 2) (v0 : Nat) (hv0 : kd v0 = 6) : sm_S κ (fun _ : Unit => .inr none) (.inl (0, [some (xad κ v0)], [])) (fnX6_advance v0) := by
  unfold fnX6_advance
  refine sr_aload_n (i := 0) (q := 1) C (show decode cX6_advance 0 = .ok (.aload_n 0, 1) from by decide +kernel) rfl rfl rfl ?_
  refine sr_aload_n (i := 0) (q := 2) C (show decode cX6_advance 1 = .ok (.aload_n 0, 1) from by decide +kernel) rfl rfl rfl ?_
  refine sr_geti (q := 5) C fl_X6_41 (Or.inl rfl) hv0 (show decode cX6_advance 2 = .ok (.getfield 41, 3) from by decide +kernel) rfl (fun x2 => ?_)
  refine sr_puti (q := 8) C fp_X6_173 hv0 (show decode cX6_advance 5 = .ok (.putfield 173, 3) from by decide +kernel) rfl ?_
  exact slX6_advance_L8 C 4096 v0 hv0
theorem cnX6_advance (ω : sm_O) (v0 : Nat) (hv0 : kd v0 = 6) : sm_Mt 2 yX6_advance cX6_advance 1 none ω [.ref (ω.1 + v0)] (fun _ => none) (fnX6_advance v0) := by
  refine sm_conV (by decide) (Nat.le_of_ble_eq_true rfl) ?_
  intro κ hκ C
  subst hκ
  exact slX6_advance C v0 hv0
def fnX6_isWord_L28 : Nat → Nat → Nat → Int32 → sm_M Bool
  | 0, _, _, _ => m_fail
  | n + 1, v0, v1, v2 => m_bnd (fnJ0_length_8abf5 v1) fun x30 => m_br (x30 ≤ v2)
    (m_ret true)
    (m_gt fun x37 => m_gi v0 5 fun x41 => m_ai x37 (x41 + v2) fun x46 => m_bnd (fnJ0_charAt_5068e v1 v2) fun x49 => m_br (x46 = (cN x49))
    ((fnX6_isWord_L28 n) v0 v1 (v2 + (1 : Int32)))
    (m_ret false))
set_option maxHeartbeats 4000000 in
set_option maxRecDepth 100000 in
theorem slX6_isWord_L28 {κ : sm_X} (C : sm_C κ RX6 cX6_isWord 3 5) : ∀ (n : Nat) (v0 : Nat) (v1 : Nat) (v2 : Int32) (hv0 : kd v0 = 6) (hv1 : v1 < strN), sm_S κ (fun r : Bool => .inr (some (.int (bI r)))) (.inl (28, [some (xad κ v0), some (xst κ v1), some (.int v2)], [])) (fnX6_isWord_L28 n v0 v1 v2) := by
  intro n
  induction n with
  | zero =>
    intros
    exact sr_fail
  | succ n K28 =>
    intro v0 v1 v2 hv0 hv1
    unfold fnX6_isWord_L28
    refine sr_iload_n (i := 2) (q := 29) C (show decode cX6_isWord 28 = .ok (.iload_n 2, 1) from by decide +kernel) rfl rfl rfl ?_
    refine sr_aload_n (i := 1) (q := 30) C (show decode cX6_isWord 29 = .ok (.aload_n 1, 1) from by decide +kernel) rfl rfl rfl ?_
    refine sr_cTi (As := []) (st := [.int v2]) (b := v1) (q := 33) C yvJ0_length_8abf5 ml_X6_176 (cnJ0_length_8abf5 (xo κ) v1 hv1) hv1 rfl rfl (by decide) (by decide) (Nat.le_of_ble_eq_true rfl) rfl (show decode cX6_isWord 30 = .ok (.invokevirtual 176, 3) from by decide +kernel) rfl (fun x30 => ?_)
    refine sr_icmp_ge (q := 36) C 63 (show decode cX6_isWord 33 = .ok (.if_icmp .ge 30, 3) from by decide +kernel) (by decide) rfl ?_ ?_
    · refine sr_iconst (v := (1 : Int32)) (q := 64) C (show decode cX6_isWord 63 = .ok (.iconst 1, 1) from by decide +kernel) (by decide) rfl ?_
      exact sr_ireturn C true rfl (show decode cX6_isWord 64 = .ok (.ireturn, 1) from by decide +kernel)
    · refine sr_aload_n (i := 0) (q := 37) C (show decode cX6_isWord 36 = .ok (.aload_n 0, 1) from by decide +kernel) rfl rfl rfl ?_
      refine sr_gett (q := 40) C fl_X6_18 hv0 (show decode cX6_isWord 37 = .ok (.getfield 18, 3) from by decide +kernel) rfl (fun x37 hx37 => ?_)
      refine sr_aload_n (i := 0) (q := 41) C (show decode cX6_isWord 40 = .ok (.aload_n 0, 1) from by decide +kernel) rfl rfl rfl ?_
      refine sr_geti (q := 44) C fl_X6_173 (Or.inl rfl) hv0 (show decode cX6_isWord 41 = .ok (.getfield 173, 3) from by decide +kernel) rfl (fun x41 => ?_)
      refine sr_iload_n (i := 2) (q := 45) C (show decode cX6_isWord 44 = .ok (.iload_n 2, 1) from by decide +kernel) rfl rfl rfl ?_
      refine sr_iadd (q := 46) C (show decode cX6_isWord 45 = .ok (.iadd, 1) from by decide +kernel) rfl ?_
      refine sr_baload (q := 47) C hx37 (show decode cX6_isWord 46 = .ok (.baload, 1) from by decide +kernel) rfl (fun x46 => ?_)
      refine sr_aload_n (i := 1) (q := 48) C (show decode cX6_isWord 47 = .ok (.aload_n 1, 1) from by decide +kernel) rfl rfl rfl ?_
      refine sr_iload_n (i := 2) (q := 49) C (show decode cX6_isWord 48 = .ok (.iload_n 2, 1) from by decide +kernel) rfl rfl rfl ?_
      refine sr_cTc (As := [.int v2]) (st := [.int x46]) (b := v1) (q := 52) C yvJ0_charAt_5068e ml_X6_182 (cnJ0_charAt_5068e (xo κ) v1 v2 hv1) hv1 rfl rfl (by decide) (by decide) (Nat.le_of_ble_eq_true rfl) rfl (show decode cX6_isWord 49 = .ok (.invokevirtual 182, 3) from by decide +kernel) rfl (fun x49 => ?_)
      refine sr_icmp_eq (q := 55) C 57 (show decode cX6_isWord 52 = .ok (.if_icmp .eq 5, 3) from by decide +kernel) (by decide) rfl ?_ ?_
      · refine sr_iinc (v := v2 + (1 : Int32)) (L' := [some (xad κ v0), some (xst κ v1), some (.int (v2 + (1 : Int32)))]) (q := 60) C (show decode cX6_isWord 57 = .ok (.iinc 2 1, 3) from by decide +kernel) rfl rfl (by decide) rfl rfl ?_
        refine sr_goto (q := 28) C (show decode cX6_isWord 60 = .ok (.goto (-32), 3) from by decide +kernel) (by decide) ?_
        exact K28 v0 v1 (v2 + (1 : Int32)) hv0 hv1
      · refine sr_iconst (v := (0 : Int32)) (q := 56) C (show decode cX6_isWord 55 = .ok (.iconst 0, 1) from by decide +kernel) (by decide) rfl ?_
        exact sr_ireturn C false rfl (show decode cX6_isWord 56 = .ok (.ireturn, 1) from by decide +kernel)
def fnX6_isWord (v0 : Nat) (v1 : Nat) : sm_M Bool := m_gi v0 7 fun x1 => m_br (x1 = (1 : Int32))
    (m_gi v0 6 fun x9 => m_gi v0 5 fun x13 => m_bnd (fnJ0_length_8abf5 v1) fun x18 => m_br ((x9 - x13) = x18)
    (fnX6_isWord_L28 4096 v0 v1 (0 : Int32))
    (m_ret false))
    (m_ret false)
set_option maxHeartbeats 4000000 in
set_option maxRecDepth 100000 in
theorem slX6_isWord {κ : sm_X} (C : sm_C κ RX6 cX6_isWord 3 5) (v0 : Nat) (v1 : Nat) (hv0 : kd v0 = 6) (hv1 : v1 < strN) : sm_S κ (fun r : Bool => .inr (some (.int (bI r)))) (.inl (0, [some (xad κ v0), some (xst κ v1), none], [])) (fnX6_isWord v0 v1) := by
  unfold fnX6_isWord
  refine sr_aload_n (i := 0) (q := 1) C (show decode cX6_isWord 0 = .ok (.aload_n 0, 1) from by decide +kernel) rfl rfl rfl ?_
  refine sr_geti (q := 4) C fl_X6_54 (Or.inl rfl) hv0 (show decode cX6_isWord 1 = .ok (.getfield 54, 3) from by decide +kernel) rfl (fun x1 => ?_)
  refine sr_iconst (v := (1 : Int32)) (q := 5) C (show decode cX6_isWord 4 = .ok (.iconst 1, 1) from by decide +kernel) (by decide) rfl ?_
  refine sr_icmp_ne (q := 8) C 24 (show decode cX6_isWord 5 = .ok (.if_icmp .ne 19, 3) from by decide +kernel) (by decide) rfl ?_ ?_
  · refine sr_iconst (v := (0 : Int32)) (q := 25) C (show decode cX6_isWord 24 = .ok (.iconst 0, 1) from by decide +kernel) (by decide) rfl ?_
    exact sr_ireturn C false rfl (show decode cX6_isWord 25 = .ok (.ireturn, 1) from by decide +kernel)
  · refine sr_aload_n (i := 0) (q := 9) C (show decode cX6_isWord 8 = .ok (.aload_n 0, 1) from by decide +kernel) rfl rfl rfl ?_
    refine sr_geti (q := 12) C fl_X6_41 (Or.inl rfl) hv0 (show decode cX6_isWord 9 = .ok (.getfield 41, 3) from by decide +kernel) rfl (fun x9 => ?_)
    refine sr_aload_n (i := 0) (q := 13) C (show decode cX6_isWord 12 = .ok (.aload_n 0, 1) from by decide +kernel) rfl rfl rfl ?_
    refine sr_geti (q := 16) C fl_X6_173 (Or.inl rfl) hv0 (show decode cX6_isWord 13 = .ok (.getfield 173, 3) from by decide +kernel) rfl (fun x13 => ?_)
    refine sr_isub (q := 17) C (show decode cX6_isWord 16 = .ok (.isub, 1) from by decide +kernel) rfl ?_
    refine sr_aload_n (i := 1) (q := 18) C (show decode cX6_isWord 17 = .ok (.aload_n 1, 1) from by decide +kernel) rfl rfl rfl ?_
    refine sr_cTi (As := []) (st := [.int (x9 - x13)]) (b := v1) (q := 21) C yvJ0_length_8abf5 ml_X6_176 (cnJ0_length_8abf5 (xo κ) v1 hv1) hv1 rfl rfl (by decide) (by decide) (Nat.le_of_ble_eq_true rfl) rfl (show decode cX6_isWord 18 = .ok (.invokevirtual 176, 3) from by decide +kernel) rfl (fun x18 => ?_)
    refine sr_icmp_eq (q := 24) C 26 (show decode cX6_isWord 21 = .ok (.if_icmp .eq 5, 3) from by decide +kernel) (by decide) rfl ?_ ?_
    · refine sr_iconst (v := (0 : Int32)) (q := 27) C (show decode cX6_isWord 26 = .ok (.iconst 0, 1) from by decide +kernel) (by decide) rfl ?_
      refine sr_istore_n (i := 2) (L' := [some (xad κ v0), some (xst κ v1), some (.int (0 : Int32))]) (q := 28) C (show decode cX6_isWord 27 = .ok (.istore_n 2, 1) from by decide +kernel) rfl (by decide) rfl rfl ?_
      exact slX6_isWord_L28 C 4096 v0 v1 (0 : Int32) hv0 hv1
    · refine sr_iconst (v := (0 : Int32)) (q := 25) C (show decode cX6_isWord 24 = .ok (.iconst 0, 1) from by decide +kernel) (by decide) rfl ?_
      exact sr_ireturn C false rfl (show decode cX6_isWord 25 = .ok (.ireturn, 1) from by decide +kernel)
theorem cnX6_isWord (ω : sm_O) (v0 : Nat) (v1 : Nat) (hv0 : kd v0 = 6) (hv1 : v1 < strN) : sm_Mt 5 yX6_isWord cX6_isWord 3 (some .boolean) ω [.ref (ω.1 + v0), .ref (ω.2.2.2.1 v1)] (fun a => some (.int (bI a))) (fnX6_isWord v0 v1) := by
  refine sm_conI (r := bI) (by decide) bI_nar (Nat.le_of_ble_eq_true rfl) ?_
  intro κ hκ C
  subst hκ
  exact slX6_isWord C v0 v1 hv0 hv1
def fnX6_readFlag (v0 : Nat) (v1 : Nat) : sm_M Bool := m_gi v0 1 fun x1 => m_br (x1 = 0)
    (m_bnd (fnX6_isWord v0 v1) fun x9 => m_br ((bI x9) = 0)
    (m_ret false)
    (m_bnd (fnX6_advance v0) fun _ => m_ret true))
    (m_ret false)
set_option maxHeartbeats 4000000 in
set_option maxRecDepth 100000 in
theorem slX6_readFlag {κ : sm_X} (C : sm_C κ RX6 cX6_readFlag 2 6) (v0 : Nat) (v1 : Nat) (hv0 : kd v0 = 6) (hv1 : v1 < strN) : sm_S κ (fun r : Bool => .inr (some (.int (bI r)))) (.inl (0, [some (xad κ v0), some (xst κ v1)], [])) (fnX6_readFlag v0 v1) := by
  unfold fnX6_readFlag
  refine sr_aload_n (i := 0) (q := 1) C (show decode cX6_readFlag 0 = .ok (.aload_n 0, 1) from by decide +kernel) rfl rfl rfl ?_
  refine sr_geti (q := 4) C fl_X6_35 (Or.inl rfl) hv0 (show decode cX6_readFlag 1 = .ok (.getfield 35, 3) from by decide +kernel) rfl (fun x1 => ?_)
  refine sr_if_ne (q := 7) C 15 (show decode cX6_readFlag 4 = .ok (.ifCond .ne 11, 3) from by decide +kernel) (by decide) rfl ?_ ?_
  · refine sr_iconst (v := (0 : Int32)) (q := 16) C (show decode cX6_readFlag 15 = .ok (.iconst 0, 1) from by decide +kernel) (by decide) rfl ?_
    exact sr_ireturn C false rfl (show decode cX6_readFlag 16 = .ok (.ireturn, 1) from by decide +kernel)
  · refine sr_aload_n (i := 0) (q := 8) C (show decode cX6_readFlag 7 = .ok (.aload_n 0, 1) from by decide +kernel) rfl rfl rfl ?_
    refine sr_aload_n (i := 1) (q := 9) C (show decode cX6_readFlag 8 = .ok (.aload_n 1, 1) from by decide +kernel) rfl rfl rfl ?_
    refine sr_cVz (As := [xst κ v1]) (st := []) (b := v0) (q := 12) C yvX6_isWord ml_X6_65 (cnX6_isWord (xo κ) v0 v1 hv0 hv1) hv0 (by decide) rfl rfl rfl (by decide) (by decide) (Nat.le_of_ble_eq_true rfl) rfl (show decode cX6_readFlag 9 = .ok (.invokevirtual 65, 3) from by decide +kernel) rfl (fun x9 => ?_)
    refine sr_if_ne (q := 15) C 17 (show decode cX6_readFlag 12 = .ok (.ifCond .ne 5, 3) from by decide +kernel) (by decide) rfl ?_ ?_
    · refine sr_aload_n (i := 0) (q := 18) C (show decode cX6_readFlag 17 = .ok (.aload_n 0, 1) from by decide +kernel) rfl rfl rfl ?_
      refine sr_cVv (As := []) (st := []) (b := v0) (q := 21) C yvX6_advance ml_X6_51 (cnX6_advance (xo κ) v0 hv0) hv0 (by decide) rfl rfl rfl (by decide) (by decide) (Nat.le_of_ble_eq_true rfl) rfl (show decode cX6_readFlag 18 = .ok (.invokevirtual 51, 3) from by decide +kernel) rfl (fun _ => ?_)
      refine sr_iconst (v := (1 : Int32)) (q := 22) C (show decode cX6_readFlag 21 = .ok (.iconst 1, 1) from by decide +kernel) (by decide) rfl ?_
      exact sr_ireturn C true rfl (show decode cX6_readFlag 22 = .ok (.ireturn, 1) from by decide +kernel)
    · refine sr_iconst (v := (0 : Int32)) (q := 16) C (show decode cX6_readFlag 15 = .ok (.iconst 0, 1) from by decide +kernel) (by decide) rfl ?_
      exact sr_ireturn C false rfl (show decode cX6_readFlag 16 = .ok (.ireturn, 1) from by decide +kernel)
theorem cnX6_readFlag (ω : sm_O) (v0 : Nat) (v1 : Nat) (hv0 : kd v0 = 6) (hv1 : v1 < strN) : sm_Mt 6 yX6_readFlag cX6_readFlag 2 (some .boolean) ω [.ref (ω.1 + v0), .ref (ω.2.2.2.1 v1)] (fun a => some (.int (bI a))) (fnX6_readFlag v0 v1) := by
  refine sm_conI (r := bI) (by decide) bI_nar (Nat.le_of_ble_eq_true rfl) ?_
  intro κ hκ C
  subst hκ
  exact slX6_readFlag C v0 v1 hv0 hv1
def fnX6_refuse (v0 : Nat) (v1 : Int32) : sm_M Unit := m_gi v0 1 fun x1 => m_br (x1 = 0)
    (m_si v0 1 v1 <| m_gi v0 5 fun x14 => m_si v0 2 x14 <| m_ret ())
    (m_ret ())
set_option maxHeartbeats 4000000 in
set_option maxRecDepth 100000 in
theorem slX6_refuse {κ : sm_X} (C : sm_C κ RX6 cX6_refuse 2 1) (v0 : Nat) (v1 : Int32) (hv0 : kd v0 = 6) : sm_S κ (fun _ : Unit => .inr none) (.inl (0, [some (xad κ v0), some (.int v1)], [])) (fnX6_refuse v0 v1) := by
  unfold fnX6_refuse
  refine sr_aload_n (i := 0) (q := 1) C (show decode cX6_refuse 0 = .ok (.aload_n 0, 1) from by decide +kernel) rfl rfl rfl ?_
  refine sr_geti (q := 4) C fl_X6_35 (Or.inl rfl) hv0 (show decode cX6_refuse 1 = .ok (.getfield 35, 3) from by decide +kernel) rfl (fun x1 => ?_)
  refine sr_if_ne (q := 7) C 20 (show decode cX6_refuse 4 = .ok (.ifCond .ne 16, 3) from by decide +kernel) (by decide) rfl ?_ ?_
  · exact sr_vreturn C _ rfl (show decode cX6_refuse 20 = .ok (.return_, 1) from by decide +kernel)
  · refine sr_aload_n (i := 0) (q := 8) C (show decode cX6_refuse 7 = .ok (.aload_n 0, 1) from by decide +kernel) rfl rfl rfl ?_
    refine sr_iload_n (i := 1) (q := 9) C (show decode cX6_refuse 8 = .ok (.iload_n 1, 1) from by decide +kernel) rfl rfl rfl ?_
    refine sr_puti (q := 12) C fp_X6_35 hv0 (show decode cX6_refuse 9 = .ok (.putfield 35, 3) from by decide +kernel) rfl ?_
    refine sr_aload_n (i := 0) (q := 13) C (show decode cX6_refuse 12 = .ok (.aload_n 0, 1) from by decide +kernel) rfl rfl rfl ?_
    refine sr_aload_n (i := 0) (q := 14) C (show decode cX6_refuse 13 = .ok (.aload_n 0, 1) from by decide +kernel) rfl rfl rfl ?_
    refine sr_geti (q := 17) C fl_X6_173 (Or.inl rfl) hv0 (show decode cX6_refuse 14 = .ok (.getfield 173, 3) from by decide +kernel) rfl (fun x14 => ?_)
    refine sr_puti (q := 20) C fp_X6_38 hv0 (show decode cX6_refuse 17 = .ok (.putfield 38, 3) from by decide +kernel) rfl ?_
    exact sr_vreturn C _ rfl (show decode cX6_refuse 20 = .ok (.return_, 1) from by decide +kernel)
theorem cnX6_refuse (ω : sm_O) (v0 : Nat) (v1 : Int32) (hv0 : kd v0 = 6) : sm_Mt 1 yX6_refuse cX6_refuse 2 none ω [.ref (ω.1 + v0), .int v1] (fun _ => none) (fnX6_refuse v0 v1) := by
  refine sm_conV (by decide) (Nat.le_of_ble_eq_true rfl) ?_
  intro κ hκ C
  subst hκ
  exact slX6_refuse C v0 v1 hv0
def fnX6_readNumber_J36 (v0 : Nat) (v3 : Int32) : sm_M Int32 := m_gi v0 1 fun x37 => m_br (x37 = 0)
    (m_bnd (fnX6_advance v0) fun _ => m_ret v3)
    (m_ret (0 : Int32))
set_option maxHeartbeats 4000000 in
set_option maxRecDepth 100000 in
theorem slX6_readNumber_J36 {κ : sm_X} (C : sm_C κ RX6 cX6_readNumber 4 3) (v0 : Nat) (v3 : Int32) (hv0 : kd v0 = 6) : sm_S κ (fun r : Int32 => .inr (some (.int r))) (.inl (36, [some (xad κ v0), none, none, some (.int v3)], [])) (fnX6_readNumber_J36 v0 v3) := by
  unfold fnX6_readNumber_J36
  refine sr_aload_n (i := 0) (q := 37) C (show decode cX6_readNumber 36 = .ok (.aload_n 0, 1) from by decide +kernel) rfl rfl rfl ?_
  refine sr_geti (q := 40) C fl_X6_35 (Or.inl rfl) hv0 (show decode cX6_readNumber 37 = .ok (.getfield 35, 3) from by decide +kernel) rfl (fun x37 => ?_)
  refine sr_if_eq (q := 43) C 45 (show decode cX6_readNumber 40 = .ok (.ifCond .eq 5, 3) from by decide +kernel) (by decide) rfl ?_ ?_
  · refine sr_aload_n (i := 0) (q := 46) C (show decode cX6_readNumber 45 = .ok (.aload_n 0, 1) from by decide +kernel) rfl rfl rfl ?_
    refine sr_cVv (As := []) (st := []) (b := v0) (q := 49) C yvX6_advance ml_X6_51 (cnX6_advance (xo κ) v0 hv0) hv0 (by decide) rfl rfl rfl (by decide) (by decide) (Nat.le_of_ble_eq_true rfl) rfl (show decode cX6_readNumber 46 = .ok (.invokevirtual 51, 3) from by decide +kernel) rfl (fun _ => ?_)
    refine sr_iload_n (i := 3) (q := 50) C (show decode cX6_readNumber 49 = .ok (.iload_n 3, 1) from by decide +kernel) rfl rfl rfl ?_
    exact sr_ireturn C _ rfl (show decode cX6_readNumber 50 = .ok (.ireturn, 1) from by decide +kernel)
  · refine sr_iconst (v := (0 : Int32)) (q := 44) C (show decode cX6_readNumber 43 = .ok (.iconst 0, 1) from by decide +kernel) (by decide) rfl ?_
    exact sr_ireturn C _ rfl (show decode cX6_readNumber 44 = .ok (.ireturn, 1) from by decide +kernel)
def fnX6_readNumber_J31 (v0 : Nat) (v3 : Int32) : sm_M Int32 := m_bnd (fnX6_refuse v0 (2 : Int32)) fun _ => fnX6_readNumber_J36 v0 v3
set_option maxHeartbeats 4000000 in
set_option maxRecDepth 100000 in
theorem slX6_readNumber_J31 {κ : sm_X} (C : sm_C κ RX6 cX6_readNumber 4 3) (v0 : Nat) (v3 : Int32) (hv0 : kd v0 = 6) : sm_S κ (fun r : Int32 => .inr (some (.int r))) (.inl (31, [some (xad κ v0), none, none, some (.int v3)], [])) (fnX6_readNumber_J31 v0 v3) := by
  unfold fnX6_readNumber_J31
  refine sr_aload_n (i := 0) (q := 32) C (show decode cX6_readNumber 31 = .ok (.aload_n 0, 1) from by decide +kernel) rfl rfl rfl ?_
  refine sr_iconst (v := (2 : Int32)) (q := 33) C (show decode cX6_readNumber 32 = .ok (.iconst 2, 1) from by decide +kernel) (by decide) rfl ?_
  refine sr_cVv (As := [.int (2 : Int32)]) (st := []) (b := v0) (q := 36) C yvX6_refuse ml_X6_69 (cnX6_refuse (xo κ) v0 (2 : Int32) hv0) hv0 (by decide) rfl rfl rfl (by decide) (by decide) (Nat.le_of_ble_eq_true rfl) rfl (show decode cX6_readNumber 33 = .ok (.invokevirtual 69, 3) from by decide +kernel) rfl (fun _ => ?_)
  exact slX6_readNumber_J36 C v0 v3 hv0
def fnX6_readNumber (v0 : Nat) (v1 : Int32) (v2 : Int32) : sm_M Int32 := m_gi v0 8 fun x1 => m_gi v0 7 fun x6 => m_br (x6 = (2 : Int32))
    (m_br (x1 < v1)
    (fnX6_readNumber_J31 v0 x1)
    (m_br (x1 ≤ v2)
    (fnX6_readNumber_J36 v0 x1)
    (fnX6_readNumber_J31 v0 x1)))
    (m_bnd (fnX6_refuse v0 (1 : Int32)) fun _ => fnX6_readNumber_J36 v0 x1)
set_option maxHeartbeats 4000000 in
set_option maxRecDepth 100000 in
theorem slX6_readNumber {κ : sm_X} (C : sm_C κ RX6 cX6_readNumber 4 3) (v0 : Nat) (v1 : Int32) (v2 : Int32) (hv0 : kd v0 = 6) : sm_S κ (fun r : Int32 => .inr (some (.int r))) (.inl (0, [some (xad κ v0), some (.int v1), some (.int v2), none], [])) (fnX6_readNumber v0 v1 v2) := by
  unfold fnX6_readNumber
  refine sr_aload_n (i := 0) (q := 1) C (show decode cX6_readNumber 0 = .ok (.aload_n 0, 1) from by decide +kernel) rfl rfl rfl ?_
  refine sr_geti (q := 4) C fl_X6_113 (Or.inl rfl) hv0 (show decode cX6_readNumber 1 = .ok (.getfield 113, 3) from by decide +kernel) rfl (fun x1 => ?_)
  refine sr_istore_n (i := 3) (L' := [some (xad κ v0), some (.int v1), some (.int v2), some (.int x1)]) (q := 5) C (show decode cX6_readNumber 4 = .ok (.istore_n 3, 1) from by decide +kernel) rfl (by decide) rfl rfl ?_
  refine sr_aload_n (i := 0) (q := 6) C (show decode cX6_readNumber 5 = .ok (.aload_n 0, 1) from by decide +kernel) rfl rfl rfl ?_
  refine sr_geti (q := 9) C fl_X6_54 (Or.inl rfl) hv0 (show decode cX6_readNumber 6 = .ok (.getfield 54, 3) from by decide +kernel) rfl (fun x6 => ?_)
  refine sr_iconst (v := (2 : Int32)) (q := 10) C (show decode cX6_readNumber 9 = .ok (.iconst 2, 1) from by decide +kernel) (by decide) rfl ?_
  refine sr_icmp_eq (q := 13) C 21 (show decode cX6_readNumber 10 = .ok (.if_icmp .eq 11, 3) from by decide +kernel) (by decide) rfl ?_ ?_
  · refine sr_iload_n (i := 3) (q := 22) C (show decode cX6_readNumber 21 = .ok (.iload_n 3, 1) from by decide +kernel) rfl rfl rfl ?_
    refine sr_iload_n (i := 1) (q := 23) C (show decode cX6_readNumber 22 = .ok (.iload_n 1, 1) from by decide +kernel) rfl rfl rfl ?_
    refine sr_icmp_lt (q := 26) C 31 (show decode cX6_readNumber 23 = .ok (.if_icmp .lt 8, 3) from by decide +kernel) (by decide) rfl ?_ ?_
    · refine sr_weak (L' := [some (xad κ v0), none, none, some (.int x1)]) ⟨rfl, rfl, trivial⟩ ?_
      exact slX6_readNumber_J31 C v0 x1 hv0
    · refine sr_iload_n (i := 3) (q := 27) C (show decode cX6_readNumber 26 = .ok (.iload_n 3, 1) from by decide +kernel) rfl rfl rfl ?_
      refine sr_iload_n (i := 2) (q := 28) C (show decode cX6_readNumber 27 = .ok (.iload_n 2, 1) from by decide +kernel) rfl rfl rfl ?_
      refine sr_icmp_le (q := 31) C 36 (show decode cX6_readNumber 28 = .ok (.if_icmp .le 8, 3) from by decide +kernel) (by decide) rfl ?_ ?_
      · refine sr_weak (L' := [some (xad κ v0), none, none, some (.int x1)]) ⟨rfl, rfl, trivial⟩ ?_
        exact slX6_readNumber_J36 C v0 x1 hv0
      · refine sr_weak (L' := [some (xad κ v0), none, none, some (.int x1)]) ⟨rfl, rfl, trivial⟩ ?_
        exact slX6_readNumber_J31 C v0 x1 hv0
  · refine sr_aload_n (i := 0) (q := 14) C (show decode cX6_readNumber 13 = .ok (.aload_n 0, 1) from by decide +kernel) rfl rfl rfl ?_
    refine sr_iconst (v := (1 : Int32)) (q := 15) C (show decode cX6_readNumber 14 = .ok (.iconst 1, 1) from by decide +kernel) (by decide) rfl ?_
    refine sr_cVv (As := [.int (1 : Int32)]) (st := []) (b := v0) (q := 18) C yvX6_refuse ml_X6_69 (cnX6_refuse (xo κ) v0 (1 : Int32) hv0) hv0 (by decide) rfl rfl rfl (by decide) (by decide) (Nat.le_of_ble_eq_true rfl) rfl (show decode cX6_readNumber 15 = .ok (.invokevirtual 69, 3) from by decide +kernel) rfl (fun _ => ?_)
    refine sr_goto (q := 36) C (show decode cX6_readNumber 18 = .ok (.goto 18, 3) from by decide +kernel) (by decide) ?_
    refine sr_weak (L' := [some (xad κ v0), none, none, some (.int x1)]) ⟨rfl, rfl, trivial⟩ ?_
    exact slX6_readNumber_J36 C v0 x1 hv0
theorem cnX6_readNumber (ω : sm_O) (v0 : Nat) (v1 : Int32) (v2 : Int32) (hv0 : kd v0 = 6) : sm_Mt 3 yX6_readNumber cX6_readNumber 4 (some .int) ω [.ref (ω.1 + v0), .int v1, .int v2] (fun a => some (.int a)) (fnX6_readNumber v0 v1 v2) := by
  refine sm_conI (r := fun a => a) (by decide) (fun _ => rfl) (Nat.le_of_ble_eq_true rfl) ?_
  intro κ hκ C
  subst hκ
  exact slX6_readNumber C v0 v1 v2 hv0
