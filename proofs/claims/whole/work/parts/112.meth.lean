def fnX9_begin (v0 : Nat) : sm_M Unit := m_si v0 1 (0 : Int32) <| m_bnd (fnJ7_fill_53178 (lk v0 2) (0 : Int32)) fun _ => m_bnd (fnJ7_fill_53178 (lk v0 3) (0 : Int32)) fun _ => m_bnd (fnJ7_fill_53178 (lk v0 4) (98 : Int32)) fun _ => m_ret ()
set_option maxHeartbeats 4000000 in
set_option maxRecDepth 100000 in
theorem slX9_begin {κ : sm_X} (C : sm_C κ RX9 cX9_begin 1 2) (v0 : Nat) (hv0 : kd v0 = 9) : sm_S κ (fun _ : Unit => .inr none) (.inl (0, [some (xad κ v0)], [])) (fnX9_begin v0) := by
  unfold fnX9_begin
  refine sr_aload_n (i := 0) (q := 1) C (show decode cX9_begin 0 = .ok (.aload_n 0, 1) from by decide +kernel) rfl rfl rfl ?_
  refine sr_iconst (v := (0 : Int32)) (q := 2) C (show decode cX9_begin 1 = .ok (.iconst 0, 1) from by decide +kernel) (by decide) rfl ?_
  refine sr_puti (q := 5) C fp_X9_31 hv0 (show decode cX9_begin 2 = .ok (.putfield 31, 3) from by decide +kernel) rfl ?_
  refine sr_aload_n (i := 0) (q := 6) C (show decode cX9_begin 5 = .ok (.aload_n 0, 1) from by decide +kernel) rfl rfl rfl ?_
  refine sr_getr (q := 9) C fl_X9_9 hv0 (show decode cX9_begin 6 = .ok (.getfield 9, 3) from by decide +kernel) rfl ?_
  refine sr_iconst (v := (0 : Int32)) (q := 10) C (show decode cX9_begin 9 = .ok (.iconst 0, 1) from by decide +kernel) (by decide) rfl ?_
  refine sr_cSv (As := [xad κ (lk v0 2), .int (0 : Int32)]) (st := []) (q := 13) C ysJ7_fill_53178 ml_X9_25 (cnJ7_fill_53178 (xo κ) (lk v0 2) (0 : Int32) (kt hv0 kp_9_2)) rfl (by decide) (by decide) (Nat.le_of_ble_eq_true rfl) rfl (show decode cX9_begin 10 = .ok (.invokestatic 25, 3) from by decide +kernel) rfl (fun _ => ?_)
  refine sr_aload_n (i := 0) (q := 14) C (show decode cX9_begin 13 = .ok (.aload_n 0, 1) from by decide +kernel) rfl rfl rfl ?_
  refine sr_getr (q := 17) C fl_X9_15 hv0 (show decode cX9_begin 14 = .ok (.getfield 15, 3) from by decide +kernel) rfl ?_
  refine sr_iconst (v := (0 : Int32)) (q := 18) C (show decode cX9_begin 17 = .ok (.iconst 0, 1) from by decide +kernel) (by decide) rfl ?_
  refine sr_cSv (As := [xad κ (lk v0 3), .int (0 : Int32)]) (st := []) (q := 21) C ysJ7_fill_53178 ml_X9_25 (cnJ7_fill_53178 (xo κ) (lk v0 3) (0 : Int32) (kt hv0 kp_9_3)) rfl (by decide) (by decide) (Nat.le_of_ble_eq_true rfl) rfl (show decode cX9_begin 18 = .ok (.invokestatic 25, 3) from by decide +kernel) rfl (fun _ => ?_)
  refine sr_aload_n (i := 0) (q := 22) C (show decode cX9_begin 21 = .ok (.aload_n 0, 1) from by decide +kernel) rfl rfl rfl ?_
  refine sr_getr (q := 25) C fl_X9_18 hv0 (show decode cX9_begin 22 = .ok (.getfield 18, 3) from by decide +kernel) rfl ?_
  refine sr_bipush (v := (98 : Int32)) (q := 27) C (show decode cX9_begin 25 = .ok (.bipush 98, 2) from by decide +kernel) (by decide) rfl ?_
  refine sr_cSv (As := [xad κ (lk v0 4), .int (98 : Int32)]) (st := []) (q := 30) C ysJ7_fill_53178 ml_X9_25 (cnJ7_fill_53178 (xo κ) (lk v0 4) (98 : Int32) (kt hv0 kp_9_4)) rfl (by decide) (by decide) (Nat.le_of_ble_eq_true rfl) rfl (show decode cX9_begin 27 = .ok (.invokestatic 25, 3) from by decide +kernel) rfl (fun _ => ?_)
  exact sr_vreturn C _ rfl (show decode cX9_begin 30 = .ok (.return_, 1) from by decide +kernel)
theorem cnX9_begin (ω : sm_O) (v0 : Nat) (hv0 : kd v0 = 9) : sm_Mt 2 yX9_begin cX9_begin 1 none ω [.ref (ω.1 + v0)] (fun _ => none) (fnX9_begin v0) := by
  refine sm_conV (by decide) (Nat.le_of_ble_eq_true rfl) ?_
  intro κ hκ C
  subst hκ
  exact slX9_begin C v0 hv0
def fnX11_river (v0 : Nat) : sm_M Int32 := m_gi v0 1 fun x9 => m_bnd (fnX6_readAll (lk v0 4) (lk v0 0) x9) fun _ => m_si v0 1 (0 : Int32) <| m_gi (lk v0 4) 1 fun x25 => m_si v0 2 x25 <| m_gi (lk v0 4) 2 fun x36 => m_si v0 3 x36 <| m_gi v0 2 fun x43 => m_br (x43 = 0)
    (m_bnd (fnX7_takeFrom (lk v0 5) (lk (lk v0 4) 0)) fun _ => m_bnd (fnX9_begin (lk v0 6)) fun _ => m_bnd (fnX3_lay (lk v0 8) (lk v0 5)) fun _ => m_bnd (fnX5_forget (lk v0 11)) fun _ => m_gi (lk v0 5) 0 fun x95 => m_ret x95)
    (m_ret (-4 : Int32))
set_option maxHeartbeats 4000000 in
set_option maxRecDepth 100000 in
theorem slX11_river {κ : sm_X} (C : sm_C κ RX11 cX11_river 1 11) (v0 : Nat) (hv0 : kd v0 = 11) : sm_S κ (fun r : Int32 => .inr (some (.int r))) (.inl (0, [some (xad κ v0)], [])) (fnX11_river v0) := by
  unfold fnX11_river
  refine sr_aload_n (i := 0) (q := 1) C (show decode cX11_river 0 = .ok (.aload_n 0, 1) from by decide +kernel) rfl rfl rfl ?_
  refine sr_getr (q := 4) C fl_X11_20 hv0 (show decode cX11_river 1 = .ok (.getfield 20, 3) from by decide +kernel) rfl ?_
  refine sr_aload_n (i := 0) (q := 5) C (show decode cX11_river 4 = .ok (.aload_n 0, 1) from by decide +kernel) rfl rfl rfl ?_
  refine sr_getr (q := 8) C fl_X11_9 hv0 (show decode cX11_river 5 = .ok (.getfield 9, 3) from by decide +kernel) rfl ?_
  refine sr_aload_n (i := 0) (q := 9) C (show decode cX11_river 8 = .ok (.aload_n 0, 1) from by decide +kernel) rfl rfl rfl ?_
  refine sr_geti (q := 12) C fl_X11_110 (Or.inl rfl) hv0 (show decode cX11_river 9 = .ok (.getfield 110, 3) from by decide +kernel) rfl (fun x9 => ?_)
  refine sr_cVv (As := [xad κ (lk v0 0), .int x9]) (st := []) (b := lk v0 4) (q := 15) C yvX6_readAll ml_X11_117 (cnX6_readAll (xo κ) (lk v0 4) (lk v0 0) x9 (kt hv0 kp_11_4) (kt hv0 kp_11_0)) (kt hv0 kp_11_4) (by decide) rfl rfl rfl (by decide) (by decide) (Nat.le_of_ble_eq_true rfl) rfl (show decode cX11_river 12 = .ok (.invokevirtual 117, 3) from by decide +kernel) rfl (fun _ => ?_)
  refine sr_aload_n (i := 0) (q := 16) C (show decode cX11_river 15 = .ok (.aload_n 0, 1) from by decide +kernel) rfl rfl rfl ?_
  refine sr_iconst (v := (0 : Int32)) (q := 17) C (show decode cX11_river 16 = .ok (.iconst 0, 1) from by decide +kernel) (by decide) rfl ?_
  refine sr_puti (q := 20) C fp_X11_110 hv0 (show decode cX11_river 17 = .ok (.putfield 110, 3) from by decide +kernel) rfl ?_
  refine sr_aload_n (i := 0) (q := 21) C (show decode cX11_river 20 = .ok (.aload_n 0, 1) from by decide +kernel) rfl rfl rfl ?_
  refine sr_aload_n (i := 0) (q := 22) C (show decode cX11_river 21 = .ok (.aload_n 0, 1) from by decide +kernel) rfl rfl rfl ?_
  refine sr_getr (q := 25) C fl_X11_20 hv0 (show decode cX11_river 22 = .ok (.getfield 20, 3) from by decide +kernel) rfl ?_
  refine sr_geti (q := 28) C fl_X11_121 (Or.inl rfl) (kt hv0 kp_11_4) (show decode cX11_river 25 = .ok (.getfield 121, 3) from by decide +kernel) rfl (fun x25 => ?_)
  refine sr_puti (q := 31) C fp_X11_124 hv0 (show decode cX11_river 28 = .ok (.putfield 124, 3) from by decide +kernel) rfl ?_
  refine sr_aload_n (i := 0) (q := 32) C (show decode cX11_river 31 = .ok (.aload_n 0, 1) from by decide +kernel) rfl rfl rfl ?_
  refine sr_aload_n (i := 0) (q := 33) C (show decode cX11_river 32 = .ok (.aload_n 0, 1) from by decide +kernel) rfl rfl rfl ?_
  refine sr_getr (q := 36) C fl_X11_20 hv0 (show decode cX11_river 33 = .ok (.getfield 20, 3) from by decide +kernel) rfl ?_
  refine sr_geti (q := 39) C fl_X11_127 (Or.inl rfl) (kt hv0 kp_11_4) (show decode cX11_river 36 = .ok (.getfield 127, 3) from by decide +kernel) rfl (fun x36 => ?_)
  refine sr_puti (q := 42) C fp_X11_13 hv0 (show decode cX11_river 39 = .ok (.putfield 13, 3) from by decide +kernel) rfl ?_
  refine sr_aload_n (i := 0) (q := 43) C (show decode cX11_river 42 = .ok (.aload_n 0, 1) from by decide +kernel) rfl rfl rfl ?_
  refine sr_geti (q := 46) C fl_X11_124 (Or.inl rfl) hv0 (show decode cX11_river 43 = .ok (.getfield 124, 3) from by decide +kernel) rfl (fun x43 => ?_)
  refine sr_if_eq (q := 49) C 52 (show decode cX11_river 46 = .ok (.ifCond .eq 6, 3) from by decide +kernel) (by decide) rfl ?_ ?_
  · refine sr_aload_n (i := 0) (q := 53) C (show decode cX11_river 52 = .ok (.aload_n 0, 1) from by decide +kernel) rfl rfl rfl ?_
    refine sr_getr (q := 56) C fl_X11_27 hv0 (show decode cX11_river 53 = .ok (.getfield 27, 3) from by decide +kernel) rfl ?_
    refine sr_aload_n (i := 0) (q := 57) C (show decode cX11_river 56 = .ok (.aload_n 0, 1) from by decide +kernel) rfl rfl rfl ?_
    refine sr_getr (q := 60) C fl_X11_20 hv0 (show decode cX11_river 57 = .ok (.getfield 20, 3) from by decide +kernel) rfl ?_
    refine sr_getr (q := 63) C fl_X11_130 (kt hv0 kp_11_4) (show decode cX11_river 60 = .ok (.getfield 130, 3) from by decide +kernel) rfl ?_
    refine sr_cVv (As := [xad κ (lk (lk v0 4) 0)]) (st := []) (b := lk v0 5) (q := 66) C yvX7_takeFrom ml_X11_131 (cnX7_takeFrom (xo κ) (lk v0 5) (lk (lk v0 4) 0) (kt hv0 kp_11_5) (kt (kt hv0 kp_11_4) kp_6_0)) (kt hv0 kp_11_5) (by decide) rfl rfl rfl (by decide) (by decide) (Nat.le_of_ble_eq_true rfl) rfl (show decode cX11_river 63 = .ok (.invokevirtual 131, 3) from by decide +kernel) rfl (fun _ => ?_)
    refine sr_aload_n (i := 0) (q := 67) C (show decode cX11_river 66 = .ok (.aload_n 0, 1) from by decide +kernel) rfl rfl rfl ?_
    refine sr_getr (q := 70) C fl_X11_36 hv0 (show decode cX11_river 67 = .ok (.getfield 36, 3) from by decide +kernel) rfl ?_
    refine sr_cVv (As := []) (st := []) (b := lk v0 6) (q := 73) C yvX9_begin ml_X11_134 (cnX9_begin (xo κ) (lk v0 6) (kt hv0 kp_11_6)) (kt hv0 kp_11_6) (by decide) rfl rfl rfl (by decide) (by decide) (Nat.le_of_ble_eq_true rfl) rfl (show decode cX11_river 70 = .ok (.invokevirtual 134, 3) from by decide +kernel) rfl (fun _ => ?_)
    refine sr_aload_n (i := 0) (q := 74) C (show decode cX11_river 73 = .ok (.aload_n 0, 1) from by decide +kernel) rfl rfl rfl ?_
    refine sr_getr (q := 77) C fl_X11_46 hv0 (show decode cX11_river 74 = .ok (.getfield 46, 3) from by decide +kernel) rfl ?_
    refine sr_aload_n (i := 0) (q := 78) C (show decode cX11_river 77 = .ok (.aload_n 0, 1) from by decide +kernel) rfl rfl rfl ?_
    refine sr_getr (q := 81) C fl_X11_27 hv0 (show decode cX11_river 78 = .ok (.getfield 27, 3) from by decide +kernel) rfl ?_
    refine sr_cVv (As := [xad κ (lk v0 5)]) (st := []) (b := lk v0 8) (q := 84) C yvX3_lay ml_X11_137 (cnX3_lay (xo κ) (lk v0 8) (lk v0 5) (kt hv0 kp_11_8) (kt hv0 kp_11_5)) (kt hv0 kp_11_8) (by decide) rfl rfl rfl (by decide) (by decide) (Nat.le_of_ble_eq_true rfl) rfl (show decode cX11_river 81 = .ok (.invokevirtual 137, 3) from by decide +kernel) rfl (fun _ => ?_)
    refine sr_aload_n (i := 0) (q := 85) C (show decode cX11_river 84 = .ok (.aload_n 0, 1) from by decide +kernel) rfl rfl rfl ?_
    refine sr_getr (q := 88) C fl_X11_73 hv0 (show decode cX11_river 85 = .ok (.getfield 73, 3) from by decide +kernel) rfl ?_
    refine sr_cVv (As := []) (st := []) (b := lk v0 11) (q := 91) C yvX5_forget ml_X11_140 (cnX5_forget (xo κ) (lk v0 11) (kt hv0 kp_11_11)) (kt hv0 kp_11_11) (by decide) rfl rfl rfl (by decide) (by decide) (Nat.le_of_ble_eq_true rfl) rfl (show decode cX11_river 88 = .ok (.invokevirtual 140, 3) from by decide +kernel) rfl (fun _ => ?_)
    refine sr_aload_n (i := 0) (q := 92) C (show decode cX11_river 91 = .ok (.aload_n 0, 1) from by decide +kernel) rfl rfl rfl ?_
    refine sr_getr (q := 95) C fl_X11_27 hv0 (show decode cX11_river 92 = .ok (.getfield 27, 3) from by decide +kernel) rfl ?_
    refine sr_geti (q := 98) C fl_X11_143 (Or.inl rfl) (kt hv0 kp_11_5) (show decode cX11_river 95 = .ok (.getfield 143, 3) from by decide +kernel) rfl (fun x95 => ?_)
    exact sr_ireturn C _ rfl (show decode cX11_river 98 = .ok (.ireturn, 1) from by decide +kernel)
  · refine sr_bipush (v := (-4 : Int32)) (q := 51) C (show decode cX11_river 49 = .ok (.bipush (-4), 2) from by decide +kernel) (by decide) rfl ?_
    exact sr_ireturn C _ rfl (show decode cX11_river 51 = .ok (.ireturn, 1) from by decide +kernel)
theorem cnX11_river (ω : sm_O) (v0 : Nat) (hv0 : kd v0 = 11) : sm_Mt 11 yX11_river cX11_river 1 (some .int) ω [.ref (ω.1 + v0)] (fun a => some (.int a)) (fnX11_river v0) := by
  refine sm_conI (r := fun a => a) (by decide) (fun _ => rfl) (Nat.le_of_ble_eq_true rfl) ?_
  intro κ hκ C
  subst hκ
  exact slX11_river C v0 hv0
def fnX8_clear (v0 : Nat) (v1 : Int32) (v2 : Int32) : sm_M Unit := m_si v0 0 (1 : Int32) <| m_si v0 1 v1 <| m_si v0 2 v2 <| m_bnd (fnJ7_fill_d0a16 (lk v0 3) (0 : Int64)) fun _ => m_ret ()
set_option maxHeartbeats 4000000 in
set_option maxRecDepth 100000 in
theorem slX8_clear {κ : sm_X} (C : sm_C κ RX8 cX8_clear 3 2) (v0 : Nat) (v1 : Int32) (v2 : Int32) (hv0 : kd v0 = 8) : sm_S κ (fun _ : Unit => .inr none) (.inl (0, [some (xad κ v0), some (.int v1), some (.int v2)], [])) (fnX8_clear v0 v1 v2) := by
  unfold fnX8_clear
  refine sr_aload_n (i := 0) (q := 1) C (show decode cX8_clear 0 = .ok (.aload_n 0, 1) from by decide +kernel) rfl rfl rfl ?_
  refine sr_iconst (v := (1 : Int32)) (q := 2) C (show decode cX8_clear 1 = .ok (.iconst 1, 1) from by decide +kernel) (by decide) rfl ?_
  refine sr_putx (q := 5) C fp_X8_15 (Or.inr rfl) rfl rfl hv0 (show decode cX8_clear 2 = .ok (.putfield 15, 3) from by decide +kernel) rfl ?_
  refine sr_aload_n (i := 0) (q := 6) C (show decode cX8_clear 5 = .ok (.aload_n 0, 1) from by decide +kernel) rfl rfl rfl ?_
  refine sr_iload_n (i := 1) (q := 7) C (show decode cX8_clear 6 = .ok (.iload_n 1, 1) from by decide +kernel) rfl rfl rfl ?_
  refine sr_puti (q := 10) C fp_X8_19 hv0 (show decode cX8_clear 7 = .ok (.putfield 19, 3) from by decide +kernel) rfl ?_
  refine sr_aload_n (i := 0) (q := 11) C (show decode cX8_clear 10 = .ok (.aload_n 0, 1) from by decide +kernel) rfl rfl rfl ?_
  refine sr_iload_n (i := 2) (q := 12) C (show decode cX8_clear 11 = .ok (.iload_n 2, 1) from by decide +kernel) rfl rfl rfl ?_
  refine sr_puti (q := 15) C fp_X8_23 hv0 (show decode cX8_clear 12 = .ok (.putfield 23, 3) from by decide +kernel) rfl ?_
  refine sr_aload_n (i := 0) (q := 16) C (show decode cX8_clear 15 = .ok (.aload_n 0, 1) from by decide +kernel) rfl rfl rfl ?_
  refine sr_getr (q := 19) C fl_X8_9 hv0 (show decode cX8_clear 16 = .ok (.getfield 9, 3) from by decide +kernel) rfl ?_
  refine sr_lconst (v := (0 : Int64)) (q := 20) C (show decode cX8_clear 19 = .ok (.lconst 0, 1) from by decide +kernel) (by decide) rfl ?_
  refine sr_cSv (As := [xad κ (lk v0 3), .long (0 : Int64)]) (st := []) (q := 23) C ysJ7_fill_d0a16 ml_X8_26 (cnJ7_fill_d0a16 (xo κ) (lk v0 3) (0 : Int64) (kt hv0 kp_8_3)) rfl (by decide) (by decide) (Nat.le_of_ble_eq_true rfl) rfl (show decode cX8_clear 20 = .ok (.invokestatic 26, 3) from by decide +kernel) rfl (fun _ => ?_)
  exact sr_vreturn C _ rfl (show decode cX8_clear 23 = .ok (.return_, 1) from by decide +kernel)
theorem cnX8_clear (ω : sm_O) (v0 : Nat) (v1 : Int32) (v2 : Int32) (hv0 : kd v0 = 8) : sm_Mt 2 yX8_clear cX8_clear 3 none ω [.ref (ω.1 + v0), .int v1, .int v2] (fun _ => none) (fnX8_clear v0 v1 v2) := by
  refine sm_conV (by decide) (Nat.le_of_ble_eq_true rfl) ?_
  intro κ hκ C
  subst hκ
  exact slX8_clear C v0 v1 v2 hv0
def fnX11_row (v0 : Nat) (v1 : Int32) (v2 : Int32) (v3 : Int32) : sm_M Int32 := m_bnd (fnX11_isSlot v1) fun x1 => m_br ((bI x1) = 0)
    (m_ret (-2 : Int32))
    (m_br (v2 < 0)
    (m_ret (-2 : Int32))
    (m_br ((3 : Int32) < v2)
    (m_ret (-2 : Int32))
    (m_br (v3 ≤ (60 : Int32))
    (m_br (0 ≤ v3)
    (m_ap (lk v0 14) v1 fun x37 => m_bnd (fnX8_clear x37 v2 v3) fun _ => m_ret (0 : Int32))
    (m_ret (-3 : Int32)))
    (m_ret (-2 : Int32)))))
set_option maxHeartbeats 4000000 in
set_option maxRecDepth 100000 in
theorem slX11_row {κ : sm_X} (C : sm_C κ RX11 cX11_row 4 3) (v0 : Nat) (v1 : Int32) (v2 : Int32) (v3 : Int32) (hv0 : kd v0 = 11) : sm_S κ (fun r : Int32 => .inr (some (.int r))) (.inl (0, [some (xad κ v0), some (.int v1), some (.int v2), some (.int v3)], [])) (fnX11_row v0 v1 v2 v3) := by
  unfold fnX11_row
  refine sr_iload_n (i := 1) (q := 1) C (show decode cX11_row 0 = .ok (.iload_n 1, 1) from by decide +kernel) rfl rfl rfl ?_
  refine sr_cSz (As := [.int v1]) (st := []) (q := 4) C ysX11_isSlot ml_X11_228 (cnX11_isSlot (xo κ) v1) rfl (by decide) (by decide) (Nat.le_of_ble_eq_true rfl) rfl (show decode cX11_row 1 = .ok (.invokestatic 228, 3) from by decide +kernel) rfl (fun x1 => ?_)
  refine sr_if_eq (q := 7) C 22 (show decode cX11_row 4 = .ok (.ifCond .eq 18, 3) from by decide +kernel) (by decide) rfl ?_ ?_
  · refine sr_bipush (v := (-2 : Int32)) (q := 24) C (show decode cX11_row 22 = .ok (.bipush (-2), 2) from by decide +kernel) (by decide) rfl ?_
    exact sr_ireturn C _ rfl (show decode cX11_row 24 = .ok (.ireturn, 1) from by decide +kernel)
  · refine sr_iload_n (i := 2) (q := 8) C (show decode cX11_row 7 = .ok (.iload_n 2, 1) from by decide +kernel) rfl rfl rfl ?_
    refine sr_if_lt (q := 11) C 22 (show decode cX11_row 8 = .ok (.ifCond .lt 14, 3) from by decide +kernel) (by decide) rfl ?_ ?_
    · refine sr_bipush (v := (-2 : Int32)) (q := 24) C (show decode cX11_row 22 = .ok (.bipush (-2), 2) from by decide +kernel) (by decide) rfl ?_
      exact sr_ireturn C _ rfl (show decode cX11_row 24 = .ok (.ireturn, 1) from by decide +kernel)
    · refine sr_iload_n (i := 2) (q := 12) C (show decode cX11_row 11 = .ok (.iload_n 2, 1) from by decide +kernel) rfl rfl rfl ?_
      refine sr_iconst (v := (3 : Int32)) (q := 13) C (show decode cX11_row 12 = .ok (.iconst 3, 1) from by decide +kernel) (by decide) rfl ?_
      refine sr_icmp_gt (q := 16) C 22 (show decode cX11_row 13 = .ok (.if_icmp .gt 9, 3) from by decide +kernel) (by decide) rfl ?_ ?_
      · refine sr_bipush (v := (-2 : Int32)) (q := 24) C (show decode cX11_row 22 = .ok (.bipush (-2), 2) from by decide +kernel) (by decide) rfl ?_
        exact sr_ireturn C _ rfl (show decode cX11_row 24 = .ok (.ireturn, 1) from by decide +kernel)
      · refine sr_iload_n (i := 3) (q := 17) C (show decode cX11_row 16 = .ok (.iload_n 3, 1) from by decide +kernel) rfl rfl rfl ?_
        refine sr_bipush (v := (60 : Int32)) (q := 19) C (show decode cX11_row 17 = .ok (.bipush 60, 2) from by decide +kernel) (by decide) rfl ?_
        refine sr_icmp_le (q := 22) C 25 (show decode cX11_row 19 = .ok (.if_icmp .le 6, 3) from by decide +kernel) (by decide) rfl ?_ ?_
        · refine sr_iload_n (i := 3) (q := 26) C (show decode cX11_row 25 = .ok (.iload_n 3, 1) from by decide +kernel) rfl rfl rfl ?_
          refine sr_if_ge (q := 29) C 32 (show decode cX11_row 26 = .ok (.ifCond .ge 6, 3) from by decide +kernel) (by decide) rfl ?_ ?_
          · refine sr_aload_n (i := 0) (q := 33) C (show decode cX11_row 32 = .ok (.aload_n 0, 1) from by decide +kernel) rfl rfl rfl ?_
            refine sr_getr (q := 36) C fl_X11_93 hv0 (show decode cX11_row 33 = .ok (.getfield 93, 3) from by decide +kernel) rfl ?_
            refine sr_iload_n (i := 1) (q := 37) C (show decode cX11_row 36 = .ok (.iload_n 1, 1) from by decide +kernel) rfl rfl rfl ?_
            refine sr_aaload (t0 := 5) (q := 38) C (kt hv0 kp_11_14) (Or.inr (Or.inl rfl)) rfl (show decode cX11_row 37 = .ok (.aaload, 1) from by decide +kernel) rfl (fun x37 hx37 => ?_)
            refine sr_iload_n (i := 2) (q := 39) C (show decode cX11_row 38 = .ok (.iload_n 2, 1) from by decide +kernel) rfl rfl rfl ?_
            refine sr_iload_n (i := 3) (q := 40) C (show decode cX11_row 39 = .ok (.iload_n 3, 1) from by decide +kernel) rfl rfl rfl ?_
            refine sr_cVv (As := [.int v2, .int v3]) (st := []) (b := x37) (q := 43) C yvX8_clear ml_X11_440 (cnX8_clear (xo κ) x37 v2 v3 hx37) hx37 (by decide) rfl rfl rfl (by decide) (by decide) (Nat.le_of_ble_eq_true rfl) rfl (show decode cX11_row 40 = .ok (.invokevirtual 440, 3) from by decide +kernel) rfl (fun _ => ?_)
            refine sr_iconst (v := (0 : Int32)) (q := 44) C (show decode cX11_row 43 = .ok (.iconst 0, 1) from by decide +kernel) (by decide) rfl ?_
            exact sr_ireturn C _ rfl (show decode cX11_row 44 = .ok (.ireturn, 1) from by decide +kernel)
          · refine sr_bipush (v := (-3 : Int32)) (q := 31) C (show decode cX11_row 29 = .ok (.bipush (-3), 2) from by decide +kernel) (by decide) rfl ?_
            exact sr_ireturn C _ rfl (show decode cX11_row 31 = .ok (.ireturn, 1) from by decide +kernel)
        · refine sr_bipush (v := (-2 : Int32)) (q := 24) C (show decode cX11_row 22 = .ok (.bipush (-2), 2) from by decide +kernel) (by decide) rfl ?_
          exact sr_ireturn C _ rfl (show decode cX11_row 24 = .ok (.ireturn, 1) from by decide +kernel)
theorem cnX11_row (ω : sm_O) (v0 : Nat) (v1 : Int32) (v2 : Int32) (v3 : Int32) (hv0 : kd v0 = 11) : sm_Mt 3 yX11_row cX11_row 4 (some .int) ω [.ref (ω.1 + v0), .int v1, .int v2, .int v3] (fun a => some (.int a)) (fnX11_row v0 v1 v2 v3) := by
  refine sm_conI (r := fun a => a) (by decide) (fun _ => rfl) (Nat.le_of_ble_eq_true rfl) ?_
  intro κ hκ C
  subst hκ
  exact slX11_row C v0 v1 v2 v3 hv0
def fnX11_run (v0 : Nat) (v1 : Int32) (v2 : Int32) : sm_M Int32 := m_bnd (fnX11_isSeed v1) fun x1 => m_br ((bI x1) = 0)
    (m_ret (-2 : Int32))
    (m_bnd (fnX11_isWay v0 v2) fun x9 => m_br ((bI x9) = 0)
    (m_ret (-2 : Int32))
    (m_bnd (fnX11_peopleOnDay v0 v1 v2) fun x21 => m_ret x21))
set_option maxHeartbeats 4000000 in
set_option maxRecDepth 100000 in
theorem slX11_run {κ : sm_X} (C : sm_C κ RX11 cX11_run 3 8) (v0 : Nat) (v1 : Int32) (v2 : Int32) (hv0 : kd v0 = 11) : sm_S κ (fun r : Int32 => .inr (some (.int r))) (.inl (0, [some (xad κ v0), some (.int v1), some (.int v2)], [])) (fnX11_run v0 v1 v2) := by
  unfold fnX11_run
  refine sr_iload_n (i := 1) (q := 1) C (show decode cX11_run 0 = .ok (.iload_n 1, 1) from by decide +kernel) rfl rfl rfl ?_
  refine sr_cSz (As := [.int v1]) (st := []) (q := 4) C ysX11_isSeed ml_X11_419 (cnX11_isSeed (xo κ) v1) rfl (by decide) (by decide) (Nat.le_of_ble_eq_true rfl) rfl (show decode cX11_run 1 = .ok (.invokestatic 419, 3) from by decide +kernel) rfl (fun x1 => ?_)
  refine sr_if_eq (q := 7) C 15 (show decode cX11_run 4 = .ok (.ifCond .eq 11, 3) from by decide +kernel) (by decide) rfl ?_ ?_
  · refine sr_bipush (v := (-2 : Int32)) (q := 17) C (show decode cX11_run 15 = .ok (.bipush (-2), 2) from by decide +kernel) (by decide) rfl ?_
    exact sr_ireturn C _ rfl (show decode cX11_run 17 = .ok (.ireturn, 1) from by decide +kernel)
  · refine sr_aload_n (i := 0) (q := 8) C (show decode cX11_run 7 = .ok (.aload_n 0, 1) from by decide +kernel) rfl rfl rfl ?_
    refine sr_iload_n (i := 2) (q := 9) C (show decode cX11_run 8 = .ok (.iload_n 2, 1) from by decide +kernel) rfl rfl rfl ?_
    refine sr_cVz (As := [.int v2]) (st := []) (b := v0) (q := 12) C yvX11_isWay ml_X11_214 (cnX11_isWay (xo κ) v0 v2 hv0) hv0 (by decide) rfl rfl rfl (by decide) (by decide) (Nat.le_of_ble_eq_true rfl) rfl (show decode cX11_run 9 = .ok (.invokevirtual 214, 3) from by decide +kernel) rfl (fun x9 => ?_)
    refine sr_if_ne (q := 15) C 18 (show decode cX11_run 12 = .ok (.ifCond .ne 6, 3) from by decide +kernel) (by decide) rfl ?_ ?_
    · refine sr_aload_n (i := 0) (q := 19) C (show decode cX11_run 18 = .ok (.aload_n 0, 1) from by decide +kernel) rfl rfl rfl ?_
      refine sr_iload_n (i := 1) (q := 20) C (show decode cX11_run 19 = .ok (.iload_n 1, 1) from by decide +kernel) rfl rfl rfl ?_
      refine sr_iload_n (i := 2) (q := 21) C (show decode cX11_run 20 = .ok (.iload_n 2, 1) from by decide +kernel) rfl rfl rfl ?_
      refine sr_cVi (As := [.int v1, .int v2]) (st := []) (b := v0) (q := 24) C yvX11_peopleOnDay ml_X11_422 (cnX11_peopleOnDay (xo κ) v0 v1 v2 hv0) hv0 (by decide) rfl rfl rfl (by decide) (by decide) (Nat.le_of_ble_eq_true rfl) rfl (show decode cX11_run 21 = .ok (.invokevirtual 422, 3) from by decide +kernel) rfl (fun x21 => ?_)
      exact sr_ireturn C _ rfl (show decode cX11_run 24 = .ok (.ireturn, 1) from by decide +kernel)
    · refine sr_bipush (v := (-2 : Int32)) (q := 17) C (show decode cX11_run 15 = .ok (.bipush (-2), 2) from by decide +kernel) (by decide) rfl ?_
      exact sr_ireturn C _ rfl (show decode cX11_run 17 = .ok (.ireturn, 1) from by decide +kernel)
theorem cnX11_run (ω : sm_O) (v0 : Nat) (v1 : Int32) (v2 : Int32) (hv0 : kd v0 = 11) : sm_Mt 8 yX11_run cX11_run 3 (some .int) ω [.ref (ω.1 + v0), .int v1, .int v2] (fun a => some (.int a)) (fnX11_run v0 v1 v2) := by
  refine sm_conI (r := fun a => a) (by decide) (fun _ => rfl) (Nat.le_of_ble_eq_true rfl) ?_
  intro κ hκ C
  subst hκ
  exact slX11_run C v0 v1 v2 hv0
def fnX11_runs_J105 (v4 : Int32) (v5 : Int32) (v6 : Int32) (v7 : Int32) : sm_M Int32 := m_br (v4 = 0)
    (m_ret v5)
    (m_br (v4 = (1 : Int32))
    (m_ret v6)
    (m_ret v7))
set_option maxHeartbeats 4000000 in
set_option maxRecDepth 100000 in
theorem slX11_runs_J105 {κ : sm_X} (C : sm_C κ RX11 cX11_runs 10 8) (v4 : Int32) (v5 : Int32) (v6 : Int32) (v7 : Int32)  : sm_S κ (fun r : Int32 => .inr (some (.int r))) (.inl (105, [none, none, none, none, some (.int v4), some (.int v5), some (.int v6), some (.int v7), none, none], [])) (fnX11_runs_J105 v4 v5 v6 v7) := by
  unfold fnX11_runs_J105
  refine sr_iload (i := 4) (q := 107) C (show decode cX11_runs 105 = .ok (.iload 4, 2) from by decide +kernel) rfl rfl ?_
  refine sr_if_ne (q := 110) C 113 (show decode cX11_runs 107 = .ok (.ifCond .ne 6, 3) from by decide +kernel) (by decide) rfl ?_ ?_
  · refine sr_iload (i := 4) (q := 115) C (show decode cX11_runs 113 = .ok (.iload 4, 2) from by decide +kernel) rfl rfl ?_
    refine sr_iconst (v := (1 : Int32)) (q := 116) C (show decode cX11_runs 115 = .ok (.iconst 1, 1) from by decide +kernel) (by decide) rfl ?_
    refine sr_icmp_ne (q := 119) C 124 (show decode cX11_runs 116 = .ok (.if_icmp .ne 8, 3) from by decide +kernel) (by decide) rfl ?_ ?_
    · refine sr_iload (i := 7) (q := 126) C (show decode cX11_runs 124 = .ok (.iload 7, 2) from by decide +kernel) rfl rfl ?_
      exact sr_ireturn C _ rfl (show decode cX11_runs 126 = .ok (.ireturn, 1) from by decide +kernel)
    · refine sr_iload (i := 6) (q := 121) C (show decode cX11_runs 119 = .ok (.iload 6, 2) from by decide +kernel) rfl rfl ?_
      refine sr_goto (q := 126) C (show decode cX11_runs 121 = .ok (.goto 5, 3) from by decide +kernel) (by decide) ?_
      exact sr_ireturn C _ rfl (show decode cX11_runs 126 = .ok (.ireturn, 1) from by decide +kernel)
  · refine sr_iload (i := 5) (q := 112) C (show decode cX11_runs 110 = .ok (.iload 5, 2) from by decide +kernel) rfl rfl ?_
    exact sr_ireturn C _ rfl (show decode cX11_runs 112 = .ok (.ireturn, 1) from by decide +kernel)
def fnX11_runs_J99 (k53 : Nat → Int32 → Int32 → Int32 → Int32 → Int32 → Int32 → Int32 → Int32 → sm_M Int32) (v0 : Nat) (v1 : Int32) (v2 : Int32) (v3 : Int32) (v4 : Int32) (v5 : Int32) (v6 : Int32) (v7 : Int32) (v8 : Int32) : sm_M Int32 := k53 v0 v1 v2 v3 v4 v5 v6 v7 (v8 + (1 : Int32))
set_option maxHeartbeats 4000000 in
set_option maxRecDepth 100000 in
theorem slX11_runs_J99 {κ : sm_X} (C : sm_C κ RX11 cX11_runs 10 8) {k53 : Nat → Int32 → Int32 → Int32 → Int32 → Int32 → Int32 → Int32 → Int32 → sm_M Int32} (K53 : ∀ (v0 : Nat) (v1 : Int32) (v2 : Int32) (v3 : Int32) (v4 : Int32) (v5 : Int32) (v6 : Int32) (v7 : Int32) (v8 : Int32) (hv0 : kd v0 = 11), sm_S κ (fun r : Int32 => .inr (some (.int r))) (.inl (53, [some (xad κ v0), some (.int v1), some (.int v2), some (.int v3), some (.int v4), some (.int v5), some (.int v6), some (.int v7), some (.int v8), none], [])) (k53 v0 v1 v2 v3 v4 v5 v6 v7 v8)) (v0 : Nat) (v1 : Int32) (v2 : Int32) (v3 : Int32) (v4 : Int32) (v5 : Int32) (v6 : Int32) (v7 : Int32) (v8 : Int32) (hv0 : kd v0 = 11) : sm_S κ (fun r : Int32 => .inr (some (.int r))) (.inl (99, [some (xad κ v0), some (.int v1), some (.int v2), some (.int v3), some (.int v4), some (.int v5), some (.int v6), some (.int v7), some (.int v8), none], [])) (fnX11_runs_J99 k53 v0 v1 v2 v3 v4 v5 v6 v7 v8) := by
  unfold fnX11_runs_J99
  refine sr_iinc (v := v8 + (1 : Int32)) (L' := [some (xad κ v0), some (.int v1), some (.int v2), some (.int v3), some (.int v4), some (.int v5), some (.int v6), some (.int v7), some (.int (v8 + (1 : Int32))), none]) (q := 102) C (show decode cX11_runs 99 = .ok (.iinc 8 1, 3) from by decide +kernel) rfl rfl (by decide) rfl rfl ?_
  refine sr_goto (q := 53) C (show decode cX11_runs 102 = .ok (.goto (-49), 3) from by decide +kernel) (by decide) ?_
  exact K53 v0 v1 v2 v3 v4 v5 v6 v7 (v8 + (1 : Int32)) hv0
def fnX11_runs_L53 : Nat → Nat → Int32 → Int32 → Int32 → Int32 → Int32 → Int32 → Int32 → Int32 → sm_M Int32
  | 0, _, _, _, _, _, _, _, _, _ => m_fail
  | n + 1, v0, v1, v2, v3, v4, v5, v6, v7, v8 => m_br (v2 ≤ v8)
    (fnX11_runs_J105 v4 v5 v6 v7)
    (m_bnd (fnX11_peopleOnDay v0 (v1 + v8) v3) fun x65 => m_nm (v5 + x65) fun y75 => m_nm (jmin v6 x65) fun y84 => m_bnd (fnX9_missing (lk v0 7)) fun x90 => m_br (x90 = 0)
    (fnX11_runs_J99 (fnX11_runs_L53 n) v0 v1 v2 v3 v4 y75 y84 (v7 + (1 : Int32)) v8)
    (fnX11_runs_J99 (fnX11_runs_L53 n) v0 v1 v2 v3 v4 y75 y84 v7 v8))
set_option maxHeartbeats 4000000 in
set_option maxRecDepth 100000 in
theorem slX11_runs_L53 {κ : sm_X} (C : sm_C κ RX11 cX11_runs 10 8) : ∀ (n : Nat) (v0 : Nat) (v1 : Int32) (v2 : Int32) (v3 : Int32) (v4 : Int32) (v5 : Int32) (v6 : Int32) (v7 : Int32) (v8 : Int32) (hv0 : kd v0 = 11), sm_S κ (fun r : Int32 => .inr (some (.int r))) (.inl (53, [some (xad κ v0), some (.int v1), some (.int v2), some (.int v3), some (.int v4), some (.int v5), some (.int v6), some (.int v7), some (.int v8), none], [])) (fnX11_runs_L53 n v0 v1 v2 v3 v4 v5 v6 v7 v8) := by
  intro n
  induction n with
  | zero =>
    intros
    exact sr_fail
  | succ n K53 =>
    intro v0 v1 v2 v3 v4 v5 v6 v7 v8 hv0
    unfold fnX11_runs_L53
    refine sr_iload (i := 8) (q := 55) C (show decode cX11_runs 53 = .ok (.iload 8, 2) from by decide +kernel) rfl rfl ?_
    refine sr_iload_n (i := 2) (q := 56) C (show decode cX11_runs 55 = .ok (.iload_n 2, 1) from by decide +kernel) rfl rfl rfl ?_
    refine sr_icmp_ge (q := 59) C 105 (show decode cX11_runs 56 = .ok (.if_icmp .ge 49, 3) from by decide +kernel) (by decide) rfl ?_ ?_
    · refine sr_weak (L' := [none, none, none, none, some (.int v4), some (.int v5), some (.int v6), some (.int v7), none, none]) ⟨rfl, rfl, rfl, rfl, trivial⟩ ?_
      exact slX11_runs_J105 C v4 v5 v6 v7
    · refine sr_aload_n (i := 0) (q := 60) C (show decode cX11_runs 59 = .ok (.aload_n 0, 1) from by decide +kernel) rfl rfl rfl ?_
      refine sr_iload_n (i := 1) (q := 61) C (show decode cX11_runs 60 = .ok (.iload_n 1, 1) from by decide +kernel) rfl rfl rfl ?_
      refine sr_iload (i := 8) (q := 63) C (show decode cX11_runs 61 = .ok (.iload 8, 2) from by decide +kernel) rfl rfl ?_
      refine sr_iadd (q := 64) C (show decode cX11_runs 63 = .ok (.iadd, 1) from by decide +kernel) rfl ?_
      refine sr_iload_n (i := 3) (q := 65) C (show decode cX11_runs 64 = .ok (.iload_n 3, 1) from by decide +kernel) rfl rfl rfl ?_
      refine sr_cVi (As := [.int (v1 + v8), .int v3]) (st := []) (b := v0) (q := 68) C yvX11_peopleOnDay ml_X11_422 (cnX11_peopleOnDay (xo κ) v0 (v1 + v8) v3 hv0) hv0 (by decide) rfl rfl rfl (by decide) (by decide) (Nat.le_of_ble_eq_true rfl) rfl (show decode cX11_runs 65 = .ok (.invokevirtual 422, 3) from by decide +kernel) rfl (fun x65 => ?_)
      refine sr_istore (i := 9) (L' := [some (xad κ v0), some (.int v1), some (.int v2), some (.int v3), some (.int v4), some (.int v5), some (.int v6), some (.int v7), some (.int v8), some (.int x65)]) (q := 70) C (show decode cX11_runs 68 = .ok (.istore 9, 2) from by decide +kernel) (by decide) rfl rfl ?_
      refine sr_iload (i := 5) (q := 72) C (show decode cX11_runs 70 = .ok (.iload 5, 2) from by decide +kernel) rfl rfl ?_
      refine sr_iload (i := 9) (q := 74) C (show decode cX11_runs 72 = .ok (.iload 9, 2) from by decide +kernel) rfl rfl ?_
      refine sr_iadd (q := 75) C (show decode cX11_runs 74 = .ok (.iadd, 1) from by decide +kernel) rfl ?_
      refine sr_nmi (fun y75 => ?_)
      refine sr_istore (i := 5) (L' := [some (xad κ v0), some (.int v1), some (.int v2), some (.int v3), some (.int v4), some (.int y75), some (.int v6), some (.int v7), some (.int v8), some (.int x65)]) (q := 77) C (show decode cX11_runs 75 = .ok (.istore 5, 2) from by decide +kernel) (by decide) rfl rfl ?_
      refine sr_iload (i := 6) (q := 79) C (show decode cX11_runs 77 = .ok (.iload 6, 2) from by decide +kernel) rfl rfl ?_
      refine sr_iload (i := 9) (q := 81) C (show decode cX11_runs 79 = .ok (.iload 9, 2) from by decide +kernel) rfl rfl ?_
      refine sr_jmin (st := []) (q := 84) C ml_X11_365 (by decide) (Nat.le_of_ble_eq_true rfl) (show decode cX11_runs 81 = .ok (.invokestatic 365, 3) from by decide +kernel) rfl ?_
      refine sr_nmi (fun y84 => ?_)
      refine sr_istore (i := 6) (L' := [some (xad κ v0), some (.int v1), some (.int v2), some (.int v3), some (.int v4), some (.int y75), some (.int y84), some (.int v7), some (.int v8), some (.int x65)]) (q := 86) C (show decode cX11_runs 84 = .ok (.istore 6, 2) from by decide +kernel) (by decide) rfl rfl ?_
      refine sr_aload_n (i := 0) (q := 87) C (show decode cX11_runs 86 = .ok (.aload_n 0, 1) from by decide +kernel) rfl rfl rfl ?_
      refine sr_getr (q := 90) C fl_X11_40 hv0 (show decode cX11_runs 87 = .ok (.getfield 40, 3) from by decide +kernel) rfl ?_
      refine sr_cVi (As := []) (st := []) (b := lk v0 7) (q := 93) C yvX9_missing ml_X11_276 (cnX9_missing (xo κ) (lk v0 7) (kt hv0 kp_11_7)) (kt hv0 kp_11_7) (by decide) rfl rfl rfl (by decide) (by decide) (Nat.le_of_ble_eq_true rfl) rfl (show decode cX11_runs 90 = .ok (.invokevirtual 276, 3) from by decide +kernel) rfl (fun x90 => ?_)
      refine sr_if_ne (q := 96) C 99 (show decode cX11_runs 93 = .ok (.ifCond .ne 6, 3) from by decide +kernel) (by decide) rfl ?_ ?_
      · refine sr_weak (L' := [some (xad κ v0), some (.int v1), some (.int v2), some (.int v3), some (.int v4), some (.int y75), some (.int y84), some (.int v7), some (.int v8), none]) ⟨rfl, rfl, rfl, rfl, rfl, rfl, rfl, rfl, rfl, trivial⟩ ?_
        exact slX11_runs_J99 C K53 v0 v1 v2 v3 v4 y75 y84 v7 v8 hv0
      · refine sr_iinc (v := v7 + (1 : Int32)) (L' := [some (xad κ v0), some (.int v1), some (.int v2), some (.int v3), some (.int v4), some (.int y75), some (.int y84), some (.int (v7 + (1 : Int32))), some (.int v8), some (.int x65)]) (q := 99) C (show decode cX11_runs 96 = .ok (.iinc 7 1, 3) from by decide +kernel) rfl rfl (by decide) rfl rfl ?_
        refine sr_weak (L' := [some (xad κ v0), some (.int v1), some (.int v2), some (.int v3), some (.int v4), some (.int y75), some (.int y84), some (.int (v7 + (1 : Int32))), some (.int v8), none]) ⟨rfl, rfl, rfl, rfl, rfl, rfl, rfl, rfl, rfl, trivial⟩ ?_
        exact slX11_runs_J99 C K53 v0 v1 v2 v3 v4 y75 y84 (v7 + (1 : Int32)) v8 hv0
def fnX11_runs (v0 : Nat) (v1 : Int32) (v2 : Int32) (v3 : Int32) (v4 : Int32) : sm_M Int32 := m_bnd (fnX11_isSeed v1) fun x1 => m_br ((bI x1) = 0)
    (m_ret (-2 : Int32))
    (m_br (v2 < (1 : Int32))
    (m_ret (-2 : Int32))
    (m_br ((60 : Int32) < v2)
    (m_ret (-2 : Int32))
    (m_bnd (fnX11_isWay v0 v3) fun x20 => m_br ((bI x20) = 0)
    (m_ret (-2 : Int32))
    (m_br (v4 < 0)
    (m_ret (-2 : Int32))
    (m_br (v4 ≤ (2 : Int32))
    (fnX11_runs_L53 4096 v0 v1 v2 v3 v4 (0 : Int32) (8 : Int32) (0 : Int32) (0 : Int32))
    (m_ret (-2 : Int32)))))))
set_option maxHeartbeats 4000000 in
set_option maxRecDepth 100000 in
theorem slX11_runs {κ : sm_X} (C : sm_C κ RX11 cX11_runs 10 8) (v0 : Nat) (v1 : Int32) (v2 : Int32) (v3 : Int32) (v4 : Int32) (hv0 : kd v0 = 11) : sm_S κ (fun r : Int32 => .inr (some (.int r))) (.inl (0, [some (xad κ v0), some (.int v1), some (.int v2), some (.int v3), some (.int v4), none, none, none, none, none], [])) (fnX11_runs v0 v1 v2 v3 v4) := by
  unfold fnX11_runs
  refine sr_iload_n (i := 1) (q := 1) C (show decode cX11_runs 0 = .ok (.iload_n 1, 1) from by decide +kernel) rfl rfl rfl ?_
  refine sr_cSz (As := [.int v1]) (st := []) (q := 4) C ysX11_isSeed ml_X11_419 (cnX11_isSeed (xo κ) v1) rfl (by decide) (by decide) (Nat.le_of_ble_eq_true rfl) rfl (show decode cX11_runs 1 = .ok (.invokestatic 419, 3) from by decide +kernel) rfl (fun x1 => ?_)
  refine sr_if_eq (q := 7) C 37 (show decode cX11_runs 4 = .ok (.ifCond .eq 33, 3) from by decide +kernel) (by decide) rfl ?_ ?_
  · refine sr_bipush (v := (-2 : Int32)) (q := 39) C (show decode cX11_runs 37 = .ok (.bipush (-2), 2) from by decide +kernel) (by decide) rfl ?_
    exact sr_ireturn C _ rfl (show decode cX11_runs 39 = .ok (.ireturn, 1) from by decide +kernel)
  · refine sr_iload_n (i := 2) (q := 8) C (show decode cX11_runs 7 = .ok (.iload_n 2, 1) from by decide +kernel) rfl rfl rfl ?_
    refine sr_iconst (v := (1 : Int32)) (q := 9) C (show decode cX11_runs 8 = .ok (.iconst 1, 1) from by decide +kernel) (by decide) rfl ?_
    refine sr_icmp_lt (q := 12) C 37 (show decode cX11_runs 9 = .ok (.if_icmp .lt 28, 3) from by decide +kernel) (by decide) rfl ?_ ?_
    · refine sr_bipush (v := (-2 : Int32)) (q := 39) C (show decode cX11_runs 37 = .ok (.bipush (-2), 2) from by decide +kernel) (by decide) rfl ?_
      exact sr_ireturn C _ rfl (show decode cX11_runs 39 = .ok (.ireturn, 1) from by decide +kernel)
    · refine sr_iload_n (i := 2) (q := 13) C (show decode cX11_runs 12 = .ok (.iload_n 2, 1) from by decide +kernel) rfl rfl rfl ?_
      refine sr_bipush (v := (60 : Int32)) (q := 15) C (show decode cX11_runs 13 = .ok (.bipush 60, 2) from by decide +kernel) (by decide) rfl ?_
      refine sr_icmp_gt (q := 18) C 37 (show decode cX11_runs 15 = .ok (.if_icmp .gt 22, 3) from by decide +kernel) (by decide) rfl ?_ ?_
      · refine sr_bipush (v := (-2 : Int32)) (q := 39) C (show decode cX11_runs 37 = .ok (.bipush (-2), 2) from by decide +kernel) (by decide) rfl ?_
        exact sr_ireturn C _ rfl (show decode cX11_runs 39 = .ok (.ireturn, 1) from by decide +kernel)
      · refine sr_aload_n (i := 0) (q := 19) C (show decode cX11_runs 18 = .ok (.aload_n 0, 1) from by decide +kernel) rfl rfl rfl ?_
        refine sr_iload_n (i := 3) (q := 20) C (show decode cX11_runs 19 = .ok (.iload_n 3, 1) from by decide +kernel) rfl rfl rfl ?_
        refine sr_cVz (As := [.int v3]) (st := []) (b := v0) (q := 23) C yvX11_isWay ml_X11_214 (cnX11_isWay (xo κ) v0 v3 hv0) hv0 (by decide) rfl rfl rfl (by decide) (by decide) (Nat.le_of_ble_eq_true rfl) rfl (show decode cX11_runs 20 = .ok (.invokevirtual 214, 3) from by decide +kernel) rfl (fun x20 => ?_)
        refine sr_if_eq (q := 26) C 37 (show decode cX11_runs 23 = .ok (.ifCond .eq 14, 3) from by decide +kernel) (by decide) rfl ?_ ?_
        · refine sr_bipush (v := (-2 : Int32)) (q := 39) C (show decode cX11_runs 37 = .ok (.bipush (-2), 2) from by decide +kernel) (by decide) rfl ?_
          exact sr_ireturn C _ rfl (show decode cX11_runs 39 = .ok (.ireturn, 1) from by decide +kernel)
        · refine sr_iload (i := 4) (q := 28) C (show decode cX11_runs 26 = .ok (.iload 4, 2) from by decide +kernel) rfl rfl ?_
          refine sr_if_lt (q := 31) C 37 (show decode cX11_runs 28 = .ok (.ifCond .lt 9, 3) from by decide +kernel) (by decide) rfl ?_ ?_
          · refine sr_bipush (v := (-2 : Int32)) (q := 39) C (show decode cX11_runs 37 = .ok (.bipush (-2), 2) from by decide +kernel) (by decide) rfl ?_
            exact sr_ireturn C _ rfl (show decode cX11_runs 39 = .ok (.ireturn, 1) from by decide +kernel)
          · refine sr_iload (i := 4) (q := 33) C (show decode cX11_runs 31 = .ok (.iload 4, 2) from by decide +kernel) rfl rfl ?_
            refine sr_iconst (v := (2 : Int32)) (q := 34) C (show decode cX11_runs 33 = .ok (.iconst 2, 1) from by decide +kernel) (by decide) rfl ?_
            refine sr_icmp_le (q := 37) C 40 (show decode cX11_runs 34 = .ok (.if_icmp .le 6, 3) from by decide +kernel) (by decide) rfl ?_ ?_
            · refine sr_iconst (v := (0 : Int32)) (q := 41) C (show decode cX11_runs 40 = .ok (.iconst 0, 1) from by decide +kernel) (by decide) rfl ?_
              refine sr_istore (i := 5) (L' := [some (xad κ v0), some (.int v1), some (.int v2), some (.int v3), some (.int v4), some (.int (0 : Int32)), none, none, none, none]) (q := 43) C (show decode cX11_runs 41 = .ok (.istore 5, 2) from by decide +kernel) (by decide) rfl rfl ?_
              refine sr_bipush (v := (8 : Int32)) (q := 45) C (show decode cX11_runs 43 = .ok (.bipush 8, 2) from by decide +kernel) (by decide) rfl ?_
              refine sr_istore (i := 6) (L' := [some (xad κ v0), some (.int v1), some (.int v2), some (.int v3), some (.int v4), some (.int (0 : Int32)), some (.int (8 : Int32)), none, none, none]) (q := 47) C (show decode cX11_runs 45 = .ok (.istore 6, 2) from by decide +kernel) (by decide) rfl rfl ?_
              refine sr_iconst (v := (0 : Int32)) (q := 48) C (show decode cX11_runs 47 = .ok (.iconst 0, 1) from by decide +kernel) (by decide) rfl ?_
              refine sr_istore (i := 7) (L' := [some (xad κ v0), some (.int v1), some (.int v2), some (.int v3), some (.int v4), some (.int (0 : Int32)), some (.int (8 : Int32)), some (.int (0 : Int32)), none, none]) (q := 50) C (show decode cX11_runs 48 = .ok (.istore 7, 2) from by decide +kernel) (by decide) rfl rfl ?_
              refine sr_iconst (v := (0 : Int32)) (q := 51) C (show decode cX11_runs 50 = .ok (.iconst 0, 1) from by decide +kernel) (by decide) rfl ?_
              refine sr_istore (i := 8) (L' := [some (xad κ v0), some (.int v1), some (.int v2), some (.int v3), some (.int v4), some (.int (0 : Int32)), some (.int (8 : Int32)), some (.int (0 : Int32)), some (.int (0 : Int32)), none]) (q := 53) C (show decode cX11_runs 51 = .ok (.istore 8, 2) from by decide +kernel) (by decide) rfl rfl ?_
              exact slX11_runs_L53 C 4096 v0 v1 v2 v3 v4 (0 : Int32) (8 : Int32) (0 : Int32) (0 : Int32) hv0
            · refine sr_bipush (v := (-2 : Int32)) (q := 39) C (show decode cX11_runs 37 = .ok (.bipush (-2), 2) from by decide +kernel) (by decide) rfl ?_
              exact sr_ireturn C _ rfl (show decode cX11_runs 39 = .ok (.ireturn, 1) from by decide +kernel)
theorem cnX11_runs (ω : sm_O) (v0 : Nat) (v1 : Int32) (v2 : Int32) (v3 : Int32) (v4 : Int32) (hv0 : kd v0 = 11) : sm_Mt 8 yX11_runs cX11_runs 10 (some .int) ω [.ref (ω.1 + v0), .int v1, .int v2, .int v3, .int v4] (fun a => some (.int a)) (fnX11_runs v0 v1 v2 v3 v4) := by
  refine sm_conI (r := fun a => a) (by decide) (fun _ => rfl) (Nat.le_of_ble_eq_true rfl) ?_
  intro κ hκ C
  subst hκ
  exact slX11_runs C v0 v1 v2 v3 v4 hv0
def fnX11_step (v0 : Nat) (v1 : Int32) (v2 : Int32) : sm_M Int32 := m_bnd (fnX11_isPerson v0 v1) fun x2 => m_br ((bI x2) = 0)
    (m_ret (-2 : Int32))
    (m_bnd (fnX7_isPlace (lk v0 5) v2) fun x13 => m_br ((bI x13) = 0)
    (m_ret (-2 : Int32))
    (m_bnd (fnX9_takeStep (lk v0 6) v1 v2) fun x28 => m_br ((bI x28) = 0)
    (m_ret (-5 : Int32))
    (m_bnd (fnX5_forget (lk v0 11)) fun _ => m_br ((24 : Int32) ≤ v2)
    (m_ret (0 : Int32))
    (m_bnd (fnX9_leftOf (lk v0 6) v2) fun x55 => m_ret x55))))
set_option maxHeartbeats 4000000 in
set_option maxRecDepth 100000 in
theorem slX11_step {κ : sm_X} (C : sm_C κ RX11 cX11_step 3 5) (v0 : Nat) (v1 : Int32) (v2 : Int32) (hv0 : kd v0 = 11) : sm_S κ (fun r : Int32 => .inr (some (.int r))) (.inl (0, [some (xad κ v0), some (.int v1), some (.int v2)], [])) (fnX11_step v0 v1 v2) := by
  unfold fnX11_step
  refine sr_aload_n (i := 0) (q := 1) C (show decode cX11_step 0 = .ok (.aload_n 0, 1) from by decide +kernel) rfl rfl rfl ?_
  refine sr_iload_n (i := 1) (q := 2) C (show decode cX11_step 1 = .ok (.iload_n 1, 1) from by decide +kernel) rfl rfl rfl ?_
  refine sr_cVz (As := [.int v1]) (st := []) (b := v0) (q := 5) C yvX11_isPerson ml_X11_173 (cnX11_isPerson (xo κ) v0 v1 hv0) hv0 (by decide) rfl rfl rfl (by decide) (by decide) (Nat.le_of_ble_eq_true rfl) rfl (show decode cX11_step 2 = .ok (.invokevirtual 173, 3) from by decide +kernel) rfl (fun x2 => ?_)
  refine sr_if_eq (q := 8) C 19 (show decode cX11_step 5 = .ok (.ifCond .eq 14, 3) from by decide +kernel) (by decide) rfl ?_ ?_
  · refine sr_bipush (v := (-2 : Int32)) (q := 21) C (show decode cX11_step 19 = .ok (.bipush (-2), 2) from by decide +kernel) (by decide) rfl ?_
    exact sr_ireturn C _ rfl (show decode cX11_step 21 = .ok (.ireturn, 1) from by decide +kernel)
  · refine sr_aload_n (i := 0) (q := 9) C (show decode cX11_step 8 = .ok (.aload_n 0, 1) from by decide +kernel) rfl rfl rfl ?_
    refine sr_getr (q := 12) C fl_X11_27 hv0 (show decode cX11_step 9 = .ok (.getfield 27, 3) from by decide +kernel) rfl ?_
    refine sr_iload_n (i := 2) (q := 13) C (show decode cX11_step 12 = .ok (.iload_n 2, 1) from by decide +kernel) rfl rfl rfl ?_
    refine sr_cVz (As := [.int v2]) (st := []) (b := lk v0 5) (q := 16) C yvX7_isPlace ml_X11_184 (cnX7_isPlace (xo κ) (lk v0 5) v2 (kt hv0 kp_11_5)) (kt hv0 kp_11_5) (by decide) rfl rfl rfl (by decide) (by decide) (Nat.le_of_ble_eq_true rfl) rfl (show decode cX11_step 13 = .ok (.invokevirtual 184, 3) from by decide +kernel) rfl (fun x13 => ?_)
    refine sr_if_ne (q := 19) C 22 (show decode cX11_step 16 = .ok (.ifCond .ne 6, 3) from by decide +kernel) (by decide) rfl ?_ ?_
    · refine sr_aload_n (i := 0) (q := 23) C (show decode cX11_step 22 = .ok (.aload_n 0, 1) from by decide +kernel) rfl rfl rfl ?_
      refine sr_getr (q := 26) C fl_X11_36 hv0 (show decode cX11_step 23 = .ok (.getfield 36, 3) from by decide +kernel) rfl ?_
      refine sr_iload_n (i := 1) (q := 27) C (show decode cX11_step 26 = .ok (.iload_n 1, 1) from by decide +kernel) rfl rfl rfl ?_
      refine sr_iload_n (i := 2) (q := 28) C (show decode cX11_step 27 = .ok (.iload_n 2, 1) from by decide +kernel) rfl rfl rfl ?_
      refine sr_cVz (As := [.int v1, .int v2]) (st := []) (b := lk v0 6) (q := 31) C yvX9_takeStep ml_X11_224 (cnX9_takeStep (xo κ) (lk v0 6) v1 v2 (kt hv0 kp_11_6)) (kt hv0 kp_11_6) (by decide) rfl rfl rfl (by decide) (by decide) (Nat.le_of_ble_eq_true rfl) rfl (show decode cX11_step 28 = .ok (.invokevirtual 224, 3) from by decide +kernel) rfl (fun x28 => ?_)
      refine sr_if_ne (q := 34) C 37 (show decode cX11_step 31 = .ok (.ifCond .ne 6, 3) from by decide +kernel) (by decide) rfl ?_ ?_
      · refine sr_aload_n (i := 0) (q := 38) C (show decode cX11_step 37 = .ok (.aload_n 0, 1) from by decide +kernel) rfl rfl rfl ?_
        refine sr_getr (q := 41) C fl_X11_73 hv0 (show decode cX11_step 38 = .ok (.getfield 73, 3) from by decide +kernel) rfl ?_
        refine sr_cVv (As := []) (st := []) (b := lk v0 11) (q := 44) C yvX5_forget ml_X11_140 (cnX5_forget (xo κ) (lk v0 11) (kt hv0 kp_11_11)) (kt hv0 kp_11_11) (by decide) rfl rfl rfl (by decide) (by decide) (Nat.le_of_ble_eq_true rfl) rfl (show decode cX11_step 41 = .ok (.invokevirtual 140, 3) from by decide +kernel) rfl (fun _ => ?_)
        refine sr_iload_n (i := 2) (q := 45) C (show decode cX11_step 44 = .ok (.iload_n 2, 1) from by decide +kernel) rfl rfl rfl ?_
        refine sr_bipush (v := (24 : Int32)) (q := 47) C (show decode cX11_step 45 = .ok (.bipush 24, 2) from by decide +kernel) (by decide) rfl ?_
        refine sr_icmp_ge (q := 50) C 61 (show decode cX11_step 47 = .ok (.if_icmp .ge 14, 3) from by decide +kernel) (by decide) rfl ?_ ?_
        · refine sr_iconst (v := (0 : Int32)) (q := 62) C (show decode cX11_step 61 = .ok (.iconst 0, 1) from by decide +kernel) (by decide) rfl ?_
          exact sr_ireturn C _ rfl (show decode cX11_step 62 = .ok (.ireturn, 1) from by decide +kernel)
        · refine sr_aload_n (i := 0) (q := 51) C (show decode cX11_step 50 = .ok (.aload_n 0, 1) from by decide +kernel) rfl rfl rfl ?_
          refine sr_getr (q := 54) C fl_X11_36 hv0 (show decode cX11_step 51 = .ok (.getfield 36, 3) from by decide +kernel) rfl ?_
          refine sr_iload_n (i := 2) (q := 55) C (show decode cX11_step 54 = .ok (.iload_n 2, 1) from by decide +kernel) rfl rfl rfl ?_
          refine sr_cVi (As := [.int v2]) (st := []) (b := lk v0 6) (q := 58) C yvX9_leftOf ml_X11_157 (cnX9_leftOf (xo κ) (lk v0 6) v2 (kt hv0 kp_11_6)) (kt hv0 kp_11_6) (by decide) rfl rfl rfl (by decide) (by decide) (Nat.le_of_ble_eq_true rfl) rfl (show decode cX11_step 55 = .ok (.invokevirtual 157, 3) from by decide +kernel) rfl (fun x55 => ?_)
          refine sr_goto (q := 62) C (show decode cX11_step 58 = .ok (.goto 4, 3) from by decide +kernel) (by decide) ?_
          exact sr_ireturn C _ rfl (show decode cX11_step 62 = .ok (.ireturn, 1) from by decide +kernel)
      · refine sr_bipush (v := (-5 : Int32)) (q := 36) C (show decode cX11_step 34 = .ok (.bipush (-5), 2) from by decide +kernel) (by decide) rfl ?_
        exact sr_ireturn C _ rfl (show decode cX11_step 36 = .ok (.ireturn, 1) from by decide +kernel)
    · refine sr_bipush (v := (-2 : Int32)) (q := 21) C (show decode cX11_step 19 = .ok (.bipush (-2), 2) from by decide +kernel) (by decide) rfl ?_
      exact sr_ireturn C _ rfl (show decode cX11_step 21 = .ok (.ireturn, 1) from by decide +kernel)
theorem cnX11_step (ω : sm_O) (v0 : Nat) (v1 : Int32) (v2 : Int32) (hv0 : kd v0 = 11) : sm_Mt 5 yX11_step cX11_step 3 (some .int) ω [.ref (ω.1 + v0), .int v1, .int v2] (fun a => some (.int a)) (fnX11_step v0 v1 v2) := by
  refine sm_conI (r := fun a => a) (by decide) (fun _ => rfl) (Nat.le_of_ble_eq_true rfl) ?_
  intro κ hκ C
  subst hκ
  exact slX11_step C v0 v1 v2 hv0
def fnX11_stone (v0 : Nat) (v1 : Int32) (v2 : Int32) : sm_M Int32 := m_bnd (fnX11_isStone v0 v1) fun x2 => m_br ((bI x2) = 0)
    (m_ret (-2 : Int32))
    (m_br (v2 = (0 : Int32))
    (m_ai (lk (lk v0 5) 8) v1 fun x56 => m_ret x56)
    (m_br (v2 = (1 : Int32))
    (m_ai (lk (lk v0 5) 9) v1 fun x66 => m_ret x66)
    (m_br (v2 = (2 : Int32))
    (m_bnd (fnX9_leftOf (lk v0 6) v1) fun x73 => m_ret x73)
    (m_br (v2 = (3 : Int32))
    (m_ai (lk (lk v0 6) 2) v1 fun x85 => m_ret x85)
    (m_br (v2 = (4 : Int32))
    (m_bnd (fnX11_knowledgeOf v0 v1) fun x89 => m_ret x89)
    (m_ret (-2 : Int32)))))))
set_option maxHeartbeats 4000000 in
set_option maxRecDepth 100000 in
theorem slX11_stone {κ : sm_X} (C : sm_C κ RX11 cX11_stone 3 3) (v0 : Nat) (v1 : Int32) (v2 : Int32) (hv0 : kd v0 = 11) : sm_S κ (fun r : Int32 => .inr (some (.int r))) (.inl (0, [some (xad κ v0), some (.int v1), some (.int v2)], [])) (fnX11_stone v0 v1 v2) := by
  unfold fnX11_stone
  refine sr_aload_n (i := 0) (q := 1) C (show decode cX11_stone 0 = .ok (.aload_n 0, 1) from by decide +kernel) rfl rfl rfl ?_
  refine sr_iload_n (i := 1) (q := 2) C (show decode cX11_stone 1 = .ok (.iload_n 1, 1) from by decide +kernel) rfl rfl rfl ?_
  refine sr_cVz (As := [.int v1]) (st := []) (b := v0) (q := 5) C yvX11_isStone ml_X11_146 (cnX11_isStone (xo κ) v0 v1 hv0) hv0 (by decide) rfl rfl rfl (by decide) (by decide) (Nat.le_of_ble_eq_true rfl) rfl (show decode cX11_stone 2 = .ok (.invokevirtual 146, 3) from by decide +kernel) rfl (fun x2 => ?_)
  refine sr_if_ne (q := 8) C 11 (show decode cX11_stone 5 = .ok (.ifCond .ne 6, 3) from by decide +kernel) (by decide) rfl ?_ ?_
  · refine sr_iload_n (i := 2) (q := 12) C (show decode cX11_stone 11 = .ok (.iload_n 2, 1) from by decide +kernel) rfl rfl rfl ?_
    refine sr_case (fun hw0 => ?_) (fun hw0 => ?_)
    · refine sr_tabIn (q := 48) C hw0 (show decode cX11_stone 12 = .ok (.tableswitch 81 0 4 #[36, 46, 56, 65, 75], 36) from by decide +kernel) (by decide) (by decide) rfl (by decide) ?_
      refine sr_aload_n (i := 0) (q := 49) C (show decode cX11_stone 48 = .ok (.aload_n 0, 1) from by decide +kernel) rfl rfl rfl ?_
      refine sr_getr (q := 52) C fl_X11_27 hv0 (show decode cX11_stone 49 = .ok (.getfield 27, 3) from by decide +kernel) rfl ?_
      refine sr_getr (q := 55) C fl_X11_150 (kt hv0 kp_11_5) (show decode cX11_stone 52 = .ok (.getfield 150, 3) from by decide +kernel) rfl ?_
      refine sr_iload_n (i := 1) (q := 56) C (show decode cX11_stone 55 = .ok (.iload_n 1, 1) from by decide +kernel) rfl rfl rfl ?_
      refine sr_iaload (q := 57) C (kt (kt hv0 kp_11_5) kp_7_8) (show decode cX11_stone 56 = .ok (.iaload, 1) from by decide +kernel) rfl (fun x56 => ?_)
      exact sr_ireturn C _ rfl (show decode cX11_stone 57 = .ok (.ireturn, 1) from by decide +kernel)
    · refine sr_case (fun hw1 => ?_) (fun hw1 => ?_)
      · refine sr_tabIn (q := 58) C hw1 (show decode cX11_stone 12 = .ok (.tableswitch 81 0 4 #[36, 46, 56, 65, 75], 36) from by decide +kernel) (by decide) (by decide) rfl (by decide) ?_
        refine sr_aload_n (i := 0) (q := 59) C (show decode cX11_stone 58 = .ok (.aload_n 0, 1) from by decide +kernel) rfl rfl rfl ?_
        refine sr_getr (q := 62) C fl_X11_27 hv0 (show decode cX11_stone 59 = .ok (.getfield 27, 3) from by decide +kernel) rfl ?_
        refine sr_getr (q := 65) C fl_X11_154 (kt hv0 kp_11_5) (show decode cX11_stone 62 = .ok (.getfield 154, 3) from by decide +kernel) rfl ?_
        refine sr_iload_n (i := 1) (q := 66) C (show decode cX11_stone 65 = .ok (.iload_n 1, 1) from by decide +kernel) rfl rfl rfl ?_
        refine sr_iaload (q := 67) C (kt (kt hv0 kp_11_5) kp_7_9) (show decode cX11_stone 66 = .ok (.iaload, 1) from by decide +kernel) rfl (fun x66 => ?_)
        exact sr_ireturn C _ rfl (show decode cX11_stone 67 = .ok (.ireturn, 1) from by decide +kernel)
      · refine sr_case (fun hw2 => ?_) (fun hw2 => ?_)
        · refine sr_tabIn (q := 68) C hw2 (show decode cX11_stone 12 = .ok (.tableswitch 81 0 4 #[36, 46, 56, 65, 75], 36) from by decide +kernel) (by decide) (by decide) rfl (by decide) ?_
          refine sr_aload_n (i := 0) (q := 69) C (show decode cX11_stone 68 = .ok (.aload_n 0, 1) from by decide +kernel) rfl rfl rfl ?_
          refine sr_getr (q := 72) C fl_X11_36 hv0 (show decode cX11_stone 69 = .ok (.getfield 36, 3) from by decide +kernel) rfl ?_
          refine sr_iload_n (i := 1) (q := 73) C (show decode cX11_stone 72 = .ok (.iload_n 1, 1) from by decide +kernel) rfl rfl rfl ?_
          refine sr_cVi (As := [.int v1]) (st := []) (b := lk v0 6) (q := 76) C yvX9_leftOf ml_X11_157 (cnX9_leftOf (xo κ) (lk v0 6) v1 (kt hv0 kp_11_6)) (kt hv0 kp_11_6) (by decide) rfl rfl rfl (by decide) (by decide) (Nat.le_of_ble_eq_true rfl) rfl (show decode cX11_stone 73 = .ok (.invokevirtual 157, 3) from by decide +kernel) rfl (fun x73 => ?_)
          exact sr_ireturn C _ rfl (show decode cX11_stone 76 = .ok (.ireturn, 1) from by decide +kernel)
        · refine sr_case (fun hw3 => ?_) (fun hw3 => ?_)
          · refine sr_tabIn (q := 77) C hw3 (show decode cX11_stone 12 = .ok (.tableswitch 81 0 4 #[36, 46, 56, 65, 75], 36) from by decide +kernel) (by decide) (by decide) rfl (by decide) ?_
            refine sr_aload_n (i := 0) (q := 78) C (show decode cX11_stone 77 = .ok (.aload_n 0, 1) from by decide +kernel) rfl rfl rfl ?_
            refine sr_getr (q := 81) C fl_X11_36 hv0 (show decode cX11_stone 78 = .ok (.getfield 36, 3) from by decide +kernel) rfl ?_
            refine sr_getr (q := 84) C fl_X11_161 (kt hv0 kp_11_6) (show decode cX11_stone 81 = .ok (.getfield 161, 3) from by decide +kernel) rfl ?_
            refine sr_iload_n (i := 1) (q := 85) C (show decode cX11_stone 84 = .ok (.iload_n 1, 1) from by decide +kernel) rfl rfl rfl ?_
            refine sr_iaload (q := 86) C (kt (kt hv0 kp_11_6) kp_9_2) (show decode cX11_stone 85 = .ok (.iaload, 1) from by decide +kernel) rfl (fun x85 => ?_)
            exact sr_ireturn C _ rfl (show decode cX11_stone 86 = .ok (.ireturn, 1) from by decide +kernel)
          · refine sr_case (fun hw4 => ?_) (fun hw4 => ?_)
            · refine sr_tabIn (q := 87) C hw4 (show decode cX11_stone 12 = .ok (.tableswitch 81 0 4 #[36, 46, 56, 65, 75], 36) from by decide +kernel) (by decide) (by decide) rfl (by decide) ?_
              refine sr_aload_n (i := 0) (q := 88) C (show decode cX11_stone 87 = .ok (.aload_n 0, 1) from by decide +kernel) rfl rfl rfl ?_
              refine sr_iload_n (i := 1) (q := 89) C (show decode cX11_stone 88 = .ok (.iload_n 1, 1) from by decide +kernel) rfl rfl rfl ?_
              refine sr_cVi (As := [.int v1]) (st := []) (b := v0) (q := 92) C yvX11_knowledgeOf ml_X11_164 (cnX11_knowledgeOf (xo κ) v0 v1 hv0) hv0 (by decide) rfl rfl rfl (by decide) (by decide) (Nat.le_of_ble_eq_true rfl) rfl (show decode cX11_stone 89 = .ok (.invokevirtual 164, 3) from by decide +kernel) rfl (fun x89 => ?_)
              exact sr_ireturn C _ rfl (show decode cX11_stone 92 = .ok (.ireturn, 1) from by decide +kernel)
            · refine sr_tabOut (q := 93) C (sw5_out hw0 hw1 hw2 hw3 hw4) (show decode cX11_stone 12 = .ok (.tableswitch 81 0 4 #[36, 46, 56, 65, 75], 36) from by decide +kernel) (by decide) ?_
              refine sr_bipush (v := (-2 : Int32)) (q := 95) C (show decode cX11_stone 93 = .ok (.bipush (-2), 2) from by decide +kernel) (by decide) rfl ?_
              exact sr_ireturn C _ rfl (show decode cX11_stone 95 = .ok (.ireturn, 1) from by decide +kernel)
  · refine sr_bipush (v := (-2 : Int32)) (q := 10) C (show decode cX11_stone 8 = .ok (.bipush (-2), 2) from by decide +kernel) (by decide) rfl ?_
    exact sr_ireturn C _ rfl (show decode cX11_stone 10 = .ok (.ireturn, 1) from by decide +kernel)
theorem cnX11_stone (ω : sm_O) (v0 : Nat) (v1 : Int32) (v2 : Int32) (hv0 : kd v0 = 11) : sm_Mt 3 yX11_stone cX11_stone 3 (some .int) ω [.ref (ω.1 + v0), .int v1, .int v2] (fun a => some (.int a)) (fnX11_stone v0 v1 v2) := by
  refine sm_conI (r := fun a => a) (by decide) (fun _ => rfl) (Nat.le_of_ble_eq_true rfl) ?_
  intro κ hκ C
  subst hκ
  exact slX11_stone C v0 v1 v2 hv0
def fnX11_sure (v0 : Nat) (v1 : Int32) (v2 : Int32) : sm_M Int64 := m_bnd (fnX11_isStride v0 v1) fun x2 => m_br ((bI x2) = 0)
    (m_ret (-2 : Int64))
    (m_bnd (fnX11_isWeight v2) fun x9 => m_br ((bI x9) = 0)
    (m_ret (-2 : Int64))
    (m_bnd (fnX1_chance (lk v0 12) (lk v0 6) v1 v2) fun x29 => m_ret x29))
set_option maxHeartbeats 4000000 in
set_option maxRecDepth 100000 in
theorem slX11_sure {κ : sm_X} (C : sm_C κ RX11 cX11_sure 3 5) (v0 : Nat) (v1 : Int32) (v2 : Int32) (hv0 : kd v0 = 11) : sm_S κ (fun r : Int64 => .inr (some (.long r))) (.inl (0, [some (xad κ v0), some (.int v1), some (.int v2)], [])) (fnX11_sure v0 v1 v2) := by
  unfold fnX11_sure
  refine sr_aload_n (i := 0) (q := 1) C (show decode cX11_sure 0 = .ok (.aload_n 0, 1) from by decide +kernel) rfl rfl rfl ?_
  refine sr_iload_n (i := 1) (q := 2) C (show decode cX11_sure 1 = .ok (.iload_n 1, 1) from by decide +kernel) rfl rfl rfl ?_
  refine sr_cVz (As := [.int v1]) (st := []) (b := v0) (q := 5) C yvX11_isStride ml_X11_187 (cnX11_isStride (xo κ) v0 v1 hv0) hv0 (by decide) rfl rfl rfl (by decide) (by decide) (Nat.le_of_ble_eq_true rfl) rfl (show decode cX11_sure 2 = .ok (.invokevirtual 187, 3) from by decide +kernel) rfl (fun x2 => ?_)
  refine sr_if_eq (q := 8) C 15 (show decode cX11_sure 5 = .ok (.ifCond .eq 10, 3) from by decide +kernel) (by decide) rfl ?_ ?_
  · refine sr_ldc2 (q := 18) C co_X11_386 (show decode cX11_sure 15 = .ok (.ldc2_w 386, 3) from by decide +kernel) rfl ?_
    exact sr_lreturn C _ rfl (show decode cX11_sure 18 = .ok (.lreturn, 1) from by decide +kernel)
  · refine sr_iload_n (i := 2) (q := 9) C (show decode cX11_sure 8 = .ok (.iload_n 2, 1) from by decide +kernel) rfl rfl rfl ?_
    refine sr_cSz (As := [.int v2]) (st := []) (q := 12) C ysX11_isWeight ml_X11_211 (cnX11_isWeight (xo κ) v2) rfl (by decide) (by decide) (Nat.le_of_ble_eq_true rfl) rfl (show decode cX11_sure 9 = .ok (.invokestatic 211, 3) from by decide +kernel) rfl (fun x9 => ?_)
    refine sr_if_ne (q := 15) C 19 (show decode cX11_sure 12 = .ok (.ifCond .ne 7, 3) from by decide +kernel) (by decide) rfl ?_ ?_
    · refine sr_aload_n (i := 0) (q := 20) C (show decode cX11_sure 19 = .ok (.aload_n 0, 1) from by decide +kernel) rfl rfl rfl ?_
      refine sr_getr (q := 23) C fl_X11_80 hv0 (show decode cX11_sure 20 = .ok (.getfield 80, 3) from by decide +kernel) rfl ?_
      refine sr_aload_n (i := 0) (q := 24) C (show decode cX11_sure 23 = .ok (.aload_n 0, 1) from by decide +kernel) rfl rfl rfl ?_
      refine sr_getr (q := 27) C fl_X11_36 hv0 (show decode cX11_sure 24 = .ok (.getfield 36, 3) from by decide +kernel) rfl ?_
      refine sr_iload_n (i := 1) (q := 28) C (show decode cX11_sure 27 = .ok (.iload_n 1, 1) from by decide +kernel) rfl rfl rfl ?_
      refine sr_iload_n (i := 2) (q := 29) C (show decode cX11_sure 28 = .ok (.iload_n 2, 1) from by decide +kernel) rfl rfl rfl ?_
      refine sr_cVl (As := [xad κ (lk v0 6), .int v1, .int v2]) (st := []) (b := lk v0 12) (q := 32) C yvX1_chance ml_X11_388 (cnX1_chance (xo κ) (lk v0 12) (lk v0 6) v1 v2 (kt hv0 kp_11_12) (kt hv0 kp_11_6)) (kt hv0 kp_11_12) (by decide) rfl rfl rfl (by decide) (by decide) (Nat.le_of_ble_eq_true rfl) rfl (show decode cX11_sure 29 = .ok (.invokevirtual 388, 3) from by decide +kernel) rfl (fun x29 => ?_)
      exact sr_lreturn C _ rfl (show decode cX11_sure 32 = .ok (.lreturn, 1) from by decide +kernel)
    · refine sr_ldc2 (q := 18) C co_X11_386 (show decode cX11_sure 15 = .ok (.ldc2_w 386, 3) from by decide +kernel) rfl ?_
      exact sr_lreturn C _ rfl (show decode cX11_sure 18 = .ok (.lreturn, 1) from by decide +kernel)
theorem cnX11_sure (ω : sm_O) (v0 : Nat) (v1 : Int32) (v2 : Int32) (hv0 : kd v0 = 11) : sm_Mt 5 yX11_sure cX11_sure 3 (some .long) ω [.ref (ω.1 + v0), .int v1, .int v2] (fun a => some (.long a)) (fnX11_sure v0 v1 v2) := by
  refine sm_conL (r := fun a => a) (by decide) (Nat.le_of_ble_eq_true rfl) ?_
  intro κ hκ C
  subst hκ
  exact slX11_sure C v0 v1 v2 hv0
def fnX11_tread (v0 : Nat) (v1 : Int32) (v2 : Int32) (v3 : Int32) : sm_M Int64 := m_bnd (fnX11_isStone v0 v1) fun x2 => m_br ((bI x2) = 0)
    (m_ret (-2 : Int64))
    (m_bnd (fnX11_isStride v0 v2) fun x10 => m_br ((bI x10) = 0)
    (m_ret (-2 : Int64))
    (m_bnd (fnX11_isWeight v3) fun x17 => m_br ((bI x17) = 0)
    (m_ret (-2 : Int64))
    (m_bnd (fnX9_inDoubt (lk v0 6) v1) fun x32 => m_br ((bI x32) = 0)
    (m_ret (0 : Int64))
    (m_bnd (fnX11_treadOf v0 v1 v2 v3) fun x42 => m_ret x42))))
set_option maxHeartbeats 4000000 in
set_option maxRecDepth 100000 in
theorem slX11_tread {κ : sm_X} (C : sm_C κ RX11 cX11_tread 4 6) (v0 : Nat) (v1 : Int32) (v2 : Int32) (v3 : Int32) (hv0 : kd v0 = 11) : sm_S κ (fun r : Int64 => .inr (some (.long r))) (.inl (0, [some (xad κ v0), some (.int v1), some (.int v2), some (.int v3)], [])) (fnX11_tread v0 v1 v2 v3) := by
  unfold fnX11_tread
  refine sr_aload_n (i := 0) (q := 1) C (show decode cX11_tread 0 = .ok (.aload_n 0, 1) from by decide +kernel) rfl rfl rfl ?_
  refine sr_iload_n (i := 1) (q := 2) C (show decode cX11_tread 1 = .ok (.iload_n 1, 1) from by decide +kernel) rfl rfl rfl ?_
  refine sr_cVz (As := [.int v1]) (st := []) (b := v0) (q := 5) C yvX11_isStone ml_X11_146 (cnX11_isStone (xo κ) v0 v1 hv0) hv0 (by decide) rfl rfl rfl (by decide) (by decide) (Nat.le_of_ble_eq_true rfl) rfl (show decode cX11_tread 2 = .ok (.invokevirtual 146, 3) from by decide +kernel) rfl (fun x2 => ?_)
  refine sr_if_eq (q := 8) C 23 (show decode cX11_tread 5 = .ok (.ifCond .eq 18, 3) from by decide +kernel) (by decide) rfl ?_ ?_
  · refine sr_ldc2 (q := 26) C co_X11_386 (show decode cX11_tread 23 = .ok (.ldc2_w 386, 3) from by decide +kernel) rfl ?_
    exact sr_lreturn C _ rfl (show decode cX11_tread 26 = .ok (.lreturn, 1) from by decide +kernel)
  · refine sr_aload_n (i := 0) (q := 9) C (show decode cX11_tread 8 = .ok (.aload_n 0, 1) from by decide +kernel) rfl rfl rfl ?_
    refine sr_iload_n (i := 2) (q := 10) C (show decode cX11_tread 9 = .ok (.iload_n 2, 1) from by decide +kernel) rfl rfl rfl ?_
    refine sr_cVz (As := [.int v2]) (st := []) (b := v0) (q := 13) C yvX11_isStride ml_X11_187 (cnX11_isStride (xo κ) v0 v2 hv0) hv0 (by decide) rfl rfl rfl (by decide) (by decide) (Nat.le_of_ble_eq_true rfl) rfl (show decode cX11_tread 10 = .ok (.invokevirtual 187, 3) from by decide +kernel) rfl (fun x10 => ?_)
    refine sr_if_eq (q := 16) C 23 (show decode cX11_tread 13 = .ok (.ifCond .eq 10, 3) from by decide +kernel) (by decide) rfl ?_ ?_
    · refine sr_ldc2 (q := 26) C co_X11_386 (show decode cX11_tread 23 = .ok (.ldc2_w 386, 3) from by decide +kernel) rfl ?_
      exact sr_lreturn C _ rfl (show decode cX11_tread 26 = .ok (.lreturn, 1) from by decide +kernel)
    · refine sr_iload_n (i := 3) (q := 17) C (show decode cX11_tread 16 = .ok (.iload_n 3, 1) from by decide +kernel) rfl rfl rfl ?_
      refine sr_cSz (As := [.int v3]) (st := []) (q := 20) C ysX11_isWeight ml_X11_211 (cnX11_isWeight (xo κ) v3) rfl (by decide) (by decide) (Nat.le_of_ble_eq_true rfl) rfl (show decode cX11_tread 17 = .ok (.invokestatic 211, 3) from by decide +kernel) rfl (fun x17 => ?_)
      refine sr_if_ne (q := 23) C 27 (show decode cX11_tread 20 = .ok (.ifCond .ne 7, 3) from by decide +kernel) (by decide) rfl ?_ ?_
      · refine sr_aload_n (i := 0) (q := 28) C (show decode cX11_tread 27 = .ok (.aload_n 0, 1) from by decide +kernel) rfl rfl rfl ?_
        refine sr_getr (q := 31) C fl_X11_36 hv0 (show decode cX11_tread 28 = .ok (.getfield 36, 3) from by decide +kernel) rfl ?_
        refine sr_iload_n (i := 1) (q := 32) C (show decode cX11_tread 31 = .ok (.iload_n 1, 1) from by decide +kernel) rfl rfl rfl ?_
        refine sr_cVz (As := [.int v1]) (st := []) (b := lk v0 6) (q := 35) C yvX9_inDoubt ml_X11_167 (cnX9_inDoubt (xo κ) (lk v0 6) v1 (kt hv0 kp_11_6)) (kt hv0 kp_11_6) (by decide) rfl rfl rfl (by decide) (by decide) (Nat.le_of_ble_eq_true rfl) rfl (show decode cX11_tread 32 = .ok (.invokevirtual 167, 3) from by decide +kernel) rfl (fun x32 => ?_)
        refine sr_if_eq (q := 38) C 48 (show decode cX11_tread 35 = .ok (.ifCond .eq 13, 3) from by decide +kernel) (by decide) rfl ?_ ?_
        · refine sr_lconst (v := (0 : Int64)) (q := 49) C (show decode cX11_tread 48 = .ok (.lconst 0, 1) from by decide +kernel) (by decide) rfl ?_
          exact sr_lreturn C _ rfl (show decode cX11_tread 49 = .ok (.lreturn, 1) from by decide +kernel)
        · refine sr_aload_n (i := 0) (q := 39) C (show decode cX11_tread 38 = .ok (.aload_n 0, 1) from by decide +kernel) rfl rfl rfl ?_
          refine sr_iload_n (i := 1) (q := 40) C (show decode cX11_tread 39 = .ok (.iload_n 1, 1) from by decide +kernel) rfl rfl rfl ?_
          refine sr_iload_n (i := 2) (q := 41) C (show decode cX11_tread 40 = .ok (.iload_n 2, 1) from by decide +kernel) rfl rfl rfl ?_
          refine sr_iload_n (i := 3) (q := 42) C (show decode cX11_tread 41 = .ok (.iload_n 3, 1) from by decide +kernel) rfl rfl rfl ?_
          refine sr_cVl (As := [.int v1, .int v2, .int v3]) (st := []) (b := v0) (q := 45) C yvX11_treadOf ml_X11_392 (cnX11_treadOf (xo κ) v0 v1 v2 v3 hv0) hv0 (by decide) rfl rfl rfl (by decide) (by decide) (Nat.le_of_ble_eq_true rfl) rfl (show decode cX11_tread 42 = .ok (.invokevirtual 392, 3) from by decide +kernel) rfl (fun x42 => ?_)
          refine sr_goto (q := 49) C (show decode cX11_tread 45 = .ok (.goto 4, 3) from by decide +kernel) (by decide) ?_
          exact sr_lreturn C _ rfl (show decode cX11_tread 49 = .ok (.lreturn, 1) from by decide +kernel)
      · refine sr_ldc2 (q := 26) C co_X11_386 (show decode cX11_tread 23 = .ok (.ldc2_w 386, 3) from by decide +kernel) rfl ?_
        exact sr_lreturn C _ rfl (show decode cX11_tread 26 = .ok (.lreturn, 1) from by decide +kernel)
theorem cnX11_tread (ω : sm_O) (v0 : Nat) (v1 : Int32) (v2 : Int32) (v3 : Int32) (hv0 : kd v0 = 11) : sm_Mt 6 yX11_tread cX11_tread 4 (some .long) ω [.ref (ω.1 + v0), .int v1, .int v2, .int v3] (fun a => some (.long a)) (fnX11_tread v0 v1 v2 v3) := by
  refine sm_conL (r := fun a => a) (by decide) (Nat.le_of_ble_eq_true rfl) ?_
  intro κ hκ C
  subst hκ
  exact slX11_tread C v0 v1 v2 v3 hv0
def fnX8_meets_L2 : Nat → Nat → Nat → Int32 → Int32 → sm_M Bool
  | 0, _, _, _, _ => m_fail
  | n + 1, v0, v1, v2, v3 => m_gi v1 2 fun x4 => m_br (x4 ≤ v3)
    (m_ret false)
    (m_gi v0 2 fun x14 => m_br (x14 ≤ (v3 + v2))
    (m_ret false)
    (m_al (lk v0 3) (v3 + v2) fun x27 => m_al (lk v1 3) v3 fun x33 => m_br ((lg_cmp x27 x33) = 0)
    (m_ret true)
    ((fnX8_meets_L2 n) v0 v1 v2 (v3 + (1 : Int32)))))
set_option maxHeartbeats 4000000 in
set_option maxRecDepth 100000 in
theorem slX8_meets_L2 {κ : sm_X} (C : sm_C κ RX8 cX8_meets 4 1) : ∀ (n : Nat) (v0 : Nat) (v1 : Nat) (v2 : Int32) (v3 : Int32) (hv0 : kd v0 = 8) (hv1 : kd v1 = 8), sm_S κ (fun r : Bool => .inr (some (.int (bI r)))) (.inl (2, [some (xad κ v0), some (xad κ v1), some (.int v2), some (.int v3)], [])) (fnX8_meets_L2 n v0 v1 v2 v3) := by
  intro n
  induction n with
  | zero =>
    intros
    exact sr_fail
  | succ n K2 =>
    intro v0 v1 v2 v3 hv0 hv1
    unfold fnX8_meets_L2
    refine sr_iload_n (i := 3) (q := 3) C (show decode cX8_meets 2 = .ok (.iload_n 3, 1) from by decide +kernel) rfl rfl rfl ?_
    refine sr_aload_n (i := 1) (q := 4) C (show decode cX8_meets 3 = .ok (.aload_n 1, 1) from by decide +kernel) rfl rfl rfl ?_
    refine sr_geti (q := 7) C fl_X8_23 (Or.inl rfl) hv1 (show decode cX8_meets 4 = .ok (.getfield 23, 3) from by decide +kernel) rfl (fun x4 => ?_)
    refine sr_icmp_ge (q := 10) C 46 (show decode cX8_meets 7 = .ok (.if_icmp .ge 39, 3) from by decide +kernel) (by decide) rfl ?_ ?_
    · refine sr_iconst (v := (0 : Int32)) (q := 47) C (show decode cX8_meets 46 = .ok (.iconst 0, 1) from by decide +kernel) (by decide) rfl ?_
      exact sr_ireturn C false rfl (show decode cX8_meets 47 = .ok (.ireturn, 1) from by decide +kernel)
    · refine sr_iload_n (i := 3) (q := 11) C (show decode cX8_meets 10 = .ok (.iload_n 3, 1) from by decide +kernel) rfl rfl rfl ?_
      refine sr_iload_n (i := 2) (q := 12) C (show decode cX8_meets 11 = .ok (.iload_n 2, 1) from by decide +kernel) rfl rfl rfl ?_
      refine sr_iadd (q := 13) C (show decode cX8_meets 12 = .ok (.iadd, 1) from by decide +kernel) rfl ?_
      refine sr_aload_n (i := 0) (q := 14) C (show decode cX8_meets 13 = .ok (.aload_n 0, 1) from by decide +kernel) rfl rfl rfl ?_
      refine sr_geti (q := 17) C fl_X8_23 (Or.inl rfl) hv0 (show decode cX8_meets 14 = .ok (.getfield 23, 3) from by decide +kernel) rfl (fun x14 => ?_)
      refine sr_icmp_ge (q := 20) C 46 (show decode cX8_meets 17 = .ok (.if_icmp .ge 29, 3) from by decide +kernel) (by decide) rfl ?_ ?_
      · refine sr_iconst (v := (0 : Int32)) (q := 47) C (show decode cX8_meets 46 = .ok (.iconst 0, 1) from by decide +kernel) (by decide) rfl ?_
        exact sr_ireturn C false rfl (show decode cX8_meets 47 = .ok (.ireturn, 1) from by decide +kernel)
      · refine sr_aload_n (i := 0) (q := 21) C (show decode cX8_meets 20 = .ok (.aload_n 0, 1) from by decide +kernel) rfl rfl rfl ?_
        refine sr_getr (q := 24) C fl_X8_9 hv0 (show decode cX8_meets 21 = .ok (.getfield 9, 3) from by decide +kernel) rfl ?_
        refine sr_iload_n (i := 3) (q := 25) C (show decode cX8_meets 24 = .ok (.iload_n 3, 1) from by decide +kernel) rfl rfl rfl ?_
        refine sr_iload_n (i := 2) (q := 26) C (show decode cX8_meets 25 = .ok (.iload_n 2, 1) from by decide +kernel) rfl rfl rfl ?_
        refine sr_iadd (q := 27) C (show decode cX8_meets 26 = .ok (.iadd, 1) from by decide +kernel) rfl ?_
        refine sr_laload (q := 28) C (kt hv0 kp_8_3) (show decode cX8_meets 27 = .ok (.laload, 1) from by decide +kernel) rfl (fun x27 => ?_)
        refine sr_aload_n (i := 1) (q := 29) C (show decode cX8_meets 28 = .ok (.aload_n 1, 1) from by decide +kernel) rfl rfl rfl ?_
        refine sr_getr (q := 32) C fl_X8_9 hv1 (show decode cX8_meets 29 = .ok (.getfield 9, 3) from by decide +kernel) rfl ?_
        refine sr_iload_n (i := 3) (q := 33) C (show decode cX8_meets 32 = .ok (.iload_n 3, 1) from by decide +kernel) rfl rfl rfl ?_
        refine sr_laload (q := 34) C (kt hv1 kp_8_3) (show decode cX8_meets 33 = .ok (.laload, 1) from by decide +kernel) rfl (fun x33 => ?_)
        refine sr_lcmp (q := 35) C (show decode cX8_meets 34 = .ok (.lcmp, 1) from by decide +kernel) rfl ?_
        refine sr_if_ne (q := 38) C 40 (show decode cX8_meets 35 = .ok (.ifCond .ne 5, 3) from by decide +kernel) (by decide) rfl ?_ ?_
        · refine sr_iinc (v := v3 + (1 : Int32)) (L' := [some (xad κ v0), some (xad κ v1), some (.int v2), some (.int (v3 + (1 : Int32)))]) (q := 43) C (show decode cX8_meets 40 = .ok (.iinc 3 1, 3) from by decide +kernel) rfl rfl (by decide) rfl rfl ?_
          refine sr_goto (q := 2) C (show decode cX8_meets 43 = .ok (.goto (-41), 3) from by decide +kernel) (by decide) ?_
          exact K2 v0 v1 v2 (v3 + (1 : Int32)) hv0 hv1
        · refine sr_iconst (v := (1 : Int32)) (q := 39) C (show decode cX8_meets 38 = .ok (.iconst 1, 1) from by decide +kernel) (by decide) rfl ?_
          exact sr_ireturn C true rfl (show decode cX8_meets 39 = .ok (.ireturn, 1) from by decide +kernel)
def fnX8_meets (v0 : Nat) (v1 : Nat) (v2 : Int32) : sm_M Bool := fnX8_meets_L2 4096 v0 v1 v2 (0 : Int32)
set_option maxHeartbeats 4000000 in
set_option maxRecDepth 100000 in
theorem slX8_meets {κ : sm_X} (C : sm_C κ RX8 cX8_meets 4 1) (v0 : Nat) (v1 : Nat) (v2 : Int32) (hv0 : kd v0 = 8) (hv1 : kd v1 = 8) : sm_S κ (fun r : Bool => .inr (some (.int (bI r)))) (.inl (0, [some (xad κ v0), some (xad κ v1), some (.int v2), none], [])) (fnX8_meets v0 v1 v2) := by
  unfold fnX8_meets
  refine sr_iconst (v := (0 : Int32)) (q := 1) C (show decode cX8_meets 0 = .ok (.iconst 0, 1) from by decide +kernel) (by decide) rfl ?_
  refine sr_istore_n (i := 3) (L' := [some (xad κ v0), some (xad κ v1), some (.int v2), some (.int (0 : Int32))]) (q := 2) C (show decode cX8_meets 1 = .ok (.istore_n 3, 1) from by decide +kernel) rfl (by decide) rfl rfl ?_
  exact slX8_meets_L2 C 4096 v0 v1 v2 (0 : Int32) hv0 hv1
theorem cnX8_meets (ω : sm_O) (v0 : Nat) (v1 : Nat) (v2 : Int32) (hv0 : kd v0 = 8) (hv1 : kd v1 = 8) : sm_Mt 1 yX8_meets cX8_meets 4 (some .boolean) ω [.ref (ω.1 + v0), .ref (ω.1 + v1), .int v2] (fun a => some (.int (bI a))) (fnX8_meets v0 v1 v2) := by
  refine sm_conI (r := bI) (by decide) bI_nar (Nat.le_of_ble_eq_true rfl) ?_
  intro κ hκ C
  subst hκ
  exact slX8_meets C v0 v1 v2 hv0 hv1
def fnX11_waits_L16 : Nat → Nat → Int32 → Int32 → Int32 → sm_M Int32
  | 0, _, _, _, _ => m_fail
  | n + 1, v0, v1, v2, v4 => m_br ((60 : Int32) < v4)
    (m_ret (-1 : Int32))
    (m_ap (lk v0 14) v1 fun x28 => m_ap (lk v0 14) v2 fun x34 => m_bnd (fnX8_meets x28 x34 v4) fun x37 => m_br ((bI x37) = 0)
    (m_ret v4)
    ((fnX11_waits_L16 n) v0 v1 v2 (v4 + (1 : Int32))))
set_option maxHeartbeats 4000000 in
set_option maxRecDepth 100000 in
theorem slX11_waits_L16 {κ : sm_X} (C : sm_C κ RX11 cX11_waits 5 3) : ∀ (n : Nat) (v0 : Nat) (v1 : Int32) (v2 : Int32) (v4 : Int32) (hv0 : kd v0 = 11), sm_S κ (fun r : Int32 => .inr (some (.int r))) (.inl (16, [some (xad κ v0), some (.int v1), some (.int v2), none, some (.int v4)], [])) (fnX11_waits_L16 n v0 v1 v2 v4) := by
  intro n
  induction n with
  | zero =>
    intros
    exact sr_fail
  | succ n K16 =>
    intro v0 v1 v2 v4 hv0
    unfold fnX11_waits_L16
    refine sr_iload (i := 4) (q := 18) C (show decode cX11_waits 16 = .ok (.iload 4, 2) from by decide +kernel) rfl rfl ?_
    refine sr_bipush (v := (60 : Int32)) (q := 20) C (show decode cX11_waits 18 = .ok (.bipush 60, 2) from by decide +kernel) (by decide) rfl ?_
    refine sr_icmp_gt (q := 23) C 52 (show decode cX11_waits 20 = .ok (.if_icmp .gt 32, 3) from by decide +kernel) (by decide) rfl ?_ ?_
    · refine sr_iconst (v := (-1 : Int32)) (q := 53) C (show decode cX11_waits 52 = .ok (.iconst (-1), 1) from by decide +kernel) (by decide) rfl ?_
      exact sr_ireturn C _ rfl (show decode cX11_waits 53 = .ok (.ireturn, 1) from by decide +kernel)
    · refine sr_aload_n (i := 0) (q := 24) C (show decode cX11_waits 23 = .ok (.aload_n 0, 1) from by decide +kernel) rfl rfl rfl ?_
      refine sr_getr (q := 27) C fl_X11_93 hv0 (show decode cX11_waits 24 = .ok (.getfield 93, 3) from by decide +kernel) rfl ?_
      refine sr_iload_n (i := 1) (q := 28) C (show decode cX11_waits 27 = .ok (.iload_n 1, 1) from by decide +kernel) rfl rfl rfl ?_
      refine sr_aaload (t0 := 5) (q := 29) C (kt hv0 kp_11_14) (Or.inr (Or.inl rfl)) rfl (show decode cX11_waits 28 = .ok (.aaload, 1) from by decide +kernel) rfl (fun x28 hx28 => ?_)
      refine sr_aload_n (i := 0) (q := 30) C (show decode cX11_waits 29 = .ok (.aload_n 0, 1) from by decide +kernel) rfl rfl rfl ?_
      refine sr_getr (q := 33) C fl_X11_93 hv0 (show decode cX11_waits 30 = .ok (.getfield 93, 3) from by decide +kernel) rfl ?_
      refine sr_iload_n (i := 2) (q := 34) C (show decode cX11_waits 33 = .ok (.iload_n 2, 1) from by decide +kernel) rfl rfl rfl ?_
      refine sr_aaload (t0 := 5) (q := 35) C (kt hv0 kp_11_14) (Or.inr (Or.inl rfl)) rfl (show decode cX11_waits 34 = .ok (.aaload, 1) from by decide +kernel) rfl (fun x34 hx34 => ?_)
      refine sr_iload (i := 4) (q := 37) C (show decode cX11_waits 35 = .ok (.iload 4, 2) from by decide +kernel) rfl rfl ?_
      refine sr_cVz (As := [xad κ x34, .int v4]) (st := []) (b := x28) (q := 40) C yvX8_meets ml_X11_410 (cnX8_meets (xo κ) x28 x34 v4 hx28 hx34) hx28 (by decide) rfl rfl rfl (by decide) (by decide) (Nat.le_of_ble_eq_true rfl) rfl (show decode cX11_waits 37 = .ok (.invokevirtual 410, 3) from by decide +kernel) rfl (fun x37 => ?_)
      refine sr_if_ne (q := 43) C 46 (show decode cX11_waits 40 = .ok (.ifCond .ne 6, 3) from by decide +kernel) (by decide) rfl ?_ ?_
      · refine sr_iinc (v := v4 + (1 : Int32)) (L' := [some (xad κ v0), some (.int v1), some (.int v2), none, some (.int (v4 + (1 : Int32)))]) (q := 49) C (show decode cX11_waits 46 = .ok (.iinc 4 1, 3) from by decide +kernel) rfl rfl (by decide) rfl rfl ?_
        refine sr_goto (q := 16) C (show decode cX11_waits 49 = .ok (.goto (-33), 3) from by decide +kernel) (by decide) ?_
        exact K16 v0 v1 v2 (v4 + (1 : Int32)) hv0
      · refine sr_iload (i := 4) (q := 45) C (show decode cX11_waits 43 = .ok (.iload 4, 2) from by decide +kernel) rfl rfl ?_
        exact sr_ireturn C _ rfl (show decode cX11_waits 45 = .ok (.ireturn, 1) from by decide +kernel)
def fnX11_waits (v0 : Nat) (v1 : Int32) (v2 : Int32) : sm_M Int32 := m_bnd (fnX11_wrongRows v0 v1 v2) fun x3 => m_br (x3 = 0)
    (fnX11_waits_L16 4096 v0 v1 v2 (0 : Int32))
    (m_ret x3)
set_option maxHeartbeats 4000000 in
set_option maxRecDepth 100000 in
theorem slX11_waits {κ : sm_X} (C : sm_C κ RX11 cX11_waits 5 3) (v0 : Nat) (v1 : Int32) (v2 : Int32) (hv0 : kd v0 = 11) : sm_S κ (fun r : Int32 => .inr (some (.int r))) (.inl (0, [some (xad κ v0), some (.int v1), some (.int v2), none, none], [])) (fnX11_waits v0 v1 v2) := by
  unfold fnX11_waits
  refine sr_aload_n (i := 0) (q := 1) C (show decode cX11_waits 0 = .ok (.aload_n 0, 1) from by decide +kernel) rfl rfl rfl ?_
  refine sr_iload_n (i := 1) (q := 2) C (show decode cX11_waits 1 = .ok (.iload_n 1, 1) from by decide +kernel) rfl rfl rfl ?_
  refine sr_iload_n (i := 2) (q := 3) C (show decode cX11_waits 2 = .ok (.iload_n 2, 1) from by decide +kernel) rfl rfl rfl ?_
  refine sr_cVi (As := [.int v1, .int v2]) (st := []) (b := v0) (q := 6) C yvX11_wrongRows ml_X11_407 (cnX11_wrongRows (xo κ) v0 v1 v2 hv0) hv0 (by decide) rfl rfl rfl (by decide) (by decide) (Nat.le_of_ble_eq_true rfl) rfl (show decode cX11_waits 3 = .ok (.invokevirtual 407, 3) from by decide +kernel) rfl (fun x3 => ?_)
  refine sr_istore_n (i := 3) (L' := [some (xad κ v0), some (.int v1), some (.int v2), some (.int x3), none]) (q := 7) C (show decode cX11_waits 6 = .ok (.istore_n 3, 1) from by decide +kernel) rfl (by decide) rfl rfl ?_
  refine sr_iload_n (i := 3) (q := 8) C (show decode cX11_waits 7 = .ok (.iload_n 3, 1) from by decide +kernel) rfl rfl rfl ?_
  refine sr_if_eq (q := 11) C 13 (show decode cX11_waits 8 = .ok (.ifCond .eq 5, 3) from by decide +kernel) (by decide) rfl ?_ ?_
  · refine sr_iconst (v := (0 : Int32)) (q := 14) C (show decode cX11_waits 13 = .ok (.iconst 0, 1) from by decide +kernel) (by decide) rfl ?_
    refine sr_istore (i := 4) (L' := [some (xad κ v0), some (.int v1), some (.int v2), some (.int x3), some (.int (0 : Int32))]) (q := 16) C (show decode cX11_waits 14 = .ok (.istore 4, 2) from by decide +kernel) (by decide) rfl rfl ?_
    refine sr_weak (L' := [some (xad κ v0), some (.int v1), some (.int v2), none, some (.int (0 : Int32))]) ⟨rfl, rfl, rfl, rfl, trivial⟩ ?_
    exact slX11_waits_L16 C 4096 v0 v1 v2 (0 : Int32) hv0
  · refine sr_iload_n (i := 3) (q := 12) C (show decode cX11_waits 11 = .ok (.iload_n 3, 1) from by decide +kernel) rfl rfl rfl ?_
    exact sr_ireturn C _ rfl (show decode cX11_waits 12 = .ok (.ireturn, 1) from by decide +kernel)
theorem cnX11_waits (ω : sm_O) (v0 : Nat) (v1 : Int32) (v2 : Int32) (hv0 : kd v0 = 11) : sm_Mt 3 yX11_waits cX11_waits 5 (some .int) ω [.ref (ω.1 + v0), .int v1, .int v2] (fun a => some (.int a)) (fnX11_waits v0 v1 v2) := by
  refine sm_conI (r := fun a => a) (by decide) (fun _ => rfl) (Nat.le_of_ble_eq_true rfl) ?_
  intro κ hκ C
  subst hκ
  exact slX11_waits C v0 v1 v2 hv0
def fnX2_stoneHelps_J35 (v0 : Nat) (v1 : Nat) (v3 : Int32) (v4 : Int32) (s0 : Int32) : sm_M Bool := m_br (s0 = 0)
    (m_ret false)
    (m_gi v1 1 fun x43 => m_gi v0 7 fun x49 => m_br ((x43 - v3) ≤ x49)
    (m_ret true)
    (m_gi (lk v0 2) 3 fun x61 => m_br ((v4 &&& (x61 ^^^ (-1 : Int32))) = 0)
    (m_ret false)
    (m_ret true)))
set_option maxHeartbeats 4000000 in
set_option maxRecDepth 100000 in
theorem slX2_stoneHelps_J35 {κ : sm_X} (C : sm_C κ RX2 cX2_stoneHelps 6 2) (v0 : Nat) (v1 : Nat) (v3 : Int32) (v4 : Int32) (s0 : Int32) (hv0 : kd v0 = 2) (hv1 : kd v1 = 7) : sm_S κ (fun r : Bool => .inr (some (.int (bI r)))) (.inl (35, [some (xad κ v0), some (xad κ v1), none, some (.int v3), some (.int v4), none], [.int s0])) (fnX2_stoneHelps_J35 v0 v1 v3 v4 s0) := by
  unfold fnX2_stoneHelps_J35
  refine sr_istore (i := 5) (L' := [some (xad κ v0), some (xad κ v1), none, some (.int v3), some (.int v4), some (.int s0)]) (q := 37) C (show decode cX2_stoneHelps 35 = .ok (.istore 5, 2) from by decide +kernel) (by decide) rfl rfl ?_
  refine sr_iload (i := 5) (q := 39) C (show decode cX2_stoneHelps 37 = .ok (.iload 5, 2) from by decide +kernel) rfl rfl ?_
  refine sr_if_eq (q := 42) C 74 (show decode cX2_stoneHelps 39 = .ok (.ifCond .eq 35, 3) from by decide +kernel) (by decide) rfl ?_ ?_
  · refine sr_iconst (v := (0 : Int32)) (q := 75) C (show decode cX2_stoneHelps 74 = .ok (.iconst 0, 1) from by decide +kernel) (by decide) rfl ?_
    exact sr_ireturn C false rfl (show decode cX2_stoneHelps 75 = .ok (.ireturn, 1) from by decide +kernel)
  · refine sr_aload_n (i := 1) (q := 43) C (show decode cX2_stoneHelps 42 = .ok (.aload_n 1, 1) from by decide +kernel) rfl rfl rfl ?_
    refine sr_geti (q := 46) C fl_X2_95 (Or.inl rfl) hv1 (show decode cX2_stoneHelps 43 = .ok (.getfield 95, 3) from by decide +kernel) rfl (fun x43 => ?_)
    refine sr_iload_n (i := 3) (q := 47) C (show decode cX2_stoneHelps 46 = .ok (.iload_n 3, 1) from by decide +kernel) rfl rfl rfl ?_
    refine sr_isub (q := 48) C (show decode cX2_stoneHelps 47 = .ok (.isub, 1) from by decide +kernel) rfl ?_
    refine sr_aload_n (i := 0) (q := 49) C (show decode cX2_stoneHelps 48 = .ok (.aload_n 0, 1) from by decide +kernel) rfl rfl rfl ?_
    refine sr_geti (q := 52) C fl_X2_35 (Or.inl rfl) hv0 (show decode cX2_stoneHelps 49 = .ok (.getfield 35, 3) from by decide +kernel) rfl (fun x49 => ?_)
    refine sr_icmp_le (q := 55) C 70 (show decode cX2_stoneHelps 52 = .ok (.if_icmp .le 18, 3) from by decide +kernel) (by decide) rfl ?_ ?_
    · refine sr_iconst (v := (1 : Int32)) (q := 71) C (show decode cX2_stoneHelps 70 = .ok (.iconst 1, 1) from by decide +kernel) (by decide) rfl ?_
      refine sr_goto (q := 75) C (show decode cX2_stoneHelps 71 = .ok (.goto 4, 3) from by decide +kernel) (by decide) ?_
      exact sr_ireturn C true rfl (show decode cX2_stoneHelps 75 = .ok (.ireturn, 1) from by decide +kernel)
    · refine sr_iload (i := 4) (q := 57) C (show decode cX2_stoneHelps 55 = .ok (.iload 4, 2) from by decide +kernel) rfl rfl ?_
      refine sr_aload_n (i := 0) (q := 58) C (show decode cX2_stoneHelps 57 = .ok (.aload_n 0, 1) from by decide +kernel) rfl rfl rfl ?_
      refine sr_getr (q := 61) C fl_X2_18 hv0 (show decode cX2_stoneHelps 58 = .ok (.getfield 18, 3) from by decide +kernel) rfl ?_
      refine sr_geti (q := 64) C fl_X2_123 (Or.inl rfl) (kt hv0 kp_2_2) (show decode cX2_stoneHelps 61 = .ok (.getfield 123, 3) from by decide +kernel) rfl (fun x61 => ?_)
      refine sr_iconst (v := (-1 : Int32)) (q := 65) C (show decode cX2_stoneHelps 64 = .ok (.iconst (-1), 1) from by decide +kernel) (by decide) rfl ?_
      refine sr_ixor (q := 66) C (show decode cX2_stoneHelps 65 = .ok (.ixor, 1) from by decide +kernel) rfl ?_
      refine sr_iand (q := 67) C (show decode cX2_stoneHelps 66 = .ok (.iand, 1) from by decide +kernel) rfl ?_
      refine sr_if_eq (q := 70) C 74 (show decode cX2_stoneHelps 67 = .ok (.ifCond .eq 7, 3) from by decide +kernel) (by decide) rfl ?_ ?_
      · refine sr_iconst (v := (0 : Int32)) (q := 75) C (show decode cX2_stoneHelps 74 = .ok (.iconst 0, 1) from by decide +kernel) (by decide) rfl ?_
        exact sr_ireturn C false rfl (show decode cX2_stoneHelps 75 = .ok (.ireturn, 1) from by decide +kernel)
      · refine sr_iconst (v := (1 : Int32)) (q := 71) C (show decode cX2_stoneHelps 70 = .ok (.iconst 1, 1) from by decide +kernel) (by decide) rfl ?_
        refine sr_goto (q := 75) C (show decode cX2_stoneHelps 71 = .ok (.goto 4, 3) from by decide +kernel) (by decide) ?_
        exact sr_ireturn C true rfl (show decode cX2_stoneHelps 75 = .ok (.ireturn, 1) from by decide +kernel)
def fnX2_stoneHelps_J30 (v0 : Nat) (v1 : Nat) (v3 : Int32) (v4 : Int32) : sm_M Bool := fnX2_stoneHelps_J35 v0 v1 v3 v4 (1 : Int32)
set_option maxHeartbeats 4000000 in
set_option maxRecDepth 100000 in
theorem slX2_stoneHelps_J30 {κ : sm_X} (C : sm_C κ RX2 cX2_stoneHelps 6 2) (v0 : Nat) (v1 : Nat) (v3 : Int32) (v4 : Int32) (hv0 : kd v0 = 2) (hv1 : kd v1 = 7) : sm_S κ (fun r : Bool => .inr (some (.int (bI r)))) (.inl (30, [some (xad κ v0), some (xad κ v1), none, some (.int v3), some (.int v4), none], [])) (fnX2_stoneHelps_J30 v0 v1 v3 v4) := by
  unfold fnX2_stoneHelps_J30
  refine sr_iconst (v := (1 : Int32)) (q := 31) C (show decode cX2_stoneHelps 30 = .ok (.iconst 1, 1) from by decide +kernel) (by decide) rfl ?_
  refine sr_goto (q := 35) C (show decode cX2_stoneHelps 31 = .ok (.goto 4, 3) from by decide +kernel) (by decide) ?_
  exact slX2_stoneHelps_J35 C v0 v1 v3 v4 (1 : Int32) hv0 hv1
def fnX2_stoneHelps (v0 : Nat) (v1 : Nat) (v2 : Int32) (v3 : Int32) : sm_M Bool := m_bnd (fnX2_around v0 v1 v2 v3) fun x4 => m_gi v0 7 fun x11 => m_br (v3 ≤ x11)
    (fnX2_stoneHelps_J30 v0 v1 v3 x4)
    (m_gi (lk v0 2) 4 fun x23 => m_br ((x4 &&& x23) = 0)
    (fnX2_stoneHelps_J35 v0 v1 v3 x4 (0 : Int32))
    (fnX2_stoneHelps_J30 v0 v1 v3 x4))
set_option maxHeartbeats 4000000 in
set_option maxRecDepth 100000 in
theorem slX2_stoneHelps {κ : sm_X} (C : sm_C κ RX2 cX2_stoneHelps 6 2) (v0 : Nat) (v1 : Nat) (v2 : Int32) (v3 : Int32) (hv0 : kd v0 = 2) (hv1 : kd v1 = 7) : sm_S κ (fun r : Bool => .inr (some (.int (bI r)))) (.inl (0, [some (xad κ v0), some (xad κ v1), some (.int v2), some (.int v3), none, none], [])) (fnX2_stoneHelps v0 v1 v2 v3) := by
  unfold fnX2_stoneHelps
  refine sr_aload_n (i := 0) (q := 1) C (show decode cX2_stoneHelps 0 = .ok (.aload_n 0, 1) from by decide +kernel) rfl rfl rfl ?_
  refine sr_aload_n (i := 1) (q := 2) C (show decode cX2_stoneHelps 1 = .ok (.aload_n 1, 1) from by decide +kernel) rfl rfl rfl ?_
  refine sr_iload_n (i := 2) (q := 3) C (show decode cX2_stoneHelps 2 = .ok (.iload_n 2, 1) from by decide +kernel) rfl rfl rfl ?_
  refine sr_iload_n (i := 3) (q := 4) C (show decode cX2_stoneHelps 3 = .ok (.iload_n 3, 1) from by decide +kernel) rfl rfl rfl ?_
  refine sr_cVi (As := [xad κ v1, .int v2, .int v3]) (st := []) (b := v0) (q := 7) C yvX2_around ml_X2_86 (cnX2_around (xo κ) v0 v1 v2 v3 hv0 hv1) hv0 (by decide) rfl rfl rfl (by decide) (by decide) (Nat.le_of_ble_eq_true rfl) rfl (show decode cX2_stoneHelps 4 = .ok (.invokevirtual 86, 3) from by decide +kernel) rfl (fun x4 => ?_)
  refine sr_istore (i := 4) (L' := [some (xad κ v0), some (xad κ v1), some (.int v2), some (.int v3), some (.int x4), none]) (q := 9) C (show decode cX2_stoneHelps 7 = .ok (.istore 4, 2) from by decide +kernel) (by decide) rfl rfl ?_
  refine sr_iload_n (i := 3) (q := 10) C (show decode cX2_stoneHelps 9 = .ok (.iload_n 3, 1) from by decide +kernel) rfl rfl rfl ?_
  refine sr_aload_n (i := 0) (q := 11) C (show decode cX2_stoneHelps 10 = .ok (.aload_n 0, 1) from by decide +kernel) rfl rfl rfl ?_
  refine sr_geti (q := 14) C fl_X2_35 (Or.inl rfl) hv0 (show decode cX2_stoneHelps 11 = .ok (.getfield 35, 3) from by decide +kernel) rfl (fun x11 => ?_)
  refine sr_icmp_le (q := 17) C 30 (show decode cX2_stoneHelps 14 = .ok (.if_icmp .le 16, 3) from by decide +kernel) (by decide) rfl ?_ ?_
  · refine sr_weak (L' := [some (xad κ v0), some (xad κ v1), none, some (.int v3), some (.int x4), none]) ⟨rfl, rfl, rfl, rfl, trivial⟩ ?_
    exact slX2_stoneHelps_J30 C v0 v1 v3 x4 hv0 hv1
  · refine sr_iload (i := 4) (q := 19) C (show decode cX2_stoneHelps 17 = .ok (.iload 4, 2) from by decide +kernel) rfl rfl ?_
    refine sr_aload_n (i := 0) (q := 20) C (show decode cX2_stoneHelps 19 = .ok (.aload_n 0, 1) from by decide +kernel) rfl rfl rfl ?_
    refine sr_getr (q := 23) C fl_X2_18 hv0 (show decode cX2_stoneHelps 20 = .ok (.getfield 18, 3) from by decide +kernel) rfl ?_
    refine sr_geti (q := 26) C fl_X2_120 (Or.inl rfl) (kt hv0 kp_2_2) (show decode cX2_stoneHelps 23 = .ok (.getfield 120, 3) from by decide +kernel) rfl (fun x23 => ?_)
    refine sr_iand (q := 27) C (show decode cX2_stoneHelps 26 = .ok (.iand, 1) from by decide +kernel) rfl ?_
    refine sr_if_eq (q := 30) C 34 (show decode cX2_stoneHelps 27 = .ok (.ifCond .eq 7, 3) from by decide +kernel) (by decide) rfl ?_ ?_
    · refine sr_iconst (v := (0 : Int32)) (q := 35) C (show decode cX2_stoneHelps 34 = .ok (.iconst 0, 1) from by decide +kernel) (by decide) rfl ?_
      refine sr_weak (L' := [some (xad κ v0), some (xad κ v1), none, some (.int v3), some (.int x4), none]) ⟨rfl, rfl, rfl, rfl, trivial⟩ ?_
      exact slX2_stoneHelps_J35 C v0 v1 v3 x4 (0 : Int32) hv0 hv1
    · refine sr_weak (L' := [some (xad κ v0), some (xad κ v1), none, some (.int v3), some (.int x4), none]) ⟨rfl, rfl, rfl, rfl, trivial⟩ ?_
      exact slX2_stoneHelps_J30 C v0 v1 v3 x4 hv0 hv1
theorem cnX2_stoneHelps (ω : sm_O) (v0 : Nat) (v1 : Nat) (v2 : Int32) (v3 : Int32) (hv0 : kd v0 = 2) (hv1 : kd v1 = 7) : sm_Mt 2 yX2_stoneHelps cX2_stoneHelps 6 (some .boolean) ω [.ref (ω.1 + v0), .ref (ω.1 + v1), .int v2, .int v3] (fun a => some (.int (bI a))) (fnX2_stoneHelps v0 v1 v2 v3) := by
  refine sm_conI (r := bI) (by decide) bI_nar (Nat.le_of_ble_eq_true rfl) ?_
  intro κ hκ C
  subst hκ
  exact slX2_stoneHelps C v0 v1 v2 v3 hv0 hv1
def fnX11_where_J195 (k73 : Nat → Int32 → Int32 → Int32 → Int32 → Int32 → Int32 → sm_M Int32) (v0 : Nat) (v1 : Int32) (v3 : Int32) (v4 : Int32) (v5 : Int32) (v6 : Int32) (v7 : Int32) : sm_M Int32 := k73 v0 v1 v3 v4 v5 v6 (v7 + (1 : Int32))
set_option maxHeartbeats 4000000 in
set_option maxRecDepth 100000 in
theorem slX11_where_J195 {κ : sm_X} (C : sm_C κ RX11 cX11_where 11 6) {k73 : Nat → Int32 → Int32 → Int32 → Int32 → Int32 → Int32 → sm_M Int32} (K73 : ∀ (v0 : Nat) (v1 : Int32) (v3 : Int32) (v4 : Int32) (v5 : Int32) (v6 : Int32) (v7 : Int32) (hv0 : kd v0 = 11), sm_S κ (fun r : Int32 => .inr (some (.int r))) (.inl (73, [some (xad κ v0), some (.int v1), none, some (.int v3), some (.int v4), some (.int v5), some (.int v6), some (.int v7), none, none, none], [])) (k73 v0 v1 v3 v4 v5 v6 v7)) (v0 : Nat) (v1 : Int32) (v3 : Int32) (v4 : Int32) (v5 : Int32) (v6 : Int32) (v7 : Int32) (hv0 : kd v0 = 11) : sm_S κ (fun r : Int32 => .inr (some (.int r))) (.inl (195, [some (xad κ v0), some (.int v1), none, some (.int v3), some (.int v4), some (.int v5), some (.int v6), some (.int v7), none, none, none], [])) (fnX11_where_J195 k73 v0 v1 v3 v4 v5 v6 v7) := by
  unfold fnX11_where_J195
  refine sr_iinc (v := v7 + (1 : Int32)) (L' := [some (xad κ v0), some (.int v1), none, some (.int v3), some (.int v4), some (.int v5), some (.int v6), some (.int (v7 + (1 : Int32))), none, none, none]) (q := 198) C (show decode cX11_where 195 = .ok (.iinc 7 1, 3) from by decide +kernel) rfl rfl (by decide) rfl rfl ?_
  refine sr_goto (q := 73) C (show decode cX11_where 198 = .ok (.goto (-125), 3) from by decide +kernel) (by decide) ?_
  exact K73 v0 v1 v3 v4 v5 v6 (v7 + (1 : Int32)) hv0
def fnX11_where_J189 (k73 : Nat → Int32 → Int32 → Int32 → Int32 → Int32 → Int32 → sm_M Int32) (k88 : Nat → Int32 → Int32 → Int32 → Int32 → Int32 → Int32 → Int32 → sm_M Int32) (v0 : Nat) (v1 : Int32) (v3 : Int32) (v4 : Int32) (v5 : Int32) (v6 : Int32) (v7 : Int32) (v8 : Int32) : sm_M Int32 := k88 v0 v1 v3 v4 v5 v6 v7 (v8 + (1 : Int32))
set_option maxHeartbeats 4000000 in
set_option maxRecDepth 100000 in
theorem slX11_where_J189 {κ : sm_X} (C : sm_C κ RX11 cX11_where 11 6) {k73 : Nat → Int32 → Int32 → Int32 → Int32 → Int32 → Int32 → sm_M Int32} (K73 : ∀ (v0 : Nat) (v1 : Int32) (v3 : Int32) (v4 : Int32) (v5 : Int32) (v6 : Int32) (v7 : Int32) (hv0 : kd v0 = 11), sm_S κ (fun r : Int32 => .inr (some (.int r))) (.inl (73, [some (xad κ v0), some (.int v1), none, some (.int v3), some (.int v4), some (.int v5), some (.int v6), some (.int v7), none, none, none], [])) (k73 v0 v1 v3 v4 v5 v6 v7)) {k88 : Nat → Int32 → Int32 → Int32 → Int32 → Int32 → Int32 → Int32 → sm_M Int32} (K88 : ∀ (v0 : Nat) (v1 : Int32) (v3 : Int32) (v4 : Int32) (v5 : Int32) (v6 : Int32) (v7 : Int32) (v8 : Int32) (hv0 : kd v0 = 11), sm_S κ (fun r : Int32 => .inr (some (.int r))) (.inl (88, [some (xad κ v0), some (.int v1), none, some (.int v3), some (.int v4), some (.int v5), some (.int v6), some (.int v7), some (.int v8), none, none], [])) (k88 v0 v1 v3 v4 v5 v6 v7 v8)) (v0 : Nat) (v1 : Int32) (v3 : Int32) (v4 : Int32) (v5 : Int32) (v6 : Int32) (v7 : Int32) (v8 : Int32) (hv0 : kd v0 = 11) : sm_S κ (fun r : Int32 => .inr (some (.int r))) (.inl (189, [some (xad κ v0), some (.int v1), none, some (.int v3), some (.int v4), some (.int v5), some (.int v6), some (.int v7), some (.int v8), none, none], [])) (fnX11_where_J189 k73 k88 v0 v1 v3 v4 v5 v6 v7 v8) := by
  unfold fnX11_where_J189
  refine sr_iinc (v := v8 + (1 : Int32)) (L' := [some (xad κ v0), some (.int v1), none, some (.int v3), some (.int v4), some (.int v5), some (.int v6), some (.int v7), some (.int (v8 + (1 : Int32))), none, none]) (q := 192) C (show decode cX11_where 189 = .ok (.iinc 8 1, 3) from by decide +kernel) rfl rfl (by decide) rfl rfl ?_
  refine sr_goto (q := 88) C (show decode cX11_where 192 = .ok (.goto (-104), 3) from by decide +kernel) (by decide) ?_
  exact K88 v0 v1 v3 v4 v5 v6 v7 (v8 + (1 : Int32)) hv0
def fnX11_where_J166 (k73 : Nat → Int32 → Int32 → Int32 → Int32 → Int32 → Int32 → sm_M Int32) (k88 : Nat → Int32 → Int32 → Int32 → Int32 → Int32 → Int32 → Int32 → sm_M Int32) (v0 : Nat) (v1 : Int32) (v3 : Int32) (v4 : Int32) (v5 : Int32) (v6 : Int32) (v7 : Int32) (v8 : Int32) (s0 : Int32) : sm_M Int32 := m_br (s0 ≤ v5)
    (fnX11_where_J189 k73 k88 v0 v1 v3 v4 v5 v6 v7 v8)
    (m_nm (v8 + ((100 : Int32) * v7)) fun y187 => fnX11_where_J189 k73 k88 v0 v1 v3 y187 s0 v6 v7 v8)
set_option maxHeartbeats 4000000 in
set_option maxRecDepth 100000 in
theorem slX11_where_J166 {κ : sm_X} (C : sm_C κ RX11 cX11_where 11 6) {k73 : Nat → Int32 → Int32 → Int32 → Int32 → Int32 → Int32 → sm_M Int32} (K73 : ∀ (v0 : Nat) (v1 : Int32) (v3 : Int32) (v4 : Int32) (v5 : Int32) (v6 : Int32) (v7 : Int32) (hv0 : kd v0 = 11), sm_S κ (fun r : Int32 => .inr (some (.int r))) (.inl (73, [some (xad κ v0), some (.int v1), none, some (.int v3), some (.int v4), some (.int v5), some (.int v6), some (.int v7), none, none, none], [])) (k73 v0 v1 v3 v4 v5 v6 v7)) {k88 : Nat → Int32 → Int32 → Int32 → Int32 → Int32 → Int32 → Int32 → sm_M Int32} (K88 : ∀ (v0 : Nat) (v1 : Int32) (v3 : Int32) (v4 : Int32) (v5 : Int32) (v6 : Int32) (v7 : Int32) (v8 : Int32) (hv0 : kd v0 = 11), sm_S κ (fun r : Int32 => .inr (some (.int r))) (.inl (88, [some (xad κ v0), some (.int v1), none, some (.int v3), some (.int v4), some (.int v5), some (.int v6), some (.int v7), some (.int v8), none, none], [])) (k88 v0 v1 v3 v4 v5 v6 v7 v8)) (v0 : Nat) (v1 : Int32) (v3 : Int32) (v4 : Int32) (v5 : Int32) (v6 : Int32) (v7 : Int32) (v8 : Int32) (s0 : Int32) (hv0 : kd v0 = 11) : sm_S κ (fun r : Int32 => .inr (some (.int r))) (.inl (166, [some (xad κ v0), some (.int v1), none, some (.int v3), some (.int v4), some (.int v5), some (.int v6), some (.int v7), some (.int v8), none, none], [.int s0])) (fnX11_where_J166 k73 k88 v0 v1 v3 v4 v5 v6 v7 v8 s0) := by
  unfold fnX11_where_J166
  refine sr_istore (i := 10) (L' := [some (xad κ v0), some (.int v1), none, some (.int v3), some (.int v4), some (.int v5), some (.int v6), some (.int v7), some (.int v8), none, some (.int s0)]) (q := 168) C (show decode cX11_where 166 = .ok (.istore 10, 2) from by decide +kernel) (by decide) rfl rfl ?_
  refine sr_iload (i := 10) (q := 170) C (show decode cX11_where 168 = .ok (.iload 10, 2) from by decide +kernel) rfl rfl ?_
  refine sr_iload (i := 5) (q := 172) C (show decode cX11_where 170 = .ok (.iload 5, 2) from by decide +kernel) rfl rfl ?_
  refine sr_icmp_le (q := 175) C 189 (show decode cX11_where 172 = .ok (.if_icmp .le 17, 3) from by decide +kernel) (by decide) rfl ?_ ?_
  · refine sr_weak (L' := [some (xad κ v0), some (.int v1), none, some (.int v3), some (.int v4), some (.int v5), some (.int v6), some (.int v7), some (.int v8), none, none]) ⟨rfl, rfl, rfl, rfl, rfl, rfl, rfl, rfl, trivial⟩ ?_
    exact slX11_where_J189 C K73 K88 v0 v1 v3 v4 v5 v6 v7 v8 hv0
  · refine sr_iload (i := 10) (q := 177) C (show decode cX11_where 175 = .ok (.iload 10, 2) from by decide +kernel) rfl rfl ?_
    refine sr_istore (i := 5) (L' := [some (xad κ v0), some (.int v1), none, some (.int v3), some (.int v4), some (.int s0), some (.int v6), some (.int v7), some (.int v8), none, some (.int s0)]) (q := 179) C (show decode cX11_where 177 = .ok (.istore 5, 2) from by decide +kernel) (by decide) rfl rfl ?_
    refine sr_iload (i := 8) (q := 181) C (show decode cX11_where 179 = .ok (.iload 8, 2) from by decide +kernel) rfl rfl ?_
    refine sr_bipush (v := (100 : Int32)) (q := 183) C (show decode cX11_where 181 = .ok (.bipush 100, 2) from by decide +kernel) (by decide) rfl ?_
    refine sr_iload (i := 7) (q := 185) C (show decode cX11_where 183 = .ok (.iload 7, 2) from by decide +kernel) rfl rfl ?_
    refine sr_imul (q := 186) C (show decode cX11_where 185 = .ok (.imul, 1) from by decide +kernel) rfl ?_
    refine sr_iadd (q := 187) C (show decode cX11_where 186 = .ok (.iadd, 1) from by decide +kernel) rfl ?_
    refine sr_nmi (fun y187 => ?_)
    refine sr_istore (i := 4) (L' := [some (xad κ v0), some (.int v1), none, some (.int v3), some (.int y187), some (.int s0), some (.int v6), some (.int v7), some (.int v8), none, some (.int s0)]) (q := 189) C (show decode cX11_where 187 = .ok (.istore 4, 2) from by decide +kernel) (by decide) rfl rfl ?_
    refine sr_weak (L' := [some (xad κ v0), some (.int v1), none, some (.int v3), some (.int y187), some (.int s0), some (.int v6), some (.int v7), some (.int v8), none, none]) ⟨rfl, rfl, rfl, rfl, rfl, rfl, rfl, rfl, trivial⟩ ?_
    exact slX11_where_J189 C K73 K88 v0 v1 v3 y187 s0 v6 v7 v8 hv0
def fnX11_where_J145 (k73 : Nat → Int32 → Int32 → Int32 → Int32 → Int32 → Int32 → sm_M Int32) (k88 : Nat → Int32 → Int32 → Int32 → Int32 → Int32 → Int32 → Int32 → sm_M Int32) (v0 : Nat) (v1 : Int32) (v3 : Int32) (v4 : Int32) (v5 : Int32) (v6 : Int32) (v7 : Int32) (v8 : Int32) (s0 : Int32) : sm_M Int32 := m_br (s0 = 0)
    (fnX11_where_J166 k73 k88 v0 v1 v3 v4 v5 v6 v7 v8 v6)
    (m_bnd (fnX11_mostWithOneMore v0 v8 v7 v1) fun x158 => fnX11_where_J166 k73 k88 v0 v1 v3 v4 v5 v6 v7 v8 x158)
set_option maxHeartbeats 4000000 in
set_option maxRecDepth 100000 in
theorem slX11_where_J145 {κ : sm_X} (C : sm_C κ RX11 cX11_where 11 6) {k73 : Nat → Int32 → Int32 → Int32 → Int32 → Int32 → Int32 → sm_M Int32} (K73 : ∀ (v0 : Nat) (v1 : Int32) (v3 : Int32) (v4 : Int32) (v5 : Int32) (v6 : Int32) (v7 : Int32) (hv0 : kd v0 = 11), sm_S κ (fun r : Int32 => .inr (some (.int r))) (.inl (73, [some (xad κ v0), some (.int v1), none, some (.int v3), some (.int v4), some (.int v5), some (.int v6), some (.int v7), none, none, none], [])) (k73 v0 v1 v3 v4 v5 v6 v7)) {k88 : Nat → Int32 → Int32 → Int32 → Int32 → Int32 → Int32 → Int32 → sm_M Int32} (K88 : ∀ (v0 : Nat) (v1 : Int32) (v3 : Int32) (v4 : Int32) (v5 : Int32) (v6 : Int32) (v7 : Int32) (v8 : Int32) (hv0 : kd v0 = 11), sm_S κ (fun r : Int32 => .inr (some (.int r))) (.inl (88, [some (xad κ v0), some (.int v1), none, some (.int v3), some (.int v4), some (.int v5), some (.int v6), some (.int v7), some (.int v8), none, none], [])) (k88 v0 v1 v3 v4 v5 v6 v7 v8)) (v0 : Nat) (v1 : Int32) (v3 : Int32) (v4 : Int32) (v5 : Int32) (v6 : Int32) (v7 : Int32) (v8 : Int32) (s0 : Int32) (hv0 : kd v0 = 11) : sm_S κ (fun r : Int32 => .inr (some (.int r))) (.inl (145, [some (xad κ v0), some (.int v1), none, some (.int v3), some (.int v4), some (.int v5), some (.int v6), some (.int v7), some (.int v8), none, none], [.int s0])) (fnX11_where_J145 k73 k88 v0 v1 v3 v4 v5 v6 v7 v8 s0) := by
  unfold fnX11_where_J145
  refine sr_istore (i := 9) (L' := [some (xad κ v0), some (.int v1), none, some (.int v3), some (.int v4), some (.int v5), some (.int v6), some (.int v7), some (.int v8), some (.int s0), none]) (q := 147) C (show decode cX11_where 145 = .ok (.istore 9, 2) from by decide +kernel) (by decide) rfl rfl ?_
  refine sr_iload (i := 9) (q := 149) C (show decode cX11_where 147 = .ok (.iload 9, 2) from by decide +kernel) rfl rfl ?_
  refine sr_if_eq (q := 152) C 164 (show decode cX11_where 149 = .ok (.ifCond .eq 15, 3) from by decide +kernel) (by decide) rfl ?_ ?_
  · refine sr_iload (i := 6) (q := 166) C (show decode cX11_where 164 = .ok (.iload 6, 2) from by decide +kernel) rfl rfl ?_
    refine sr_weak (L' := [some (xad κ v0), some (.int v1), none, some (.int v3), some (.int v4), some (.int v5), some (.int v6), some (.int v7), some (.int v8), none, none]) ⟨rfl, rfl, rfl, rfl, rfl, rfl, rfl, rfl, trivial⟩ ?_
    exact slX11_where_J166 C K73 K88 v0 v1 v3 v4 v5 v6 v7 v8 v6 hv0
  · refine sr_aload_n (i := 0) (q := 153) C (show decode cX11_where 152 = .ok (.aload_n 0, 1) from by decide +kernel) rfl rfl rfl ?_
    refine sr_iload (i := 8) (q := 155) C (show decode cX11_where 153 = .ok (.iload 8, 2) from by decide +kernel) rfl rfl ?_
    refine sr_iload (i := 7) (q := 157) C (show decode cX11_where 155 = .ok (.iload 7, 2) from by decide +kernel) rfl rfl ?_
    refine sr_iload_n (i := 1) (q := 158) C (show decode cX11_where 157 = .ok (.iload_n 1, 1) from by decide +kernel) rfl rfl rfl ?_
    refine sr_cVi (As := [.int v8, .int v7, .int v1]) (st := []) (b := v0) (q := 161) C yvX11_mostWithOneMore ml_X11_352 (cnX11_mostWithOneMore (xo κ) v0 v8 v7 v1 hv0) hv0 (by decide) rfl rfl rfl (by decide) (by decide) (Nat.le_of_ble_eq_true rfl) rfl (show decode cX11_where 158 = .ok (.invokevirtual 352, 3) from by decide +kernel) rfl (fun x158 => ?_)
    refine sr_goto (q := 166) C (show decode cX11_where 161 = .ok (.goto 5, 3) from by decide +kernel) (by decide) ?_
    refine sr_weak (L' := [some (xad κ v0), some (.int v1), none, some (.int v3), some (.int v4), some (.int v5), some (.int v6), some (.int v7), some (.int v8), none, none]) ⟨rfl, rfl, rfl, rfl, rfl, rfl, rfl, rfl, trivial⟩ ?_
    exact slX11_where_J166 C K73 K88 v0 v1 v3 v4 v5 v6 v7 v8 x158 hv0
def fnX11_where_J144 (k73 : Nat → Int32 → Int32 → Int32 → Int32 → Int32 → Int32 → sm_M Int32) (k88 : Nat → Int32 → Int32 → Int32 → Int32 → Int32 → Int32 → Int32 → sm_M Int32) (v0 : Nat) (v1 : Int32) (v3 : Int32) (v4 : Int32) (v5 : Int32) (v6 : Int32) (v7 : Int32) (v8 : Int32) : sm_M Int32 := fnX11_where_J145 k73 k88 v0 v1 v3 v4 v5 v6 v7 v8 (0 : Int32)
set_option maxHeartbeats 4000000 in
set_option maxRecDepth 100000 in
theorem slX11_where_J144 {κ : sm_X} (C : sm_C κ RX11 cX11_where 11 6) {k73 : Nat → Int32 → Int32 → Int32 → Int32 → Int32 → Int32 → sm_M Int32} (K73 : ∀ (v0 : Nat) (v1 : Int32) (v3 : Int32) (v4 : Int32) (v5 : Int32) (v6 : Int32) (v7 : Int32) (hv0 : kd v0 = 11), sm_S κ (fun r : Int32 => .inr (some (.int r))) (.inl (73, [some (xad κ v0), some (.int v1), none, some (.int v3), some (.int v4), some (.int v5), some (.int v6), some (.int v7), none, none, none], [])) (k73 v0 v1 v3 v4 v5 v6 v7)) {k88 : Nat → Int32 → Int32 → Int32 → Int32 → Int32 → Int32 → Int32 → sm_M Int32} (K88 : ∀ (v0 : Nat) (v1 : Int32) (v3 : Int32) (v4 : Int32) (v5 : Int32) (v6 : Int32) (v7 : Int32) (v8 : Int32) (hv0 : kd v0 = 11), sm_S κ (fun r : Int32 => .inr (some (.int r))) (.inl (88, [some (xad κ v0), some (.int v1), none, some (.int v3), some (.int v4), some (.int v5), some (.int v6), some (.int v7), some (.int v8), none, none], [])) (k88 v0 v1 v3 v4 v5 v6 v7 v8)) (v0 : Nat) (v1 : Int32) (v3 : Int32) (v4 : Int32) (v5 : Int32) (v6 : Int32) (v7 : Int32) (v8 : Int32) (hv0 : kd v0 = 11) : sm_S κ (fun r : Int32 => .inr (some (.int r))) (.inl (144, [some (xad κ v0), some (.int v1), none, some (.int v3), some (.int v4), some (.int v5), some (.int v6), some (.int v7), some (.int v8), none, none], [])) (fnX11_where_J144 k73 k88 v0 v1 v3 v4 v5 v6 v7 v8) := by
  unfold fnX11_where_J144
  refine sr_iconst (v := (0 : Int32)) (q := 145) C (show decode cX11_where 144 = .ok (.iconst 0, 1) from by decide +kernel) (by decide) rfl ?_
  exact slX11_where_J145 C K73 K88 v0 v1 v3 v4 v5 v6 v7 v8 (0 : Int32) hv0
def fnX11_where_L88 (k73 : Nat → Int32 → Int32 → Int32 → Int32 → Int32 → Int32 → sm_M Int32) : Nat → Nat → Int32 → Int32 → Int32 → Int32 → Int32 → Int32 → Int32 → sm_M Int32
  | 0, _, _, _, _, _, _, _, _ => m_fail
  | n + 1, v0, v1, v3, v4, v5, v6, v7, v8 => m_gi (lk v0 5) 2 fun x94 => m_br (x94 ≤ v8)
    (fnX11_where_J195 k73 v0 v1 v3 v4 v5 v6 v7)
    (m_bnd (fnX7_stoneAt (lk v0 5) v8 v7) fun x108 => m_br (x108 = (-1 : Int32))
    (m_br (v3 = 0)
    (m_bnd (fnX2_stoneHelps (lk v0 13) (lk v0 5) v8 v7) fun x134 => m_br ((bI x134) = 0)
    (fnX11_where_J144 k73 (fnX11_where_L88 k73 n) v0 v1 v3 v4 v5 v6 v7 v8)
    (fnX11_where_J145 k73 (fnX11_where_L88 k73 n) v0 v1 v3 v4 v5 v6 v7 v8 (1 : Int32)))
    (fnX11_where_J144 k73 (fnX11_where_L88 k73 n) v0 v1 v3 v4 v5 v6 v7 v8))
    (fnX11_where_J189 k73 (fnX11_where_L88 k73 n) v0 v1 v3 v4 v5 v6 v7 v8))
set_option maxHeartbeats 4000000 in
set_option maxRecDepth 100000 in
theorem slX11_where_L88 {κ : sm_X} (C : sm_C κ RX11 cX11_where 11 6) {k73 : Nat → Int32 → Int32 → Int32 → Int32 → Int32 → Int32 → sm_M Int32} (K73 : ∀ (v0 : Nat) (v1 : Int32) (v3 : Int32) (v4 : Int32) (v5 : Int32) (v6 : Int32) (v7 : Int32) (hv0 : kd v0 = 11), sm_S κ (fun r : Int32 => .inr (some (.int r))) (.inl (73, [some (xad κ v0), some (.int v1), none, some (.int v3), some (.int v4), some (.int v5), some (.int v6), some (.int v7), none, none, none], [])) (k73 v0 v1 v3 v4 v5 v6 v7)) : ∀ (n : Nat) (v0 : Nat) (v1 : Int32) (v3 : Int32) (v4 : Int32) (v5 : Int32) (v6 : Int32) (v7 : Int32) (v8 : Int32) (hv0 : kd v0 = 11), sm_S κ (fun r : Int32 => .inr (some (.int r))) (.inl (88, [some (xad κ v0), some (.int v1), none, some (.int v3), some (.int v4), some (.int v5), some (.int v6), some (.int v7), some (.int v8), none, none], [])) (fnX11_where_L88 k73 n v0 v1 v3 v4 v5 v6 v7 v8) := by
  intro n
  induction n with
  | zero =>
    intros
    exact sr_fail
  | succ n K88 =>
    intro v0 v1 v3 v4 v5 v6 v7 v8 hv0
    unfold fnX11_where_L88
    refine sr_iload (i := 8) (q := 90) C (show decode cX11_where 88 = .ok (.iload 8, 2) from by decide +kernel) rfl rfl ?_
    refine sr_aload_n (i := 0) (q := 91) C (show decode cX11_where 90 = .ok (.aload_n 0, 1) from by decide +kernel) rfl rfl rfl ?_
    refine sr_getr (q := 94) C fl_X11_27 hv0 (show decode cX11_where 91 = .ok (.getfield 27, 3) from by decide +kernel) rfl ?_
    refine sr_geti (q := 97) C fl_X11_345 (Or.inl rfl) (kt hv0 kp_11_5) (show decode cX11_where 94 = .ok (.getfield 345, 3) from by decide +kernel) rfl (fun x94 => ?_)
    refine sr_icmp_ge (q := 100) C 195 (show decode cX11_where 97 = .ok (.if_icmp .ge 98, 3) from by decide +kernel) (by decide) rfl ?_ ?_
    · refine sr_weak (L' := [some (xad κ v0), some (.int v1), none, some (.int v3), some (.int v4), some (.int v5), some (.int v6), some (.int v7), none, none, none]) ⟨rfl, rfl, rfl, rfl, rfl, rfl, rfl, trivial⟩ ?_
      exact slX11_where_J195 C K73 v0 v1 v3 v4 v5 v6 v7 hv0
    · refine sr_aload_n (i := 0) (q := 101) C (show decode cX11_where 100 = .ok (.aload_n 0, 1) from by decide +kernel) rfl rfl rfl ?_
      refine sr_getr (q := 104) C fl_X11_27 hv0 (show decode cX11_where 101 = .ok (.getfield 27, 3) from by decide +kernel) rfl ?_
      refine sr_iload (i := 8) (q := 106) C (show decode cX11_where 104 = .ok (.iload 8, 2) from by decide +kernel) rfl rfl ?_
      refine sr_iload (i := 7) (q := 108) C (show decode cX11_where 106 = .ok (.iload 7, 2) from by decide +kernel) rfl rfl ?_
      refine sr_cVi (As := [.int v8, .int v7]) (st := []) (b := lk v0 5) (q := 111) C yvX7_stoneAt ml_X11_335 (cnX7_stoneAt (xo κ) (lk v0 5) v8 v7 (kt hv0 kp_11_5)) (kt hv0 kp_11_5) (by decide) rfl rfl rfl (by decide) (by decide) (Nat.le_of_ble_eq_true rfl) rfl (show decode cX11_where 108 = .ok (.invokevirtual 335, 3) from by decide +kernel) rfl (fun x108 => ?_)
      refine sr_iconst (v := (-1 : Int32)) (q := 112) C (show decode cX11_where 111 = .ok (.iconst (-1), 1) from by decide +kernel) (by decide) rfl ?_
      refine sr_icmp_eq (q := 115) C 118 (show decode cX11_where 112 = .ok (.if_icmp .eq 6, 3) from by decide +kernel) (by decide) rfl ?_ ?_
      · refine sr_iload_n (i := 3) (q := 119) C (show decode cX11_where 118 = .ok (.iload_n 3, 1) from by decide +kernel) rfl rfl rfl ?_
        refine sr_if_ne (q := 122) C 144 (show decode cX11_where 119 = .ok (.ifCond .ne 25, 3) from by decide +kernel) (by decide) rfl ?_ ?_
        · exact slX11_where_J144 C K73 K88 v0 v1 v3 v4 v5 v6 v7 v8 hv0
        · refine sr_aload_n (i := 0) (q := 123) C (show decode cX11_where 122 = .ok (.aload_n 0, 1) from by decide +kernel) rfl rfl rfl ?_
          refine sr_getr (q := 126) C fl_X11_87 hv0 (show decode cX11_where 123 = .ok (.getfield 87, 3) from by decide +kernel) rfl ?_
          refine sr_aload_n (i := 0) (q := 127) C (show decode cX11_where 126 = .ok (.aload_n 0, 1) from by decide +kernel) rfl rfl rfl ?_
          refine sr_getr (q := 130) C fl_X11_27 hv0 (show decode cX11_where 127 = .ok (.getfield 27, 3) from by decide +kernel) rfl ?_
          refine sr_iload (i := 8) (q := 132) C (show decode cX11_where 130 = .ok (.iload 8, 2) from by decide +kernel) rfl rfl ?_
          refine sr_iload (i := 7) (q := 134) C (show decode cX11_where 132 = .ok (.iload 7, 2) from by decide +kernel) rfl rfl ?_
          refine sr_cVz (As := [xad κ (lk v0 5), .int v8, .int v7]) (st := []) (b := lk v0 13) (q := 137) C yvX2_stoneHelps ml_X11_348 (cnX2_stoneHelps (xo κ) (lk v0 13) (lk v0 5) v8 v7 (kt hv0 kp_11_13) (kt hv0 kp_11_5)) (kt hv0 kp_11_13) (by decide) rfl rfl rfl (by decide) (by decide) (Nat.le_of_ble_eq_true rfl) rfl (show decode cX11_where 134 = .ok (.invokevirtual 348, 3) from by decide +kernel) rfl (fun x134 => ?_)
          refine sr_if_eq (q := 140) C 144 (show decode cX11_where 137 = .ok (.ifCond .eq 7, 3) from by decide +kernel) (by decide) rfl ?_ ?_
          · exact slX11_where_J144 C K73 K88 v0 v1 v3 v4 v5 v6 v7 v8 hv0
          · refine sr_iconst (v := (1 : Int32)) (q := 141) C (show decode cX11_where 140 = .ok (.iconst 1, 1) from by decide +kernel) (by decide) rfl ?_
            refine sr_goto (q := 145) C (show decode cX11_where 141 = .ok (.goto 4, 3) from by decide +kernel) (by decide) ?_
            exact slX11_where_J145 C K73 K88 v0 v1 v3 v4 v5 v6 v7 v8 (1 : Int32) hv0
      · refine sr_goto (q := 189) C (show decode cX11_where 115 = .ok (.goto 74, 3) from by decide +kernel) (by decide) ?_
        exact slX11_where_J189 C K73 K88 v0 v1 v3 v4 v5 v6 v7 v8 hv0
def fnX11_where_L73 : Nat → Nat → Int32 → Int32 → Int32 → Int32 → Int32 → Int32 → sm_M Int32
  | 0, _, _, _, _, _, _, _ => m_fail
  | n + 1, v0, v1, v3, v4, v5, v6, v7 => m_gi (lk v0 5) 1 fun x79 => m_br (x79 ≤ v7)
    (m_ret v4)
    (fnX11_where_L88 (fnX11_where_L73 n) 4096 v0 v1 v3 v4 v5 v6 v7 (0 : Int32))
set_option maxHeartbeats 4000000 in
set_option maxRecDepth 100000 in
theorem slX11_where_L73 {κ : sm_X} (C : sm_C κ RX11 cX11_where 11 6) : ∀ (n : Nat) (v0 : Nat) (v1 : Int32) (v3 : Int32) (v4 : Int32) (v5 : Int32) (v6 : Int32) (v7 : Int32) (hv0 : kd v0 = 11), sm_S κ (fun r : Int32 => .inr (some (.int r))) (.inl (73, [some (xad κ v0), some (.int v1), none, some (.int v3), some (.int v4), some (.int v5), some (.int v6), some (.int v7), none, none, none], [])) (fnX11_where_L73 n v0 v1 v3 v4 v5 v6 v7) := by
  intro n
  induction n with
  | zero =>
    intros
    exact sr_fail
  | succ n K73 =>
    intro v0 v1 v3 v4 v5 v6 v7 hv0
    unfold fnX11_where_L73
    refine sr_iload (i := 7) (q := 75) C (show decode cX11_where 73 = .ok (.iload 7, 2) from by decide +kernel) rfl rfl ?_
    refine sr_aload_n (i := 0) (q := 76) C (show decode cX11_where 75 = .ok (.aload_n 0, 1) from by decide +kernel) rfl rfl rfl ?_
    refine sr_getr (q := 79) C fl_X11_27 hv0 (show decode cX11_where 76 = .ok (.getfield 27, 3) from by decide +kernel) rfl ?_
    refine sr_geti (q := 82) C fl_X11_310 (Or.inl rfl) (kt hv0 kp_11_5) (show decode cX11_where 79 = .ok (.getfield 310, 3) from by decide +kernel) rfl (fun x79 => ?_)
    refine sr_icmp_ge (q := 85) C 201 (show decode cX11_where 82 = .ok (.if_icmp .ge 119, 3) from by decide +kernel) (by decide) rfl ?_ ?_
    · refine sr_iload (i := 4) (q := 203) C (show decode cX11_where 201 = .ok (.iload 4, 2) from by decide +kernel) rfl rfl ?_
      exact sr_ireturn C _ rfl (show decode cX11_where 203 = .ok (.ireturn, 1) from by decide +kernel)
    · refine sr_iconst (v := (0 : Int32)) (q := 86) C (show decode cX11_where 85 = .ok (.iconst 0, 1) from by decide +kernel) (by decide) rfl ?_
      refine sr_istore (i := 8) (L' := [some (xad κ v0), some (.int v1), none, some (.int v3), some (.int v4), some (.int v5), some (.int v6), some (.int v7), some (.int (0 : Int32)), none, none]) (q := 88) C (show decode cX11_where 86 = .ok (.istore 8, 2) from by decide +kernel) (by decide) rfl rfl ?_
      exact slX11_where_L88 C K73 4096 v0 v1 v3 v4 v5 v6 v7 (0 : Int32) hv0
def fnX11_where_J61 (v0 : Nat) (v1 : Int32) (v3 : Int32) (v4 : Int32) (v5 : Int32) (s0 : Int32) : sm_M Int32 := m_bnd (fnX2_save (lk v0 13)) fun _ => fnX11_where_L73 4096 v0 v1 v3 v4 v5 s0 (1 : Int32)
set_option maxHeartbeats 4000000 in
set_option maxRecDepth 100000 in
theorem slX11_where_J61 {κ : sm_X} (C : sm_C κ RX11 cX11_where 11 6) (v0 : Nat) (v1 : Int32) (v3 : Int32) (v4 : Int32) (v5 : Int32) (s0 : Int32) (hv0 : kd v0 = 11) : sm_S κ (fun r : Int32 => .inr (some (.int r))) (.inl (61, [some (xad κ v0), some (.int v1), none, some (.int v3), some (.int v4), some (.int v5), none, none, none, none, none], [.int s0])) (fnX11_where_J61 v0 v1 v3 v4 v5 s0) := by
  unfold fnX11_where_J61
  refine sr_istore (i := 6) (L' := [some (xad κ v0), some (.int v1), none, some (.int v3), some (.int v4), some (.int v5), some (.int s0), none, none, none, none]) (q := 63) C (show decode cX11_where 61 = .ok (.istore 6, 2) from by decide +kernel) (by decide) rfl rfl ?_
  refine sr_aload_n (i := 0) (q := 64) C (show decode cX11_where 63 = .ok (.aload_n 0, 1) from by decide +kernel) rfl rfl rfl ?_
  refine sr_getr (q := 67) C fl_X11_87 hv0 (show decode cX11_where 64 = .ok (.getfield 87, 3) from by decide +kernel) rfl ?_
  refine sr_cVv (As := []) (st := []) (b := lk v0 13) (q := 70) C yvX2_save ml_X11_342 (cnX2_save (xo κ) (lk v0 13) (kt hv0 kp_11_13)) (kt hv0 kp_11_13) (by decide) rfl rfl rfl (by decide) (by decide) (Nat.le_of_ble_eq_true rfl) rfl (show decode cX11_where 67 = .ok (.invokevirtual 342, 3) from by decide +kernel) rfl (fun _ => ?_)
  refine sr_iconst (v := (1 : Int32)) (q := 71) C (show decode cX11_where 70 = .ok (.iconst 1, 1) from by decide +kernel) (by decide) rfl ?_
  refine sr_istore (i := 7) (L' := [some (xad κ v0), some (.int v1), none, some (.int v3), some (.int v4), some (.int v5), some (.int s0), some (.int (1 : Int32)), none, none, none]) (q := 73) C (show decode cX11_where 71 = .ok (.istore 7, 2) from by decide +kernel) (by decide) rfl rfl ?_
  exact slX11_where_L73 C 4096 v0 v1 v3 v4 v5 s0 (1 : Int32) hv0
def fnX11_where_J34 (v0 : Nat) (v1 : Int32) (v2 : Int32) (s0 : Int32) : sm_M Int32 := m_br (s0 = 0)
    (m_bnd (fnX11_mostOf v0 (lk v0 6) v2 (1 : Int32)) fun x58 => fnX11_where_J61 v0 v1 s0 (-1 : Int32) (-1 : Int32) x58)
    (fnX11_where_J61 v0 v1 s0 (-1 : Int32) (-1 : Int32) (999 : Int32))
set_option maxHeartbeats 4000000 in
set_option maxRecDepth 100000 in
theorem slX11_where_J34 {κ : sm_X} (C : sm_C κ RX11 cX11_where 11 6) (v0 : Nat) (v1 : Int32) (v2 : Int32) (s0 : Int32) (hv0 : kd v0 = 11) : sm_S κ (fun r : Int32 => .inr (some (.int r))) (.inl (34, [some (xad κ v0), some (.int v1), some (.int v2), none, none, none, none, none, none, none, none], [.int s0])) (fnX11_where_J34 v0 v1 v2 s0) := by
  unfold fnX11_where_J34
  refine sr_istore_n (i := 3) (L' := [some (xad κ v0), some (.int v1), some (.int v2), some (.int s0), none, none, none, none, none, none, none]) (q := 35) C (show decode cX11_where 34 = .ok (.istore_n 3, 1) from by decide +kernel) rfl (by decide) rfl rfl ?_
  refine sr_iconst (v := (-1 : Int32)) (q := 36) C (show decode cX11_where 35 = .ok (.iconst (-1), 1) from by decide +kernel) (by decide) rfl ?_
  refine sr_istore (i := 4) (L' := [some (xad κ v0), some (.int v1), some (.int v2), some (.int s0), some (.int (-1 : Int32)), none, none, none, none, none, none]) (q := 38) C (show decode cX11_where 36 = .ok (.istore 4, 2) from by decide +kernel) (by decide) rfl rfl ?_
  refine sr_iconst (v := (-1 : Int32)) (q := 39) C (show decode cX11_where 38 = .ok (.iconst (-1), 1) from by decide +kernel) (by decide) rfl ?_
  refine sr_istore (i := 5) (L' := [some (xad κ v0), some (.int v1), some (.int v2), some (.int s0), some (.int (-1 : Int32)), some (.int (-1 : Int32)), none, none, none, none, none]) (q := 41) C (show decode cX11_where 39 = .ok (.istore 5, 2) from by decide +kernel) (by decide) rfl rfl ?_
  refine sr_iload_n (i := 3) (q := 42) C (show decode cX11_where 41 = .ok (.iload_n 3, 1) from by decide +kernel) rfl rfl rfl ?_
  refine sr_if_eq (q := 45) C 51 (show decode cX11_where 42 = .ok (.ifCond .eq 9, 3) from by decide +kernel) (by decide) rfl ?_ ?_
  · refine sr_aload_n (i := 0) (q := 52) C (show decode cX11_where 51 = .ok (.aload_n 0, 1) from by decide +kernel) rfl rfl rfl ?_
    refine sr_aload_n (i := 0) (q := 53) C (show decode cX11_where 52 = .ok (.aload_n 0, 1) from by decide +kernel) rfl rfl rfl ?_
    refine sr_getr (q := 56) C fl_X11_36 hv0 (show decode cX11_where 53 = .ok (.getfield 36, 3) from by decide +kernel) rfl ?_
    refine sr_iload_n (i := 2) (q := 57) C (show decode cX11_where 56 = .ok (.iload_n 2, 1) from by decide +kernel) rfl rfl rfl ?_
    refine sr_iconst (v := (1 : Int32)) (q := 58) C (show decode cX11_where 57 = .ok (.iconst 1, 1) from by decide +kernel) (by decide) rfl ?_
    refine sr_cVi (As := [xad κ (lk v0 6), .int v2, .int (1 : Int32)]) (st := []) (b := v0) (q := 61) C yvX11_mostOf ml_X11_307 (cnX11_mostOf (xo κ) v0 (lk v0 6) v2 (1 : Int32) hv0 (kt hv0 kp_11_6)) hv0 (by decide) rfl rfl rfl (by decide) (by decide) (Nat.le_of_ble_eq_true rfl) rfl (show decode cX11_where 58 = .ok (.invokevirtual 307, 3) from by decide +kernel) rfl (fun x58 => ?_)
    refine sr_weak (L' := [some (xad κ v0), some (.int v1), none, some (.int s0), some (.int (-1 : Int32)), some (.int (-1 : Int32)), none, none, none, none, none]) ⟨rfl, rfl, rfl, rfl, rfl, trivial⟩ ?_
    exact slX11_where_J61 C v0 v1 s0 (-1 : Int32) (-1 : Int32) x58 hv0
  · refine sr_sipush (v := (999 : Int32)) (q := 48) C (show decode cX11_where 45 = .ok (.sipush 999, 3) from by decide +kernel) (by decide) rfl ?_
    refine sr_goto (q := 61) C (show decode cX11_where 48 = .ok (.goto 13, 3) from by decide +kernel) (by decide) ?_
    refine sr_weak (L' := [some (xad κ v0), some (.int v1), none, some (.int s0), some (.int (-1 : Int32)), some (.int (-1 : Int32)), none, none, none, none, none]) ⟨rfl, rfl, rfl, rfl, rfl, trivial⟩ ?_
    exact slX11_where_J61 C v0 v1 s0 (-1 : Int32) (-1 : Int32) (999 : Int32) hv0
def fnX11_where (v0 : Nat) (v1 : Int32) (v2 : Int32) : sm_M Int32 := m_bnd (fnX11_isStride v0 v2) fun x2 => m_br ((bI x2) = 0)
    (m_ret (-2 : Int32))
    (m_bnd (fnX11_isLoad v1) fun x9 => m_br ((bI x9) = 0)
    (m_ret (-2 : Int32))
    (m_gi (lk v0 5) 1 fun x23 => m_br (v2 < x23)
    (fnX11_where_J34 v0 v1 v2 (0 : Int32))
    (fnX11_where_J34 v0 v1 v2 (1 : Int32))))
set_option maxHeartbeats 4000000 in
set_option maxRecDepth 100000 in
theorem slX11_where {κ : sm_X} (C : sm_C κ RX11 cX11_where 11 6) (v0 : Nat) (v1 : Int32) (v2 : Int32) (hv0 : kd v0 = 11) : sm_S κ (fun r : Int32 => .inr (some (.int r))) (.inl (0, [some (xad κ v0), some (.int v1), some (.int v2), none, none, none, none, none, none, none, none], [])) (fnX11_where v0 v1 v2) := by
  unfold fnX11_where
  refine sr_aload_n (i := 0) (q := 1) C (show decode cX11_where 0 = .ok (.aload_n 0, 1) from by decide +kernel) rfl rfl rfl ?_
  refine sr_iload_n (i := 2) (q := 2) C (show decode cX11_where 1 = .ok (.iload_n 2, 1) from by decide +kernel) rfl rfl rfl ?_
  refine sr_cVz (As := [.int v2]) (st := []) (b := v0) (q := 5) C yvX11_isStride ml_X11_187 (cnX11_isStride (xo κ) v0 v2 hv0) hv0 (by decide) rfl rfl rfl (by decide) (by decide) (Nat.le_of_ble_eq_true rfl) rfl (show decode cX11_where 2 = .ok (.invokevirtual 187, 3) from by decide +kernel) rfl (fun x2 => ?_)
  refine sr_if_eq (q := 8) C 15 (show decode cX11_where 5 = .ok (.ifCond .eq 10, 3) from by decide +kernel) (by decide) rfl ?_ ?_
  · refine sr_bipush (v := (-2 : Int32)) (q := 17) C (show decode cX11_where 15 = .ok (.bipush (-2), 2) from by decide +kernel) (by decide) rfl ?_
    exact sr_ireturn C _ rfl (show decode cX11_where 17 = .ok (.ireturn, 1) from by decide +kernel)
  · refine sr_iload_n (i := 1) (q := 9) C (show decode cX11_where 8 = .ok (.iload_n 1, 1) from by decide +kernel) rfl rfl rfl ?_
    refine sr_cSz (As := [.int v1]) (st := []) (q := 12) C ysX11_isLoad ml_X11_329 (cnX11_isLoad (xo κ) v1) rfl (by decide) (by decide) (Nat.le_of_ble_eq_true rfl) rfl (show decode cX11_where 9 = .ok (.invokestatic 329, 3) from by decide +kernel) rfl (fun x9 => ?_)
    refine sr_if_ne (q := 15) C 18 (show decode cX11_where 12 = .ok (.ifCond .ne 6, 3) from by decide +kernel) (by decide) rfl ?_ ?_
    · refine sr_iload_n (i := 2) (q := 19) C (show decode cX11_where 18 = .ok (.iload_n 2, 1) from by decide +kernel) rfl rfl rfl ?_
      refine sr_aload_n (i := 0) (q := 20) C (show decode cX11_where 19 = .ok (.aload_n 0, 1) from by decide +kernel) rfl rfl rfl ?_
      refine sr_getr (q := 23) C fl_X11_27 hv0 (show decode cX11_where 20 = .ok (.getfield 27, 3) from by decide +kernel) rfl ?_
      refine sr_geti (q := 26) C fl_X11_310 (Or.inl rfl) (kt hv0 kp_11_5) (show decode cX11_where 23 = .ok (.getfield 310, 3) from by decide +kernel) rfl (fun x23 => ?_)
      refine sr_icmp_lt (q := 29) C 33 (show decode cX11_where 26 = .ok (.if_icmp .lt 7, 3) from by decide +kernel) (by decide) rfl ?_ ?_
      · refine sr_iconst (v := (0 : Int32)) (q := 34) C (show decode cX11_where 33 = .ok (.iconst 0, 1) from by decide +kernel) (by decide) rfl ?_
        exact slX11_where_J34 C v0 v1 v2 (0 : Int32) hv0
      · refine sr_iconst (v := (1 : Int32)) (q := 30) C (show decode cX11_where 29 = .ok (.iconst 1, 1) from by decide +kernel) (by decide) rfl ?_
        refine sr_goto (q := 34) C (show decode cX11_where 30 = .ok (.goto 4, 3) from by decide +kernel) (by decide) ?_
        exact slX11_where_J34 C v0 v1 v2 (1 : Int32) hv0
    · refine sr_bipush (v := (-2 : Int32)) (q := 17) C (show decode cX11_where 15 = .ok (.bipush (-2), 2) from by decide +kernel) (by decide) rfl ?_
      exact sr_ireturn C _ rfl (show decode cX11_where 17 = .ok (.ireturn, 1) from by decide +kernel)
theorem cnX11_where (ω : sm_O) (v0 : Nat) (v1 : Int32) (v2 : Int32) (hv0 : kd v0 = 11) : sm_Mt 6 yX11_where cX11_where 11 (some .int) ω [.ref (ω.1 + v0), .int v1, .int v2] (fun a => some (.int a)) (fnX11_where v0 v1 v2) := by
  refine sm_conI (r := fun a => a) (by decide) (fun _ => rfl) (Nat.le_of_ble_eq_true rfl) ?_
  intro κ hκ C
  subst hκ
  exact slX11_where C v0 v1 v2 hv0
