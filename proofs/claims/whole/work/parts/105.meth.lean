def fnX8_allBelow_L2 : Nat → Nat → Int32 → Int32 → sm_M Bool
  | 0, _, _, _ => m_fail
  | n + 1, v0, v1, v2 => m_gi v0 2 fun x4 => m_br (x4 ≤ v2)
    (m_ret true)
    (m_al (lk v0 3) v2 fun x15 => m_br ((lg_cmp x15 (0 : Int64)) < 0)
    (m_ret false)
    (m_al (lk v0 3) v2 fun x26 => m_br ((lg_cmp x26 v1.toInt64) < 0)
    ((fnX8_allBelow_L2 n) v0 v1 (v2 + (1 : Int32)))
    (m_ret false)))
set_option maxHeartbeats 4000000 in
set_option maxRecDepth 100000 in
theorem slX8_allBelow_L2 {κ : sm_X} (C : sm_C κ RX8 cX8_allBelow 3 1) : ∀ (n : Nat) (v0 : Nat) (v1 : Int32) (v2 : Int32) (hv0 : kd v0 = 8), sm_S κ (fun r : Bool => .inr (some (.int (bI r)))) (.inl (2, [some (xad κ v0), some (.int v1), some (.int v2)], [])) (fnX8_allBelow_L2 n v0 v1 v2) := by
  intro n
  induction n with
  | zero =>
    intros
    exact sr_fail
  | succ n K2 =>
    intro v0 v1 v2 hv0
    unfold fnX8_allBelow_L2
    refine sr_iload_n (i := 2) (q := 3) C (show decode cX8_allBelow 2 = .ok (.iload_n 2, 1) from by decide +kernel) rfl rfl rfl ?_
    refine sr_aload_n (i := 0) (q := 4) C (show decode cX8_allBelow 3 = .ok (.aload_n 0, 1) from by decide +kernel) rfl rfl rfl ?_
    refine sr_geti (q := 7) C fl_X8_23 (Or.inl rfl) hv0 (show decode cX8_allBelow 4 = .ok (.getfield 23, 3) from by decide +kernel) rfl (fun x4 => ?_)
    refine sr_icmp_ge (q := 10) C 41 (show decode cX8_allBelow 7 = .ok (.if_icmp .ge 34, 3) from by decide +kernel) (by decide) rfl ?_ ?_
    · refine sr_iconst (v := (1 : Int32)) (q := 42) C (show decode cX8_allBelow 41 = .ok (.iconst 1, 1) from by decide +kernel) (by decide) rfl ?_
      exact sr_ireturn C true rfl (show decode cX8_allBelow 42 = .ok (.ireturn, 1) from by decide +kernel)
    · refine sr_aload_n (i := 0) (q := 11) C (show decode cX8_allBelow 10 = .ok (.aload_n 0, 1) from by decide +kernel) rfl rfl rfl ?_
      refine sr_getr (q := 14) C fl_X8_9 hv0 (show decode cX8_allBelow 11 = .ok (.getfield 9, 3) from by decide +kernel) rfl ?_
      refine sr_iload_n (i := 2) (q := 15) C (show decode cX8_allBelow 14 = .ok (.iload_n 2, 1) from by decide +kernel) rfl rfl rfl ?_
      refine sr_laload (q := 16) C (kt hv0 kp_8_3) (show decode cX8_allBelow 15 = .ok (.laload, 1) from by decide +kernel) rfl (fun x15 => ?_)
      refine sr_lconst (v := (0 : Int64)) (q := 17) C (show decode cX8_allBelow 16 = .ok (.lconst 0, 1) from by decide +kernel) (by decide) rfl ?_
      refine sr_lcmp (q := 18) C (show decode cX8_allBelow 17 = .ok (.lcmp, 1) from by decide +kernel) rfl ?_
      refine sr_if_lt (q := 21) C 33 (show decode cX8_allBelow 18 = .ok (.ifCond .lt 15, 3) from by decide +kernel) (by decide) rfl ?_ ?_
      · refine sr_iconst (v := (0 : Int32)) (q := 34) C (show decode cX8_allBelow 33 = .ok (.iconst 0, 1) from by decide +kernel) (by decide) rfl ?_
        exact sr_ireturn C false rfl (show decode cX8_allBelow 34 = .ok (.ireturn, 1) from by decide +kernel)
      · refine sr_aload_n (i := 0) (q := 22) C (show decode cX8_allBelow 21 = .ok (.aload_n 0, 1) from by decide +kernel) rfl rfl rfl ?_
        refine sr_getr (q := 25) C fl_X8_9 hv0 (show decode cX8_allBelow 22 = .ok (.getfield 9, 3) from by decide +kernel) rfl ?_
        refine sr_iload_n (i := 2) (q := 26) C (show decode cX8_allBelow 25 = .ok (.iload_n 2, 1) from by decide +kernel) rfl rfl rfl ?_
        refine sr_laload (q := 27) C (kt hv0 kp_8_3) (show decode cX8_allBelow 26 = .ok (.laload, 1) from by decide +kernel) rfl (fun x26 => ?_)
        refine sr_iload_n (i := 1) (q := 28) C (show decode cX8_allBelow 27 = .ok (.iload_n 1, 1) from by decide +kernel) rfl rfl rfl ?_
        refine sr_i2l (q := 29) C (show decode cX8_allBelow 28 = .ok (.i2l, 1) from by decide +kernel) rfl ?_
        refine sr_lcmp (q := 30) C (show decode cX8_allBelow 29 = .ok (.lcmp, 1) from by decide +kernel) rfl ?_
        refine sr_if_lt (q := 33) C 35 (show decode cX8_allBelow 30 = .ok (.ifCond .lt 5, 3) from by decide +kernel) (by decide) rfl ?_ ?_
        · refine sr_iinc (v := v2 + (1 : Int32)) (L' := [some (xad κ v0), some (.int v1), some (.int (v2 + (1 : Int32)))]) (q := 38) C (show decode cX8_allBelow 35 = .ok (.iinc 2 1, 3) from by decide +kernel) rfl rfl (by decide) rfl rfl ?_
          refine sr_goto (q := 2) C (show decode cX8_allBelow 38 = .ok (.goto (-36), 3) from by decide +kernel) (by decide) ?_
          exact K2 v0 v1 (v2 + (1 : Int32)) hv0
        · refine sr_iconst (v := (0 : Int32)) (q := 34) C (show decode cX8_allBelow 33 = .ok (.iconst 0, 1) from by decide +kernel) (by decide) rfl ?_
          exact sr_ireturn C false rfl (show decode cX8_allBelow 34 = .ok (.ireturn, 1) from by decide +kernel)
def fnX8_allBelow (v0 : Nat) (v1 : Int32) : sm_M Bool := fnX8_allBelow_L2 4096 v0 v1 (0 : Int32)
set_option maxHeartbeats 4000000 in
set_option maxRecDepth 100000 in
theorem slX8_allBelow {κ : sm_X} (C : sm_C κ RX8 cX8_allBelow 3 1) (v0 : Nat) (v1 : Int32) (hv0 : kd v0 = 8) : sm_S κ (fun r : Bool => .inr (some (.int (bI r)))) (.inl (0, [some (xad κ v0), some (.int v1), none], [])) (fnX8_allBelow v0 v1) := by
  unfold fnX8_allBelow
  refine sr_iconst (v := (0 : Int32)) (q := 1) C (show decode cX8_allBelow 0 = .ok (.iconst 0, 1) from by decide +kernel) (by decide) rfl ?_
  refine sr_istore_n (i := 2) (L' := [some (xad κ v0), some (.int v1), some (.int (0 : Int32))]) (q := 2) C (show decode cX8_allBelow 1 = .ok (.istore_n 2, 1) from by decide +kernel) rfl (by decide) rfl rfl ?_
  exact slX8_allBelow_L2 C 4096 v0 v1 (0 : Int32) hv0
theorem cnX8_allBelow (ω : sm_O) (v0 : Nat) (v1 : Int32) (hv0 : kd v0 = 8) : sm_Mt 1 yX8_allBelow cX8_allBelow 3 (some .boolean) ω [.ref (ω.1 + v0), .int v1] (fun a => some (.int (bI a))) (fnX8_allBelow v0 v1) := by
  refine sm_conI (r := bI) (by decide) bI_nar (Nat.le_of_ble_eq_true rfl) ?_
  intro κ hκ C
  subst hκ
  exact slX8_allBelow C v0 v1 hv0
def fnX11_wrongRows_J87 (s0 : Int32) : sm_M Int32 := m_br (s0 = 0)
    (m_ret (-2 : Int32))
    (m_ret (0 : Int32))
set_option maxHeartbeats 4000000 in
set_option maxRecDepth 100000 in
theorem slX11_wrongRows_J87 {κ : sm_X} (C : sm_C κ RX11 cX11_wrongRows 4 2) (s0 : Int32)  : sm_S κ (fun r : Int32 => .inr (some (.int r))) (.inl (87, [none, none, none, none], [.int s0])) (fnX11_wrongRows_J87 s0) := by
  unfold fnX11_wrongRows_J87
  refine sr_istore_n (i := 3) (L' := [none, none, none, some (.int s0)]) (q := 88) C (show decode cX11_wrongRows 87 = .ok (.istore_n 3, 1) from by decide +kernel) rfl (by decide) rfl rfl ?_
  refine sr_iload_n (i := 3) (q := 89) C (show decode cX11_wrongRows 88 = .ok (.iload_n 3, 1) from by decide +kernel) rfl rfl rfl ?_
  refine sr_if_eq (q := 92) C 96 (show decode cX11_wrongRows 89 = .ok (.ifCond .eq 7, 3) from by decide +kernel) (by decide) rfl ?_ ?_
  · refine sr_bipush (v := (-2 : Int32)) (q := 98) C (show decode cX11_wrongRows 96 = .ok (.bipush (-2), 2) from by decide +kernel) (by decide) rfl ?_
    exact sr_ireturn C _ rfl (show decode cX11_wrongRows 98 = .ok (.ireturn, 1) from by decide +kernel)
  · refine sr_iconst (v := (0 : Int32)) (q := 93) C (show decode cX11_wrongRows 92 = .ok (.iconst 0, 1) from by decide +kernel) (by decide) rfl ?_
    refine sr_goto (q := 98) C (show decode cX11_wrongRows 93 = .ok (.goto 5, 3) from by decide +kernel) (by decide) ?_
    exact sr_ireturn C _ rfl (show decode cX11_wrongRows 98 = .ok (.ireturn, 1) from by decide +kernel)
def fnX11_wrongRows_J86 : sm_M Int32 := fnX11_wrongRows_J87 (0 : Int32)
set_option maxHeartbeats 4000000 in
set_option maxRecDepth 100000 in
theorem slX11_wrongRows_J86 {κ : sm_X} (C : sm_C κ RX11 cX11_wrongRows 4 2)   : sm_S κ (fun r : Int32 => .inr (some (.int r))) (.inl (86, [none, none, none, none], [])) (fnX11_wrongRows_J86 ) := by
  unfold fnX11_wrongRows_J86
  refine sr_iconst (v := (0 : Int32)) (q := 87) C (show decode cX11_wrongRows 86 = .ok (.iconst 0, 1) from by decide +kernel) (by decide) rfl ?_
  exact slX11_wrongRows_J87 C (0 : Int32)
def fnX11_wrongRows (v0 : Nat) (v1 : Int32) (v2 : Int32) : sm_M Int32 := m_bnd (fnX11_isSlot v1) fun x1 => m_br ((bI x1) = 0)
    (m_ret (-2 : Int32))
    (m_bnd (fnX11_isSlot v2) fun x8 => m_br ((bI x8) = 0)
    (m_ret (-2 : Int32))
    (m_ap (lk v0 14) v1 fun x22 => m_gi x22 0 fun x23 => m_br (x23 = 0)
    (m_ret (-6 : Int32))
    (m_ap (lk v0 14) v2 fun x34 => m_gi x34 0 fun x35 => m_br (x35 = 0)
    (m_ret (-6 : Int32))
    (m_ap (lk v0 14) v1 fun x49 => m_gi (lk v0 5) 4 fun x54 => m_bnd (fnX8_allBelow x49 x54) fun x57 => m_br ((bI x57) = 0)
    (fnX11_wrongRows_J86 )
    (m_ap (lk v0 14) v2 fun x68 => m_gi (lk v0 5) 4 fun x73 => m_bnd (fnX8_allBelow x68 x73) fun x76 => m_br ((bI x76) = 0)
    (fnX11_wrongRows_J86 )
    (fnX11_wrongRows_J87 (1 : Int32)))))))
set_option maxHeartbeats 4000000 in
set_option maxRecDepth 100000 in
theorem slX11_wrongRows {κ : sm_X} (C : sm_C κ RX11 cX11_wrongRows 4 2) (v0 : Nat) (v1 : Int32) (v2 : Int32) (hv0 : kd v0 = 11) : sm_S κ (fun r : Int32 => .inr (some (.int r))) (.inl (0, [some (xad κ v0), some (.int v1), some (.int v2), none], [])) (fnX11_wrongRows v0 v1 v2) := by
  unfold fnX11_wrongRows
  refine sr_iload_n (i := 1) (q := 1) C (show decode cX11_wrongRows 0 = .ok (.iload_n 1, 1) from by decide +kernel) rfl rfl rfl ?_
  refine sr_cSz (As := [.int v1]) (st := []) (q := 4) C ysX11_isSlot ml_X11_228 (cnX11_isSlot (xo κ) v1) rfl (by decide) (by decide) (Nat.le_of_ble_eq_true rfl) rfl (show decode cX11_wrongRows 1 = .ok (.invokestatic 228, 3) from by decide +kernel) rfl (fun x1 => ?_)
  refine sr_if_eq (q := 7) C 14 (show decode cX11_wrongRows 4 = .ok (.ifCond .eq 10, 3) from by decide +kernel) (by decide) rfl ?_ ?_
  · refine sr_bipush (v := (-2 : Int32)) (q := 16) C (show decode cX11_wrongRows 14 = .ok (.bipush (-2), 2) from by decide +kernel) (by decide) rfl ?_
    exact sr_ireturn C _ rfl (show decode cX11_wrongRows 16 = .ok (.ireturn, 1) from by decide +kernel)
  · refine sr_iload_n (i := 2) (q := 8) C (show decode cX11_wrongRows 7 = .ok (.iload_n 2, 1) from by decide +kernel) rfl rfl rfl ?_
    refine sr_cSz (As := [.int v2]) (st := []) (q := 11) C ysX11_isSlot ml_X11_228 (cnX11_isSlot (xo κ) v2) rfl (by decide) (by decide) (Nat.le_of_ble_eq_true rfl) rfl (show decode cX11_wrongRows 8 = .ok (.invokestatic 228, 3) from by decide +kernel) rfl (fun x8 => ?_)
    refine sr_if_ne (q := 14) C 17 (show decode cX11_wrongRows 11 = .ok (.ifCond .ne 6, 3) from by decide +kernel) (by decide) rfl ?_ ?_
    · refine sr_aload_n (i := 0) (q := 18) C (show decode cX11_wrongRows 17 = .ok (.aload_n 0, 1) from by decide +kernel) rfl rfl rfl ?_
      refine sr_getr (q := 21) C fl_X11_93 hv0 (show decode cX11_wrongRows 18 = .ok (.getfield 93, 3) from by decide +kernel) rfl ?_
      refine sr_iload_n (i := 1) (q := 22) C (show decode cX11_wrongRows 21 = .ok (.iload_n 1, 1) from by decide +kernel) rfl rfl rfl ?_
      refine sr_aaload (t0 := 5) (q := 23) C (kt hv0 kp_11_14) (Or.inr (Or.inl rfl)) rfl (show decode cX11_wrongRows 22 = .ok (.aaload, 1) from by decide +kernel) rfl (fun x22 hx22 => ?_)
      refine sr_geti (q := 26) C fl_X11_231 (Or.inr rfl) hx22 (show decode cX11_wrongRows 23 = .ok (.getfield 231, 3) from by decide +kernel) rfl (fun x23 => ?_)
      refine sr_if_eq (q := 29) C 41 (show decode cX11_wrongRows 26 = .ok (.ifCond .eq 15, 3) from by decide +kernel) (by decide) rfl ?_ ?_
      · refine sr_bipush (v := (-6 : Int32)) (q := 43) C (show decode cX11_wrongRows 41 = .ok (.bipush (-6), 2) from by decide +kernel) (by decide) rfl ?_
        exact sr_ireturn C _ rfl (show decode cX11_wrongRows 43 = .ok (.ireturn, 1) from by decide +kernel)
      · refine sr_aload_n (i := 0) (q := 30) C (show decode cX11_wrongRows 29 = .ok (.aload_n 0, 1) from by decide +kernel) rfl rfl rfl ?_
        refine sr_getr (q := 33) C fl_X11_93 hv0 (show decode cX11_wrongRows 30 = .ok (.getfield 93, 3) from by decide +kernel) rfl ?_
        refine sr_iload_n (i := 2) (q := 34) C (show decode cX11_wrongRows 33 = .ok (.iload_n 2, 1) from by decide +kernel) rfl rfl rfl ?_
        refine sr_aaload (t0 := 5) (q := 35) C (kt hv0 kp_11_14) (Or.inr (Or.inl rfl)) rfl (show decode cX11_wrongRows 34 = .ok (.aaload, 1) from by decide +kernel) rfl (fun x34 hx34 => ?_)
        refine sr_geti (q := 38) C fl_X11_231 (Or.inr rfl) hx34 (show decode cX11_wrongRows 35 = .ok (.getfield 231, 3) from by decide +kernel) rfl (fun x35 => ?_)
        refine sr_if_ne (q := 41) C 44 (show decode cX11_wrongRows 38 = .ok (.ifCond .ne 6, 3) from by decide +kernel) (by decide) rfl ?_ ?_
        · refine sr_aload_n (i := 0) (q := 45) C (show decode cX11_wrongRows 44 = .ok (.aload_n 0, 1) from by decide +kernel) rfl rfl rfl ?_
          refine sr_getr (q := 48) C fl_X11_93 hv0 (show decode cX11_wrongRows 45 = .ok (.getfield 93, 3) from by decide +kernel) rfl ?_
          refine sr_iload_n (i := 1) (q := 49) C (show decode cX11_wrongRows 48 = .ok (.iload_n 1, 1) from by decide +kernel) rfl rfl rfl ?_
          refine sr_aaload (t0 := 5) (q := 50) C (kt hv0 kp_11_14) (Or.inr (Or.inl rfl)) rfl (show decode cX11_wrongRows 49 = .ok (.aaload, 1) from by decide +kernel) rfl (fun x49 hx49 => ?_)
          refine sr_aload_n (i := 0) (q := 51) C (show decode cX11_wrongRows 50 = .ok (.aload_n 0, 1) from by decide +kernel) rfl rfl rfl ?_
          refine sr_getr (q := 54) C fl_X11_27 hv0 (show decode cX11_wrongRows 51 = .ok (.getfield 27, 3) from by decide +kernel) rfl ?_
          refine sr_geti (q := 57) C fl_X11_374 (Or.inl rfl) (kt hv0 kp_11_5) (show decode cX11_wrongRows 54 = .ok (.getfield 374, 3) from by decide +kernel) rfl (fun x54 => ?_)
          refine sr_cVz (As := [.int x54]) (st := []) (b := x49) (q := 60) C yvX8_allBelow ml_X11_416 (cnX8_allBelow (xo κ) x49 x54 hx49) hx49 (by decide) rfl rfl rfl (by decide) (by decide) (Nat.le_of_ble_eq_true rfl) rfl (show decode cX11_wrongRows 57 = .ok (.invokevirtual 416, 3) from by decide +kernel) rfl (fun x57 => ?_)
          refine sr_if_eq (q := 63) C 86 (show decode cX11_wrongRows 60 = .ok (.ifCond .eq 26, 3) from by decide +kernel) (by decide) rfl ?_ ?_
          · refine sr_weak (L' := [none, none, none, none]) trivial ?_
            exact slX11_wrongRows_J86 C 
          · refine sr_aload_n (i := 0) (q := 64) C (show decode cX11_wrongRows 63 = .ok (.aload_n 0, 1) from by decide +kernel) rfl rfl rfl ?_
            refine sr_getr (q := 67) C fl_X11_93 hv0 (show decode cX11_wrongRows 64 = .ok (.getfield 93, 3) from by decide +kernel) rfl ?_
            refine sr_iload_n (i := 2) (q := 68) C (show decode cX11_wrongRows 67 = .ok (.iload_n 2, 1) from by decide +kernel) rfl rfl rfl ?_
            refine sr_aaload (t0 := 5) (q := 69) C (kt hv0 kp_11_14) (Or.inr (Or.inl rfl)) rfl (show decode cX11_wrongRows 68 = .ok (.aaload, 1) from by decide +kernel) rfl (fun x68 hx68 => ?_)
            refine sr_aload_n (i := 0) (q := 70) C (show decode cX11_wrongRows 69 = .ok (.aload_n 0, 1) from by decide +kernel) rfl rfl rfl ?_
            refine sr_getr (q := 73) C fl_X11_27 hv0 (show decode cX11_wrongRows 70 = .ok (.getfield 27, 3) from by decide +kernel) rfl ?_
            refine sr_geti (q := 76) C fl_X11_374 (Or.inl rfl) (kt hv0 kp_11_5) (show decode cX11_wrongRows 73 = .ok (.getfield 374, 3) from by decide +kernel) rfl (fun x73 => ?_)
            refine sr_cVz (As := [.int x73]) (st := []) (b := x68) (q := 79) C yvX8_allBelow ml_X11_416 (cnX8_allBelow (xo κ) x68 x73 hx68) hx68 (by decide) rfl rfl rfl (by decide) (by decide) (Nat.le_of_ble_eq_true rfl) rfl (show decode cX11_wrongRows 76 = .ok (.invokevirtual 416, 3) from by decide +kernel) rfl (fun x76 => ?_)
            refine sr_if_eq (q := 82) C 86 (show decode cX11_wrongRows 79 = .ok (.ifCond .eq 7, 3) from by decide +kernel) (by decide) rfl ?_ ?_
            · refine sr_weak (L' := [none, none, none, none]) trivial ?_
              exact slX11_wrongRows_J86 C 
            · refine sr_iconst (v := (1 : Int32)) (q := 83) C (show decode cX11_wrongRows 82 = .ok (.iconst 1, 1) from by decide +kernel) (by decide) rfl ?_
              refine sr_goto (q := 87) C (show decode cX11_wrongRows 83 = .ok (.goto 4, 3) from by decide +kernel) (by decide) ?_
              refine sr_weak (L' := [none, none, none, none]) trivial ?_
              exact slX11_wrongRows_J87 C (1 : Int32)
        · refine sr_bipush (v := (-6 : Int32)) (q := 43) C (show decode cX11_wrongRows 41 = .ok (.bipush (-6), 2) from by decide +kernel) (by decide) rfl ?_
          exact sr_ireturn C _ rfl (show decode cX11_wrongRows 43 = .ok (.ireturn, 1) from by decide +kernel)
    · refine sr_bipush (v := (-2 : Int32)) (q := 16) C (show decode cX11_wrongRows 14 = .ok (.bipush (-2), 2) from by decide +kernel) (by decide) rfl ?_
      exact sr_ireturn C _ rfl (show decode cX11_wrongRows 16 = .ok (.ireturn, 1) from by decide +kernel)
theorem cnX11_wrongRows (ω : sm_O) (v0 : Nat) (v1 : Int32) (v2 : Int32) (hv0 : kd v0 = 11) : sm_Mt 2 yX11_wrongRows cX11_wrongRows 4 (some .int) ω [.ref (ω.1 + v0), .int v1, .int v2] (fun a => some (.int a)) (fnX11_wrongRows v0 v1 v2) := by
  refine sm_conI (r := fun a => a) (by decide) (fun _ => rfl) (Nat.le_of_ble_eq_true rfl) ?_
  intro κ hκ C
  subst hκ
  exact slX11_wrongRows C v0 v1 v2 hv0
def fnX8_stones_L4 : Nat → Nat → Int32 → Int32 → sm_M Int32
  | 0, _, _, _ => m_fail
  | n + 1, v0, v1, v2 => m_gi v0 2 fun x6 => m_br (x6 ≤ v2)
    (m_ret v1)
    (m_al (lk v0 3) v2 fun x19 => m_nm (v1 ||| ((1 : Int32) <<< (x19.toInt32 &&& 31))) fun y23 => (fnX8_stones_L4 n) v0 y23 (v2 + (1 : Int32)))
set_option maxHeartbeats 4000000 in
set_option maxRecDepth 100000 in
theorem slX8_stones_L4 {κ : sm_X} (C : sm_C κ RX8 cX8_stones 3 1) : ∀ (n : Nat) (v0 : Nat) (v1 : Int32) (v2 : Int32) (hv0 : kd v0 = 8), sm_S κ (fun r : Int32 => .inr (some (.int r))) (.inl (4, [some (xad κ v0), some (.int v1), some (.int v2)], [])) (fnX8_stones_L4 n v0 v1 v2) := by
  intro n
  induction n with
  | zero =>
    intros
    exact sr_fail
  | succ n K4 =>
    intro v0 v1 v2 hv0
    unfold fnX8_stones_L4
    refine sr_iload_n (i := 2) (q := 5) C (show decode cX8_stones 4 = .ok (.iload_n 2, 1) from by decide +kernel) rfl rfl rfl ?_
    refine sr_aload_n (i := 0) (q := 6) C (show decode cX8_stones 5 = .ok (.aload_n 0, 1) from by decide +kernel) rfl rfl rfl ?_
    refine sr_geti (q := 9) C fl_X8_23 (Or.inl rfl) hv0 (show decode cX8_stones 6 = .ok (.getfield 23, 3) from by decide +kernel) rfl (fun x6 => ?_)
    refine sr_icmp_ge (q := 12) C 30 (show decode cX8_stones 9 = .ok (.if_icmp .ge 21, 3) from by decide +kernel) (by decide) rfl ?_ ?_
    · refine sr_iload_n (i := 1) (q := 31) C (show decode cX8_stones 30 = .ok (.iload_n 1, 1) from by decide +kernel) rfl rfl rfl ?_
      exact sr_ireturn C _ rfl (show decode cX8_stones 31 = .ok (.ireturn, 1) from by decide +kernel)
    · refine sr_iload_n (i := 1) (q := 13) C (show decode cX8_stones 12 = .ok (.iload_n 1, 1) from by decide +kernel) rfl rfl rfl ?_
      refine sr_iconst (v := (1 : Int32)) (q := 14) C (show decode cX8_stones 13 = .ok (.iconst 1, 1) from by decide +kernel) (by decide) rfl ?_
      refine sr_aload_n (i := 0) (q := 15) C (show decode cX8_stones 14 = .ok (.aload_n 0, 1) from by decide +kernel) rfl rfl rfl ?_
      refine sr_getr (q := 18) C fl_X8_9 hv0 (show decode cX8_stones 15 = .ok (.getfield 9, 3) from by decide +kernel) rfl ?_
      refine sr_iload_n (i := 2) (q := 19) C (show decode cX8_stones 18 = .ok (.iload_n 2, 1) from by decide +kernel) rfl rfl rfl ?_
      refine sr_laload (q := 20) C (kt hv0 kp_8_3) (show decode cX8_stones 19 = .ok (.laload, 1) from by decide +kernel) rfl (fun x19 => ?_)
      refine sr_l2i (q := 21) C (show decode cX8_stones 20 = .ok (.l2i, 1) from by decide +kernel) rfl ?_
      refine sr_ishl (q := 22) C (show decode cX8_stones 21 = .ok (.ishl, 1) from by decide +kernel) rfl ?_
      refine sr_ior (q := 23) C (show decode cX8_stones 22 = .ok (.ior, 1) from by decide +kernel) rfl ?_
      refine sr_nmi (fun y23 => ?_)
      refine sr_istore_n (i := 1) (L' := [some (xad κ v0), some (.int y23), some (.int v2)]) (q := 24) C (show decode cX8_stones 23 = .ok (.istore_n 1, 1) from by decide +kernel) rfl (by decide) rfl rfl ?_
      refine sr_iinc (v := v2 + (1 : Int32)) (L' := [some (xad κ v0), some (.int y23), some (.int (v2 + (1 : Int32)))]) (q := 27) C (show decode cX8_stones 24 = .ok (.iinc 2 1, 3) from by decide +kernel) rfl rfl (by decide) rfl rfl ?_
      refine sr_goto (q := 4) C (show decode cX8_stones 27 = .ok (.goto (-23), 3) from by decide +kernel) (by decide) ?_
      exact K4 v0 y23 (v2 + (1 : Int32)) hv0
def fnX8_stones (v0 : Nat) : sm_M Int32 := fnX8_stones_L4 4096 v0 (0 : Int32) (0 : Int32)
set_option maxHeartbeats 4000000 in
set_option maxRecDepth 100000 in
theorem slX8_stones {κ : sm_X} (C : sm_C κ RX8 cX8_stones 3 1) (v0 : Nat) (hv0 : kd v0 = 8) : sm_S κ (fun r : Int32 => .inr (some (.int r))) (.inl (0, [some (xad κ v0), none, none], [])) (fnX8_stones v0) := by
  unfold fnX8_stones
  refine sr_iconst (v := (0 : Int32)) (q := 1) C (show decode cX8_stones 0 = .ok (.iconst 0, 1) from by decide +kernel) (by decide) rfl ?_
  refine sr_istore_n (i := 1) (L' := [some (xad κ v0), some (.int (0 : Int32)), none]) (q := 2) C (show decode cX8_stones 1 = .ok (.istore_n 1, 1) from by decide +kernel) rfl (by decide) rfl rfl ?_
  refine sr_iconst (v := (0 : Int32)) (q := 3) C (show decode cX8_stones 2 = .ok (.iconst 0, 1) from by decide +kernel) (by decide) rfl ?_
  refine sr_istore_n (i := 2) (L' := [some (xad κ v0), some (.int (0 : Int32)), some (.int (0 : Int32))]) (q := 4) C (show decode cX8_stones 3 = .ok (.istore_n 2, 1) from by decide +kernel) rfl (by decide) rfl rfl ?_
  exact slX8_stones_L4 C 4096 v0 (0 : Int32) (0 : Int32) hv0
theorem cnX8_stones (ω : sm_O) (v0 : Nat) (hv0 : kd v0 = 8) : sm_Mt 1 yX8_stones cX8_stones 3 (some .int) ω [.ref (ω.1 + v0)] (fun a => some (.int a)) (fnX8_stones v0) := by
  refine sm_conI (r := fun a => a) (by decide) (fun _ => rfl) (Nat.le_of_ble_eq_true rfl) ?_
  intro κ hκ C
  subst hκ
  exact slX8_stones C v0 hv0
def fnX11_cross (v0 : Nat) (v1 : Int32) (v2 : Int32) : sm_M Int32 := m_bnd (fnX11_wrongRows v0 v1 v2) fun x3 => m_br (x3 = 0)
    (m_ap (lk v0 14) v1 fun x18 => m_bnd (fnX8_stones x18) fun x19 => m_ap (lk v0 14) v2 fun x27 => m_bnd (fnX8_stones x27) fun x28 => m_bnd (fnJ6_bitCount_0f7a4 (x19 &&& x28)) fun x32 => m_ret x32)
    (m_ret x3)
set_option maxHeartbeats 4000000 in
set_option maxRecDepth 100000 in
theorem slX11_cross {κ : sm_X} (C : sm_C κ RX11 cX11_cross 4 3) (v0 : Nat) (v1 : Int32) (v2 : Int32) (hv0 : kd v0 = 11) : sm_S κ (fun r : Int32 => .inr (some (.int r))) (.inl (0, [some (xad κ v0), some (.int v1), some (.int v2), none], [])) (fnX11_cross v0 v1 v2) := by
  unfold fnX11_cross
  refine sr_aload_n (i := 0) (q := 1) C (show decode cX11_cross 0 = .ok (.aload_n 0, 1) from by decide +kernel) rfl rfl rfl ?_
  refine sr_iload_n (i := 1) (q := 2) C (show decode cX11_cross 1 = .ok (.iload_n 1, 1) from by decide +kernel) rfl rfl rfl ?_
  refine sr_iload_n (i := 2) (q := 3) C (show decode cX11_cross 2 = .ok (.iload_n 2, 1) from by decide +kernel) rfl rfl rfl ?_
  refine sr_cVi (As := [.int v1, .int v2]) (st := []) (b := v0) (q := 6) C yvX11_wrongRows ml_X11_407 (cnX11_wrongRows (xo κ) v0 v1 v2 hv0) hv0 (by decide) rfl rfl rfl (by decide) (by decide) (Nat.le_of_ble_eq_true rfl) rfl (show decode cX11_cross 3 = .ok (.invokevirtual 407, 3) from by decide +kernel) rfl (fun x3 => ?_)
  refine sr_istore_n (i := 3) (L' := [some (xad κ v0), some (.int v1), some (.int v2), some (.int x3)]) (q := 7) C (show decode cX11_cross 6 = .ok (.istore_n 3, 1) from by decide +kernel) rfl (by decide) rfl rfl ?_
  refine sr_iload_n (i := 3) (q := 8) C (show decode cX11_cross 7 = .ok (.iload_n 3, 1) from by decide +kernel) rfl rfl rfl ?_
  refine sr_if_eq (q := 11) C 13 (show decode cX11_cross 8 = .ok (.ifCond .eq 5, 3) from by decide +kernel) (by decide) rfl ?_ ?_
  · refine sr_aload_n (i := 0) (q := 14) C (show decode cX11_cross 13 = .ok (.aload_n 0, 1) from by decide +kernel) rfl rfl rfl ?_
    refine sr_getr (q := 17) C fl_X11_93 hv0 (show decode cX11_cross 14 = .ok (.getfield 93, 3) from by decide +kernel) rfl ?_
    refine sr_iload_n (i := 1) (q := 18) C (show decode cX11_cross 17 = .ok (.iload_n 1, 1) from by decide +kernel) rfl rfl rfl ?_
    refine sr_aaload (t0 := 5) (q := 19) C (kt hv0 kp_11_14) (Or.inr (Or.inl rfl)) rfl (show decode cX11_cross 18 = .ok (.aaload, 1) from by decide +kernel) rfl (fun x18 hx18 => ?_)
    refine sr_cVi (As := []) (st := []) (b := x18) (q := 22) C yvX8_stones ml_X11_414 (cnX8_stones (xo κ) x18 hx18) hx18 (by decide) rfl rfl rfl (by decide) (by decide) (Nat.le_of_ble_eq_true rfl) rfl (show decode cX11_cross 19 = .ok (.invokevirtual 414, 3) from by decide +kernel) rfl (fun x19 => ?_)
    refine sr_aload_n (i := 0) (q := 23) C (show decode cX11_cross 22 = .ok (.aload_n 0, 1) from by decide +kernel) rfl rfl rfl ?_
    refine sr_getr (q := 26) C fl_X11_93 hv0 (show decode cX11_cross 23 = .ok (.getfield 93, 3) from by decide +kernel) rfl ?_
    refine sr_iload_n (i := 2) (q := 27) C (show decode cX11_cross 26 = .ok (.iload_n 2, 1) from by decide +kernel) rfl rfl rfl ?_
    refine sr_aaload (t0 := 5) (q := 28) C (kt hv0 kp_11_14) (Or.inr (Or.inl rfl)) rfl (show decode cX11_cross 27 = .ok (.aaload, 1) from by decide +kernel) rfl (fun x27 hx27 => ?_)
    refine sr_cVi (As := []) (st := [.int x19]) (b := x27) (q := 31) C yvX8_stones ml_X11_414 (cnX8_stones (xo κ) x27 hx27) hx27 (by decide) rfl rfl rfl (by decide) (by decide) (Nat.le_of_ble_eq_true rfl) rfl (show decode cX11_cross 28 = .ok (.invokevirtual 414, 3) from by decide +kernel) rfl (fun x28 => ?_)
    refine sr_iand (q := 32) C (show decode cX11_cross 31 = .ok (.iand, 1) from by decide +kernel) rfl ?_
    refine sr_cSi (As := [.int (x19 &&& x28)]) (st := []) (q := 35) C ysJ6_bitCount_0f7a4 ml_X11_268 (cnJ6_bitCount_0f7a4 (xo κ) (x19 &&& x28)) rfl (by decide) (by decide) (Nat.le_of_ble_eq_true rfl) rfl (show decode cX11_cross 32 = .ok (.invokestatic 268, 3) from by decide +kernel) rfl (fun x32 => ?_)
    exact sr_ireturn C _ rfl (show decode cX11_cross 35 = .ok (.ireturn, 1) from by decide +kernel)
  · refine sr_iload_n (i := 3) (q := 12) C (show decode cX11_cross 11 = .ok (.iload_n 3, 1) from by decide +kernel) rfl rfl rfl ?_
    exact sr_ireturn C _ rfl (show decode cX11_cross 12 = .ok (.ireturn, 1) from by decide +kernel)
theorem cnX11_cross (ω : sm_O) (v0 : Nat) (v1 : Int32) (v2 : Int32) (hv0 : kd v0 = 11) : sm_Mt 3 yX11_cross cX11_cross 4 (some .int) ω [.ref (ω.1 + v0), .int v1, .int v2] (fun a => some (.int a)) (fnX11_cross v0 v1 v2) := by
  refine sm_conI (r := fun a => a) (by decide) (fun _ => rfl) (Nat.le_of_ble_eq_true rfl) ?_
  intro κ hκ C
  subst hκ
  exact slX11_cross C v0 v1 v2 hv0
def fnX2_barring (v0 : Nat) : sm_M Int32 := m_gi (lk v0 1) 3 fun x4 => m_gi (lk v0 1) 4 fun x11 => m_ret (x4 &&& (x11 ^^^ (-1 : Int32)))
set_option maxHeartbeats 4000000 in
set_option maxRecDepth 100000 in
theorem slX2_barring {κ : sm_X} (C : sm_C κ RX2 cX2_barring 1 1) (v0 : Nat) (hv0 : kd v0 = 2) : sm_S κ (fun r : Int32 => .inr (some (.int r))) (.inl (0, [some (xad κ v0)], [])) (fnX2_barring v0) := by
  unfold fnX2_barring
  refine sr_aload_n (i := 0) (q := 1) C (show decode cX2_barring 0 = .ok (.aload_n 0, 1) from by decide +kernel) rfl rfl rfl ?_
  refine sr_getr (q := 4) C fl_X2_14 hv0 (show decode cX2_barring 1 = .ok (.getfield 14, 3) from by decide +kernel) rfl ?_
  refine sr_geti (q := 7) C fl_X2_123 (Or.inl rfl) (kt hv0 kp_2_1) (show decode cX2_barring 4 = .ok (.getfield 123, 3) from by decide +kernel) rfl (fun x4 => ?_)
  refine sr_aload_n (i := 0) (q := 8) C (show decode cX2_barring 7 = .ok (.aload_n 0, 1) from by decide +kernel) rfl rfl rfl ?_
  refine sr_getr (q := 11) C fl_X2_14 hv0 (show decode cX2_barring 8 = .ok (.getfield 14, 3) from by decide +kernel) rfl ?_
  refine sr_geti (q := 14) C fl_X2_120 (Or.inl rfl) (kt hv0 kp_2_1) (show decode cX2_barring 11 = .ok (.getfield 120, 3) from by decide +kernel) rfl (fun x11 => ?_)
  refine sr_iconst (v := (-1 : Int32)) (q := 15) C (show decode cX2_barring 14 = .ok (.iconst (-1), 1) from by decide +kernel) (by decide) rfl ?_
  refine sr_ixor (q := 16) C (show decode cX2_barring 15 = .ok (.ixor, 1) from by decide +kernel) rfl ?_
  refine sr_iand (q := 17) C (show decode cX2_barring 16 = .ok (.iand, 1) from by decide +kernel) rfl ?_
  exact sr_ireturn C _ rfl (show decode cX2_barring 17 = .ok (.ireturn, 1) from by decide +kernel)
theorem cnX2_barring (ω : sm_O) (v0 : Nat) (hv0 : kd v0 = 2) : sm_Mt 1 yX2_barring cX2_barring 1 (some .int) ω [.ref (ω.1 + v0)] (fun a => some (.int a)) (fnX2_barring v0) := by
  refine sm_conI (r := fun a => a) (by decide) (fun _ => rfl) (Nat.le_of_ble_eq_true rfl) ?_
  intro κ hκ C
  subst hκ
  exact slX2_barring C v0 hv0
def fnX11_cut (v0 : Nat) (v1 : Int32) (v2 : Int32) : sm_M Int32 := m_bnd (fnX11_isStride v0 v1) fun x2 => m_br ((bI x2) = 0)
    (m_ret (-2 : Int32))
    (m_bnd (fnX11_isWeight v2) fun x9 => m_br ((bI x9) = 0)
    (m_ret (-2 : Int32))
    (m_bnd (fnX11_mostOf v0 (lk v0 6) v1 v2) fun x25 => m_br (x25 = (999 : Int32))
    (m_ret (0 : Int32))
    (m_bnd (fnX2_barring (lk v0 13)) fun x42 => m_ret x42)))
set_option maxHeartbeats 4000000 in
set_option maxRecDepth 100000 in
theorem slX11_cut {κ : sm_X} (C : sm_C κ RX11 cX11_cut 3 6) (v0 : Nat) (v1 : Int32) (v2 : Int32) (hv0 : kd v0 = 11) : sm_S κ (fun r : Int32 => .inr (some (.int r))) (.inl (0, [some (xad κ v0), some (.int v1), some (.int v2)], [])) (fnX11_cut v0 v1 v2) := by
  unfold fnX11_cut
  refine sr_aload_n (i := 0) (q := 1) C (show decode cX11_cut 0 = .ok (.aload_n 0, 1) from by decide +kernel) rfl rfl rfl ?_
  refine sr_iload_n (i := 1) (q := 2) C (show decode cX11_cut 1 = .ok (.iload_n 1, 1) from by decide +kernel) rfl rfl rfl ?_
  refine sr_cVz (As := [.int v1]) (st := []) (b := v0) (q := 5) C yvX11_isStride ml_X11_187 (cnX11_isStride (xo κ) v0 v1 hv0) hv0 (by decide) rfl rfl rfl (by decide) (by decide) (Nat.le_of_ble_eq_true rfl) rfl (show decode cX11_cut 2 = .ok (.invokevirtual 187, 3) from by decide +kernel) rfl (fun x2 => ?_)
  refine sr_if_eq (q := 8) C 15 (show decode cX11_cut 5 = .ok (.ifCond .eq 10, 3) from by decide +kernel) (by decide) rfl ?_ ?_
  · refine sr_bipush (v := (-2 : Int32)) (q := 17) C (show decode cX11_cut 15 = .ok (.bipush (-2), 2) from by decide +kernel) (by decide) rfl ?_
    exact sr_ireturn C _ rfl (show decode cX11_cut 17 = .ok (.ireturn, 1) from by decide +kernel)
  · refine sr_iload_n (i := 2) (q := 9) C (show decode cX11_cut 8 = .ok (.iload_n 2, 1) from by decide +kernel) rfl rfl rfl ?_
    refine sr_cSz (As := [.int v2]) (st := []) (q := 12) C ysX11_isWeight ml_X11_211 (cnX11_isWeight (xo κ) v2) rfl (by decide) (by decide) (Nat.le_of_ble_eq_true rfl) rfl (show decode cX11_cut 9 = .ok (.invokestatic 211, 3) from by decide +kernel) rfl (fun x9 => ?_)
    refine sr_if_ne (q := 15) C 18 (show decode cX11_cut 12 = .ok (.ifCond .ne 6, 3) from by decide +kernel) (by decide) rfl ?_ ?_
    · refine sr_aload_n (i := 0) (q := 19) C (show decode cX11_cut 18 = .ok (.aload_n 0, 1) from by decide +kernel) rfl rfl rfl ?_
      refine sr_aload_n (i := 0) (q := 20) C (show decode cX11_cut 19 = .ok (.aload_n 0, 1) from by decide +kernel) rfl rfl rfl ?_
      refine sr_getr (q := 23) C fl_X11_36 hv0 (show decode cX11_cut 20 = .ok (.getfield 36, 3) from by decide +kernel) rfl ?_
      refine sr_iload_n (i := 1) (q := 24) C (show decode cX11_cut 23 = .ok (.iload_n 1, 1) from by decide +kernel) rfl rfl rfl ?_
      refine sr_iload_n (i := 2) (q := 25) C (show decode cX11_cut 24 = .ok (.iload_n 2, 1) from by decide +kernel) rfl rfl rfl ?_
      refine sr_cVi (As := [xad κ (lk v0 6), .int v1, .int v2]) (st := []) (b := v0) (q := 28) C yvX11_mostOf ml_X11_307 (cnX11_mostOf (xo κ) v0 (lk v0 6) v1 v2 hv0 (kt hv0 kp_11_6)) hv0 (by decide) rfl rfl rfl (by decide) (by decide) (Nat.le_of_ble_eq_true rfl) rfl (show decode cX11_cut 25 = .ok (.invokevirtual 307, 3) from by decide +kernel) rfl (fun x25 => ?_)
      refine sr_sipush (v := (999 : Int32)) (q := 31) C (show decode cX11_cut 28 = .ok (.sipush 999, 3) from by decide +kernel) (by decide) rfl ?_
      refine sr_icmp_ne (q := 34) C 38 (show decode cX11_cut 31 = .ok (.if_icmp .ne 7, 3) from by decide +kernel) (by decide) rfl ?_ ?_
      · refine sr_aload_n (i := 0) (q := 39) C (show decode cX11_cut 38 = .ok (.aload_n 0, 1) from by decide +kernel) rfl rfl rfl ?_
        refine sr_getr (q := 42) C fl_X11_87 hv0 (show decode cX11_cut 39 = .ok (.getfield 87, 3) from by decide +kernel) rfl ?_
        refine sr_cVi (As := []) (st := []) (b := lk v0 13) (q := 45) C yvX2_barring ml_X11_319 (cnX2_barring (xo κ) (lk v0 13) (kt hv0 kp_11_13)) (kt hv0 kp_11_13) (by decide) rfl rfl rfl (by decide) (by decide) (Nat.le_of_ble_eq_true rfl) rfl (show decode cX11_cut 42 = .ok (.invokevirtual 319, 3) from by decide +kernel) rfl (fun x42 => ?_)
        exact sr_ireturn C _ rfl (show decode cX11_cut 45 = .ok (.ireturn, 1) from by decide +kernel)
      · refine sr_iconst (v := (0 : Int32)) (q := 35) C (show decode cX11_cut 34 = .ok (.iconst 0, 1) from by decide +kernel) (by decide) rfl ?_
        refine sr_goto (q := 45) C (show decode cX11_cut 35 = .ok (.goto 10, 3) from by decide +kernel) (by decide) ?_
        exact sr_ireturn C _ rfl (show decode cX11_cut 45 = .ok (.ireturn, 1) from by decide +kernel)
    · refine sr_bipush (v := (-2 : Int32)) (q := 17) C (show decode cX11_cut 15 = .ok (.bipush (-2), 2) from by decide +kernel) (by decide) rfl ?_
      exact sr_ireturn C _ rfl (show decode cX11_cut 17 = .ok (.ireturn, 1) from by decide +kernel)
theorem cnX11_cut (ω : sm_O) (v0 : Nat) (v1 : Int32) (v2 : Int32) (hv0 : kd v0 = 11) : sm_Mt 6 yX11_cut cX11_cut 3 (some .int) ω [.ref (ω.1 + v0), .int v1, .int v2] (fun a => some (.int a)) (fnX11_cut v0 v1 v2) := by
  refine sm_conI (r := fun a => a) (by decide) (fun _ => rfl) (Nat.le_of_ble_eq_true rfl) ?_
  intro κ hκ C
  subst hκ
  exact slX11_cut C v0 v1 v2 hv0
def fnX9_wash_L4 : Nat → Nat → Int32 → Int32 → sm_M Int32
  | 0, _, _, _ => m_fail
  | n + 1, v0, v1, v2 => m_br ((24 : Int32) ≤ v2)
    (m_ret v1)
    (m_ai (lk v0 2) v2 fun x16 => m_nm (v1 + x16) fun y18 => m_sai (lk v0 2) v2 (0 : Int32) <| (fnX9_wash_L4 n) v0 y18 (v2 + (1 : Int32)))
set_option maxHeartbeats 4000000 in
set_option maxRecDepth 100000 in
theorem slX9_wash_L4 {κ : sm_X} (C : sm_C κ RX9 cX9_wash 3 1) : ∀ (n : Nat) (v0 : Nat) (v1 : Int32) (v2 : Int32) (hv0 : kd v0 = 9), sm_S κ (fun r : Int32 => .inr (some (.int r))) (.inl (4, [some (xad κ v0), some (.int v1), some (.int v2)], [])) (fnX9_wash_L4 n v0 v1 v2) := by
  intro n
  induction n with
  | zero =>
    intros
    exact sr_fail
  | succ n K4 =>
    intro v0 v1 v2 hv0
    unfold fnX9_wash_L4
    refine sr_iload_n (i := 2) (q := 5) C (show decode cX9_wash 4 = .ok (.iload_n 2, 1) from by decide +kernel) rfl rfl rfl ?_
    refine sr_bipush (v := (24 : Int32)) (q := 7) C (show decode cX9_wash 5 = .ok (.bipush 24, 2) from by decide +kernel) (by decide) rfl ?_
    refine sr_icmp_ge (q := 10) C 32 (show decode cX9_wash 7 = .ok (.if_icmp .ge 25, 3) from by decide +kernel) (by decide) rfl ?_ ?_
    · refine sr_iload_n (i := 1) (q := 33) C (show decode cX9_wash 32 = .ok (.iload_n 1, 1) from by decide +kernel) rfl rfl rfl ?_
      exact sr_ireturn C _ rfl (show decode cX9_wash 33 = .ok (.ireturn, 1) from by decide +kernel)
    · refine sr_iload_n (i := 1) (q := 11) C (show decode cX9_wash 10 = .ok (.iload_n 1, 1) from by decide +kernel) rfl rfl rfl ?_
      refine sr_aload_n (i := 0) (q := 12) C (show decode cX9_wash 11 = .ok (.aload_n 0, 1) from by decide +kernel) rfl rfl rfl ?_
      refine sr_getr (q := 15) C fl_X9_9 hv0 (show decode cX9_wash 12 = .ok (.getfield 9, 3) from by decide +kernel) rfl ?_
      refine sr_iload_n (i := 2) (q := 16) C (show decode cX9_wash 15 = .ok (.iload_n 2, 1) from by decide +kernel) rfl rfl rfl ?_
      refine sr_iaload (q := 17) C (kt hv0 kp_9_2) (show decode cX9_wash 16 = .ok (.iaload, 1) from by decide +kernel) rfl (fun x16 => ?_)
      refine sr_iadd (q := 18) C (show decode cX9_wash 17 = .ok (.iadd, 1) from by decide +kernel) rfl ?_
      refine sr_nmi (fun y18 => ?_)
      refine sr_istore_n (i := 1) (L' := [some (xad κ v0), some (.int y18), some (.int v2)]) (q := 19) C (show decode cX9_wash 18 = .ok (.istore_n 1, 1) from by decide +kernel) rfl (by decide) rfl rfl ?_
      refine sr_aload_n (i := 0) (q := 20) C (show decode cX9_wash 19 = .ok (.aload_n 0, 1) from by decide +kernel) rfl rfl rfl ?_
      refine sr_getr (q := 23) C fl_X9_9 hv0 (show decode cX9_wash 20 = .ok (.getfield 9, 3) from by decide +kernel) rfl ?_
      refine sr_iload_n (i := 2) (q := 24) C (show decode cX9_wash 23 = .ok (.iload_n 2, 1) from by decide +kernel) rfl rfl rfl ?_
      refine sr_iconst (v := (0 : Int32)) (q := 25) C (show decode cX9_wash 24 = .ok (.iconst 0, 1) from by decide +kernel) (by decide) rfl ?_
      refine sr_iastore (q := 26) C (kt hv0 kp_9_2) (show decode cX9_wash 25 = .ok (.iastore, 1) from by decide +kernel) rfl ?_
      refine sr_iinc (v := v2 + (1 : Int32)) (L' := [some (xad κ v0), some (.int y18), some (.int (v2 + (1 : Int32)))]) (q := 29) C (show decode cX9_wash 26 = .ok (.iinc 2 1, 3) from by decide +kernel) rfl rfl (by decide) rfl rfl ?_
      refine sr_goto (q := 4) C (show decode cX9_wash 29 = .ok (.goto (-25), 3) from by decide +kernel) (by decide) ?_
      exact K4 v0 y18 (v2 + (1 : Int32)) hv0
def fnX9_wash (v0 : Nat) : sm_M Int32 := fnX9_wash_L4 4096 v0 (0 : Int32) (0 : Int32)
set_option maxHeartbeats 4000000 in
set_option maxRecDepth 100000 in
theorem slX9_wash {κ : sm_X} (C : sm_C κ RX9 cX9_wash 3 1) (v0 : Nat) (hv0 : kd v0 = 9) : sm_S κ (fun r : Int32 => .inr (some (.int r))) (.inl (0, [some (xad κ v0), none, none], [])) (fnX9_wash v0) := by
  unfold fnX9_wash
  refine sr_iconst (v := (0 : Int32)) (q := 1) C (show decode cX9_wash 0 = .ok (.iconst 0, 1) from by decide +kernel) (by decide) rfl ?_
  refine sr_istore_n (i := 1) (L' := [some (xad κ v0), some (.int (0 : Int32)), none]) (q := 2) C (show decode cX9_wash 1 = .ok (.istore_n 1, 1) from by decide +kernel) rfl (by decide) rfl rfl ?_
  refine sr_iconst (v := (0 : Int32)) (q := 3) C (show decode cX9_wash 2 = .ok (.iconst 0, 1) from by decide +kernel) (by decide) rfl ?_
  refine sr_istore_n (i := 2) (L' := [some (xad κ v0), some (.int (0 : Int32)), some (.int (0 : Int32))]) (q := 4) C (show decode cX9_wash 3 = .ok (.istore_n 2, 1) from by decide +kernel) rfl (by decide) rfl rfl ?_
  exact slX9_wash_L4 C 4096 v0 (0 : Int32) (0 : Int32) hv0
theorem cnX9_wash (ω : sm_O) (v0 : Nat) (hv0 : kd v0 = 9) : sm_Mt 1 yX9_wash cX9_wash 3 (some .int) ω [.ref (ω.1 + v0)] (fun a => some (.int a)) (fnX9_wash v0) := by
  refine sm_conI (r := fun a => a) (by decide) (fun _ => rfl) (Nat.le_of_ble_eq_true rfl) ?_
  intro κ hκ C
  subst hκ
  exact slX9_wash C v0 hv0
def fnX11_days_L24 : Nat → Nat → Int32 → Int32 → sm_M Int32
  | 0, _, _, _ => m_fail
  | n + 1, v0, v1, v2 => m_br ((8 : Int32) < v2)
    (m_ret (-1 : Int32))
    (m_bnd (fnX9_peopleAt (lk v0 7) (98 : Int32)) fun x36 => m_br (x36 = 0)
    (m_ret v2)
    (m_bnd (fnX9_wash (lk v0 7)) fun x48 => m_bnd (fnX0_sendOver (lk v0 10) (lk v0 7) v1) fun x61 => m_br (x61 = 0)
    (m_ret (-1 : Int32))
    ((fnX11_days_L24 n) v0 v1 (v2 + (1 : Int32)))))
set_option maxHeartbeats 4000000 in
set_option maxRecDepth 100000 in
theorem slX11_days_L24 {κ : sm_X} (C : sm_C κ RX11 cX11_days 3 7) : ∀ (n : Nat) (v0 : Nat) (v1 : Int32) (v2 : Int32) (hv0 : kd v0 = 11), sm_S κ (fun r : Int32 => .inr (some (.int r))) (.inl (24, [some (xad κ v0), some (.int v1), some (.int v2)], [])) (fnX11_days_L24 n v0 v1 v2) := by
  intro n
  induction n with
  | zero =>
    intros
    exact sr_fail
  | succ n K24 =>
    intro v0 v1 v2 hv0
    unfold fnX11_days_L24
    refine sr_iload_n (i := 2) (q := 25) C (show decode cX11_days 24 = .ok (.iload_n 2, 1) from by decide +kernel) rfl rfl rfl ?_
    refine sr_bipush (v := (8 : Int32)) (q := 27) C (show decode cX11_days 25 = .ok (.bipush 8, 2) from by decide +kernel) (by decide) rfl ?_
    refine sr_icmp_gt (q := 30) C 75 (show decode cX11_days 27 = .ok (.if_icmp .gt 48, 3) from by decide +kernel) (by decide) rfl ?_ ?_
    · refine sr_iconst (v := (-1 : Int32)) (q := 76) C (show decode cX11_days 75 = .ok (.iconst (-1), 1) from by decide +kernel) (by decide) rfl ?_
      exact sr_ireturn C _ rfl (show decode cX11_days 76 = .ok (.ireturn, 1) from by decide +kernel)
    · refine sr_aload_n (i := 0) (q := 31) C (show decode cX11_days 30 = .ok (.aload_n 0, 1) from by decide +kernel) rfl rfl rfl ?_
      refine sr_getr (q := 34) C fl_X11_40 hv0 (show decode cX11_days 31 = .ok (.getfield 40, 3) from by decide +kernel) rfl ?_
      refine sr_bipush (v := (98 : Int32)) (q := 36) C (show decode cX11_days 34 = .ok (.bipush 98, 2) from by decide +kernel) (by decide) rfl ?_
      refine sr_cVi (As := [.int (98 : Int32)]) (st := []) (b := lk v0 7) (q := 39) C yvX9_peopleAt ml_X11_300 (cnX9_peopleAt (xo κ) (lk v0 7) (98 : Int32) (kt hv0 kp_11_7)) (kt hv0 kp_11_7) (by decide) rfl rfl rfl (by decide) (by decide) (Nat.le_of_ble_eq_true rfl) rfl (show decode cX11_days 36 = .ok (.invokevirtual 300, 3) from by decide +kernel) rfl (fun x36 => ?_)
      refine sr_if_ne (q := 42) C 44 (show decode cX11_days 39 = .ok (.ifCond .ne 5, 3) from by decide +kernel) (by decide) rfl ?_ ?_
      · refine sr_aload_n (i := 0) (q := 45) C (show decode cX11_days 44 = .ok (.aload_n 0, 1) from by decide +kernel) rfl rfl rfl ?_
        refine sr_getr (q := 48) C fl_X11_40 hv0 (show decode cX11_days 45 = .ok (.getfield 40, 3) from by decide +kernel) rfl ?_
        refine sr_cVi (As := []) (st := []) (b := lk v0 7) (q := 51) C yvX9_wash ml_X11_207 (cnX9_wash (xo κ) (lk v0 7) (kt hv0 kp_11_7)) (kt hv0 kp_11_7) (by decide) rfl rfl rfl (by decide) (by decide) (Nat.le_of_ble_eq_true rfl) rfl (show decode cX11_days 48 = .ok (.invokevirtual 207, 3) from by decide +kernel) rfl (fun x48 => ?_)
        refine sr_pop (q := 52) C (show decode cX11_days 51 = .ok (.pop, 1) from by decide +kernel) rfl rfl ?_
        refine sr_aload_n (i := 0) (q := 53) C (show decode cX11_days 52 = .ok (.aload_n 0, 1) from by decide +kernel) rfl rfl rfl ?_
        refine sr_getr (q := 56) C fl_X11_64 hv0 (show decode cX11_days 53 = .ok (.getfield 64, 3) from by decide +kernel) rfl ?_
        refine sr_aload_n (i := 0) (q := 57) C (show decode cX11_days 56 = .ok (.aload_n 0, 1) from by decide +kernel) rfl rfl rfl ?_
        refine sr_getr (q := 60) C fl_X11_40 hv0 (show decode cX11_days 57 = .ok (.getfield 40, 3) from by decide +kernel) rfl ?_
        refine sr_iload_n (i := 1) (q := 61) C (show decode cX11_days 60 = .ok (.iload_n 1, 1) from by decide +kernel) rfl rfl rfl ?_
        refine sr_cVi (As := [xad κ (lk v0 7), .int v1]) (st := []) (b := lk v0 10) (q := 64) C yvX0_sendOver ml_X11_279 (cnX0_sendOver (xo κ) (lk v0 10) (lk v0 7) v1 (kt hv0 kp_11_10) (kt hv0 kp_11_7)) (kt hv0 kp_11_10) (by decide) rfl rfl rfl (by decide) (by decide) (Nat.le_of_ble_eq_true rfl) rfl (show decode cX11_days 61 = .ok (.invokevirtual 279, 3) from by decide +kernel) rfl (fun x61 => ?_)
        refine sr_if_ne (q := 67) C 69 (show decode cX11_days 64 = .ok (.ifCond .ne 5, 3) from by decide +kernel) (by decide) rfl ?_ ?_
        · refine sr_iinc (v := v2 + (1 : Int32)) (L' := [some (xad κ v0), some (.int v1), some (.int (v2 + (1 : Int32)))]) (q := 72) C (show decode cX11_days 69 = .ok (.iinc 2 1, 3) from by decide +kernel) rfl rfl (by decide) rfl rfl ?_
          refine sr_goto (q := 24) C (show decode cX11_days 72 = .ok (.goto (-48), 3) from by decide +kernel) (by decide) ?_
          exact K24 v0 v1 (v2 + (1 : Int32)) hv0
        · refine sr_iconst (v := (-1 : Int32)) (q := 68) C (show decode cX11_days 67 = .ok (.iconst (-1), 1) from by decide +kernel) (by decide) rfl ?_
          exact sr_ireturn C _ rfl (show decode cX11_days 68 = .ok (.ireturn, 1) from by decide +kernel)
      · refine sr_iload_n (i := 2) (q := 43) C (show decode cX11_days 42 = .ok (.iload_n 2, 1) from by decide +kernel) rfl rfl rfl ?_
        exact sr_ireturn C _ rfl (show decode cX11_days 43 = .ok (.ireturn, 1) from by decide +kernel)
def fnX11_days (v0 : Nat) (v1 : Int32) : sm_M Int32 := m_bnd (fnX11_isWay v0 v1) fun x2 => m_br ((bI x2) = 0)
    (m_ret (-2 : Int32))
    (m_bnd (fnX9_takeFrom (lk v0 7) (lk v0 6)) fun _ => fnX11_days_L24 4096 v0 v1 (0 : Int32))
set_option maxHeartbeats 4000000 in
set_option maxRecDepth 100000 in
theorem slX11_days {κ : sm_X} (C : sm_C κ RX11 cX11_days 3 7) (v0 : Nat) (v1 : Int32) (hv0 : kd v0 = 11) : sm_S κ (fun r : Int32 => .inr (some (.int r))) (.inl (0, [some (xad κ v0), some (.int v1), none], [])) (fnX11_days v0 v1) := by
  unfold fnX11_days
  refine sr_aload_n (i := 0) (q := 1) C (show decode cX11_days 0 = .ok (.aload_n 0, 1) from by decide +kernel) rfl rfl rfl ?_
  refine sr_iload_n (i := 1) (q := 2) C (show decode cX11_days 1 = .ok (.iload_n 1, 1) from by decide +kernel) rfl rfl rfl ?_
  refine sr_cVz (As := [.int v1]) (st := []) (b := v0) (q := 5) C yvX11_isWay ml_X11_214 (cnX11_isWay (xo κ) v0 v1 hv0) hv0 (by decide) rfl rfl rfl (by decide) (by decide) (Nat.le_of_ble_eq_true rfl) rfl (show decode cX11_days 2 = .ok (.invokevirtual 214, 3) from by decide +kernel) rfl (fun x2 => ?_)
  refine sr_if_ne (q := 8) C 11 (show decode cX11_days 5 = .ok (.ifCond .ne 6, 3) from by decide +kernel) (by decide) rfl ?_ ?_
  · refine sr_aload_n (i := 0) (q := 12) C (show decode cX11_days 11 = .ok (.aload_n 0, 1) from by decide +kernel) rfl rfl rfl ?_
    refine sr_getr (q := 15) C fl_X11_40 hv0 (show decode cX11_days 12 = .ok (.getfield 40, 3) from by decide +kernel) rfl ?_
    refine sr_aload_n (i := 0) (q := 16) C (show decode cX11_days 15 = .ok (.aload_n 0, 1) from by decide +kernel) rfl rfl rfl ?_
    refine sr_getr (q := 19) C fl_X11_36 hv0 (show decode cX11_days 16 = .ok (.getfield 36, 3) from by decide +kernel) rfl ?_
    refine sr_cVv (As := [xad κ (lk v0 6)]) (st := []) (b := lk v0 7) (q := 22) C yvX9_takeFrom ml_X11_239 (cnX9_takeFrom (xo κ) (lk v0 7) (lk v0 6) (kt hv0 kp_11_7) (kt hv0 kp_11_6)) (kt hv0 kp_11_7) (by decide) rfl rfl rfl (by decide) (by decide) (Nat.le_of_ble_eq_true rfl) rfl (show decode cX11_days 19 = .ok (.invokevirtual 239, 3) from by decide +kernel) rfl (fun _ => ?_)
    refine sr_iconst (v := (0 : Int32)) (q := 23) C (show decode cX11_days 22 = .ok (.iconst 0, 1) from by decide +kernel) (by decide) rfl ?_
    refine sr_istore_n (i := 2) (L' := [some (xad κ v0), some (.int v1), some (.int (0 : Int32))]) (q := 24) C (show decode cX11_days 23 = .ok (.istore_n 2, 1) from by decide +kernel) rfl (by decide) rfl rfl ?_
    exact slX11_days_L24 C 4096 v0 v1 (0 : Int32) hv0
  · refine sr_bipush (v := (-2 : Int32)) (q := 10) C (show decode cX11_days 8 = .ok (.bipush (-2), 2) from by decide +kernel) (by decide) rfl ?_
    exact sr_ireturn C _ rfl (show decode cX11_days 10 = .ok (.ireturn, 1) from by decide +kernel)
theorem cnX11_days (ω : sm_O) (v0 : Nat) (v1 : Int32) (hv0 : kd v0 = 11) : sm_Mt 7 yX11_days cX11_days 3 (some .int) ω [.ref (ω.1 + v0), .int v1] (fun a => some (.int a)) (fnX11_days v0 v1) := by
  refine sm_conI (r := fun a => a) (by decide) (fun _ => rfl) (Nat.le_of_ble_eq_true rfl) ?_
  intro κ hκ C
  subst hκ
  exact slX11_days C v0 v1 hv0
def fnX11_end (v0 : Nat) (v1 : Int32) : sm_M Int32 := m_br (v1 < 0)
    (m_ret (-1 : Int32))
    (m_gi v0 1 fun x6 => m_br (v1 ≤ x6)
    (m_si v0 1 v1 <| m_ret v1)
    (m_ret (-1 : Int32)))
set_option maxHeartbeats 4000000 in
set_option maxRecDepth 100000 in
theorem slX11_end {κ : sm_X} (C : sm_C κ RX11 cX11_end 2 1) (v0 : Nat) (v1 : Int32) (hv0 : kd v0 = 11) : sm_S κ (fun r : Int32 => .inr (some (.int r))) (.inl (0, [some (xad κ v0), some (.int v1)], [])) (fnX11_end v0 v1) := by
  unfold fnX11_end
  refine sr_iload_n (i := 1) (q := 1) C (show decode cX11_end 0 = .ok (.iload_n 1, 1) from by decide +kernel) rfl rfl rfl ?_
  refine sr_if_lt (q := 4) C 12 (show decode cX11_end 1 = .ok (.ifCond .lt 11, 3) from by decide +kernel) (by decide) rfl ?_ ?_
  · refine sr_iconst (v := (-1 : Int32)) (q := 13) C (show decode cX11_end 12 = .ok (.iconst (-1), 1) from by decide +kernel) (by decide) rfl ?_
    exact sr_ireturn C _ rfl (show decode cX11_end 13 = .ok (.ireturn, 1) from by decide +kernel)
  · refine sr_iload_n (i := 1) (q := 5) C (show decode cX11_end 4 = .ok (.iload_n 1, 1) from by decide +kernel) rfl rfl rfl ?_
    refine sr_aload_n (i := 0) (q := 6) C (show decode cX11_end 5 = .ok (.aload_n 0, 1) from by decide +kernel) rfl rfl rfl ?_
    refine sr_geti (q := 9) C fl_X11_110 (Or.inl rfl) hv0 (show decode cX11_end 6 = .ok (.getfield 110, 3) from by decide +kernel) rfl (fun x6 => ?_)
    refine sr_icmp_le (q := 12) C 14 (show decode cX11_end 9 = .ok (.if_icmp .le 5, 3) from by decide +kernel) (by decide) rfl ?_ ?_
    · refine sr_aload_n (i := 0) (q := 15) C (show decode cX11_end 14 = .ok (.aload_n 0, 1) from by decide +kernel) rfl rfl rfl ?_
      refine sr_iload_n (i := 1) (q := 16) C (show decode cX11_end 15 = .ok (.iload_n 1, 1) from by decide +kernel) rfl rfl rfl ?_
      refine sr_puti (q := 19) C fp_X11_110 hv0 (show decode cX11_end 16 = .ok (.putfield 110, 3) from by decide +kernel) rfl ?_
      refine sr_iload_n (i := 1) (q := 20) C (show decode cX11_end 19 = .ok (.iload_n 1, 1) from by decide +kernel) rfl rfl rfl ?_
      exact sr_ireturn C _ rfl (show decode cX11_end 20 = .ok (.ireturn, 1) from by decide +kernel)
    · refine sr_iconst (v := (-1 : Int32)) (q := 13) C (show decode cX11_end 12 = .ok (.iconst (-1), 1) from by decide +kernel) (by decide) rfl ?_
      exact sr_ireturn C _ rfl (show decode cX11_end 13 = .ok (.ireturn, 1) from by decide +kernel)
theorem cnX11_end (ω : sm_O) (v0 : Nat) (v1 : Int32) (hv0 : kd v0 = 11) : sm_Mt 1 yX11_end cX11_end 2 (some .int) ω [.ref (ω.1 + v0), .int v1] (fun a => some (.int a)) (fnX11_end v0 v1) := by
  refine sm_conI (r := fun a => a) (by decide) (fun _ => rfl) (Nat.le_of_ble_eq_true rfl) ?_
  intro κ hκ C
  subst hκ
  exact slX11_end C v0 v1 hv0
def fnX11_isPerson (v0 : Nat) (v1 : Int32) : sm_M Bool := m_br (v1 < 0)
    (m_ret false)
    (m_gi (lk v0 5) 5 fun x9 => m_br (x9 ≤ v1)
    (m_ret false)
    (m_ret true))
set_option maxHeartbeats 4000000 in
set_option maxRecDepth 100000 in
theorem slX11_isPerson {κ : sm_X} (C : sm_C κ RX11 cX11_isPerson 2 1) (v0 : Nat) (v1 : Int32) (hv0 : kd v0 = 11) : sm_S κ (fun r : Bool => .inr (some (.int (bI r)))) (.inl (0, [some (xad κ v0), some (.int v1)], [])) (fnX11_isPerson v0 v1) := by
  unfold fnX11_isPerson
  refine sr_iload_n (i := 1) (q := 1) C (show decode cX11_isPerson 0 = .ok (.iload_n 1, 1) from by decide +kernel) rfl rfl rfl ?_
  refine sr_if_lt (q := 4) C 19 (show decode cX11_isPerson 1 = .ok (.ifCond .lt 18, 3) from by decide +kernel) (by decide) rfl ?_ ?_
  · refine sr_iconst (v := (0 : Int32)) (q := 20) C (show decode cX11_isPerson 19 = .ok (.iconst 0, 1) from by decide +kernel) (by decide) rfl ?_
    exact sr_ireturn C false rfl (show decode cX11_isPerson 20 = .ok (.ireturn, 1) from by decide +kernel)
  · refine sr_iload_n (i := 1) (q := 5) C (show decode cX11_isPerson 4 = .ok (.iload_n 1, 1) from by decide +kernel) rfl rfl rfl ?_
    refine sr_aload_n (i := 0) (q := 6) C (show decode cX11_isPerson 5 = .ok (.aload_n 0, 1) from by decide +kernel) rfl rfl rfl ?_
    refine sr_getr (q := 9) C fl_X11_27 hv0 (show decode cX11_isPerson 6 = .ok (.getfield 27, 3) from by decide +kernel) rfl ?_
    refine sr_geti (q := 12) C fl_X11_253 (Or.inl rfl) (kt hv0 kp_11_5) (show decode cX11_isPerson 9 = .ok (.getfield 253, 3) from by decide +kernel) rfl (fun x9 => ?_)
    refine sr_icmp_ge (q := 15) C 19 (show decode cX11_isPerson 12 = .ok (.if_icmp .ge 7, 3) from by decide +kernel) (by decide) rfl ?_ ?_
    · refine sr_iconst (v := (0 : Int32)) (q := 20) C (show decode cX11_isPerson 19 = .ok (.iconst 0, 1) from by decide +kernel) (by decide) rfl ?_
      exact sr_ireturn C false rfl (show decode cX11_isPerson 20 = .ok (.ireturn, 1) from by decide +kernel)
    · refine sr_iconst (v := (1 : Int32)) (q := 16) C (show decode cX11_isPerson 15 = .ok (.iconst 1, 1) from by decide +kernel) (by decide) rfl ?_
      refine sr_goto (q := 20) C (show decode cX11_isPerson 16 = .ok (.goto 4, 3) from by decide +kernel) (by decide) ?_
      exact sr_ireturn C true rfl (show decode cX11_isPerson 20 = .ok (.ireturn, 1) from by decide +kernel)
theorem cnX11_isPerson (ω : sm_O) (v0 : Nat) (v1 : Int32) (hv0 : kd v0 = 11) : sm_Mt 1 yX11_isPerson cX11_isPerson 2 (some .boolean) ω [.ref (ω.1 + v0), .int v1] (fun a => some (.int (bI a))) (fnX11_isPerson v0 v1) := by
  refine sm_conI (r := bI) (by decide) bI_nar (Nat.le_of_ble_eq_true rfl) ?_
  intro κ hκ C
  subst hκ
  exact slX11_isPerson C v0 v1 hv0
def fnX7_isPlace_J19 (v1 : Int32) : sm_M Bool := m_br (v1 = (98 : Int32))
    (m_ret true)
    (m_br (v1 = (99 : Int32))
    (m_ret true)
    (m_ret false))
set_option maxHeartbeats 4000000 in
set_option maxRecDepth 100000 in
theorem slX7_isPlace_J19 {κ : sm_X} (C : sm_C κ RX7 cX7_isPlace 2 1) (v1 : Int32)  : sm_S κ (fun r : Bool => .inr (some (.int (bI r)))) (.inl (19, [none, some (.int v1)], [])) (fnX7_isPlace_J19 v1) := by
  unfold fnX7_isPlace_J19
  refine sr_iload_n (i := 1) (q := 20) C (show decode cX7_isPlace 19 = .ok (.iload_n 1, 1) from by decide +kernel) rfl rfl rfl ?_
  refine sr_bipush (v := (98 : Int32)) (q := 22) C (show decode cX7_isPlace 20 = .ok (.bipush 98, 2) from by decide +kernel) (by decide) rfl ?_
  refine sr_icmp_eq (q := 25) C 31 (show decode cX7_isPlace 22 = .ok (.if_icmp .eq 9, 3) from by decide +kernel) (by decide) rfl ?_ ?_
  · refine sr_iconst (v := (1 : Int32)) (q := 32) C (show decode cX7_isPlace 31 = .ok (.iconst 1, 1) from by decide +kernel) (by decide) rfl ?_
    refine sr_goto (q := 36) C (show decode cX7_isPlace 32 = .ok (.goto 4, 3) from by decide +kernel) (by decide) ?_
    exact sr_ireturn C true rfl (show decode cX7_isPlace 36 = .ok (.ireturn, 1) from by decide +kernel)
  · refine sr_iload_n (i := 1) (q := 26) C (show decode cX7_isPlace 25 = .ok (.iload_n 1, 1) from by decide +kernel) rfl rfl rfl ?_
    refine sr_bipush (v := (99 : Int32)) (q := 28) C (show decode cX7_isPlace 26 = .ok (.bipush 99, 2) from by decide +kernel) (by decide) rfl ?_
    refine sr_icmp_ne (q := 31) C 35 (show decode cX7_isPlace 28 = .ok (.if_icmp .ne 7, 3) from by decide +kernel) (by decide) rfl ?_ ?_
    · refine sr_iconst (v := (0 : Int32)) (q := 36) C (show decode cX7_isPlace 35 = .ok (.iconst 0, 1) from by decide +kernel) (by decide) rfl ?_
      exact sr_ireturn C false rfl (show decode cX7_isPlace 36 = .ok (.ireturn, 1) from by decide +kernel)
    · refine sr_iconst (v := (1 : Int32)) (q := 32) C (show decode cX7_isPlace 31 = .ok (.iconst 1, 1) from by decide +kernel) (by decide) rfl ?_
      refine sr_goto (q := 36) C (show decode cX7_isPlace 32 = .ok (.goto 4, 3) from by decide +kernel) (by decide) ?_
      exact sr_ireturn C true rfl (show decode cX7_isPlace 36 = .ok (.ireturn, 1) from by decide +kernel)
def fnX7_isPlace (v0 : Nat) (v1 : Int32) : sm_M Bool := m_gi v0 0 fun x1 => m_br (x1 ≤ 0)
    (m_ret false)
    (m_br (v1 < 0)
    (fnX7_isPlace_J19 v1)
    (m_gi v0 4 fun x13 => m_br (v1 < x13)
    (m_ret true)
    (fnX7_isPlace_J19 v1)))
set_option maxHeartbeats 4000000 in
set_option maxRecDepth 100000 in
theorem slX7_isPlace {κ : sm_X} (C : sm_C κ RX7 cX7_isPlace 2 1) (v0 : Nat) (v1 : Int32) (hv0 : kd v0 = 7) : sm_S κ (fun r : Bool => .inr (some (.int (bI r)))) (.inl (0, [some (xad κ v0), some (.int v1)], [])) (fnX7_isPlace v0 v1) := by
  unfold fnX7_isPlace
  refine sr_aload_n (i := 0) (q := 1) C (show decode cX7_isPlace 0 = .ok (.aload_n 0, 1) from by decide +kernel) rfl rfl rfl ?_
  refine sr_geti (q := 4) C fl_X7_39 (Or.inl rfl) hv0 (show decode cX7_isPlace 1 = .ok (.getfield 39, 3) from by decide +kernel) rfl (fun x1 => ?_)
  refine sr_if_le (q := 7) C 35 (show decode cX7_isPlace 4 = .ok (.ifCond .le 31, 3) from by decide +kernel) (by decide) rfl ?_ ?_
  · refine sr_iconst (v := (0 : Int32)) (q := 36) C (show decode cX7_isPlace 35 = .ok (.iconst 0, 1) from by decide +kernel) (by decide) rfl ?_
    exact sr_ireturn C false rfl (show decode cX7_isPlace 36 = .ok (.ireturn, 1) from by decide +kernel)
  · refine sr_iload_n (i := 1) (q := 8) C (show decode cX7_isPlace 7 = .ok (.iload_n 1, 1) from by decide +kernel) rfl rfl rfl ?_
    refine sr_if_lt (q := 11) C 19 (show decode cX7_isPlace 8 = .ok (.ifCond .lt 11, 3) from by decide +kernel) (by decide) rfl ?_ ?_
    · refine sr_weak (L' := [none, some (.int v1)]) ⟨rfl, trivial⟩ ?_
      exact slX7_isPlace_J19 C v1
    · refine sr_iload_n (i := 1) (q := 12) C (show decode cX7_isPlace 11 = .ok (.iload_n 1, 1) from by decide +kernel) rfl rfl rfl ?_
      refine sr_aload_n (i := 0) (q := 13) C (show decode cX7_isPlace 12 = .ok (.aload_n 0, 1) from by decide +kernel) rfl rfl rfl ?_
      refine sr_geti (q := 16) C fl_X7_52 (Or.inl rfl) hv0 (show decode cX7_isPlace 13 = .ok (.getfield 52, 3) from by decide +kernel) rfl (fun x13 => ?_)
      refine sr_icmp_lt (q := 19) C 31 (show decode cX7_isPlace 16 = .ok (.if_icmp .lt 15, 3) from by decide +kernel) (by decide) rfl ?_ ?_
      · refine sr_iconst (v := (1 : Int32)) (q := 32) C (show decode cX7_isPlace 31 = .ok (.iconst 1, 1) from by decide +kernel) (by decide) rfl ?_
        refine sr_goto (q := 36) C (show decode cX7_isPlace 32 = .ok (.goto 4, 3) from by decide +kernel) (by decide) ?_
        exact sr_ireturn C true rfl (show decode cX7_isPlace 36 = .ok (.ireturn, 1) from by decide +kernel)
      · refine sr_weak (L' := [none, some (.int v1)]) ⟨rfl, trivial⟩ ?_
        exact slX7_isPlace_J19 C v1
theorem cnX7_isPlace (ω : sm_O) (v0 : Nat) (v1 : Int32) (hv0 : kd v0 = 7) : sm_Mt 1 yX7_isPlace cX7_isPlace 2 (some .boolean) ω [.ref (ω.1 + v0), .int v1] (fun a => some (.int (bI a))) (fnX7_isPlace v0 v1) := by
  refine sm_conI (r := bI) (by decide) bI_nar (Nat.le_of_ble_eq_true rfl) ?_
  intro κ hκ C
  subst hκ
  exact slX7_isPlace C v0 v1 hv0
def fnX7_joins (v0 : Nat) (v1 : Int32) (v2 : Int32) (v3 : Int32) : sm_M Bool := m_br (v1 = v2)
    (m_ret false)
    (m_bnd (fnX7_square v0 v1 v2) fun x8 => m_br ((v3 * v3) < x8)
    (m_ret false)
    (m_ret true))
set_option maxHeartbeats 4000000 in
set_option maxRecDepth 100000 in
theorem slX7_joins {κ : sm_X} (C : sm_C κ RX7 cX7_joins 4 3) (v0 : Nat) (v1 : Int32) (v2 : Int32) (v3 : Int32) (hv0 : kd v0 = 7) : sm_S κ (fun r : Bool => .inr (some (.int (bI r)))) (.inl (0, [some (xad κ v0), some (.int v1), some (.int v2), some (.int v3)], [])) (fnX7_joins v0 v1 v2 v3) := by
  unfold fnX7_joins
  refine sr_iload_n (i := 1) (q := 1) C (show decode cX7_joins 0 = .ok (.iload_n 1, 1) from by decide +kernel) rfl rfl rfl ?_
  refine sr_iload_n (i := 2) (q := 2) C (show decode cX7_joins 1 = .ok (.iload_n 2, 1) from by decide +kernel) rfl rfl rfl ?_
  refine sr_icmp_eq (q := 5) C 21 (show decode cX7_joins 2 = .ok (.if_icmp .eq 19, 3) from by decide +kernel) (by decide) rfl ?_ ?_
  · refine sr_iconst (v := (0 : Int32)) (q := 22) C (show decode cX7_joins 21 = .ok (.iconst 0, 1) from by decide +kernel) (by decide) rfl ?_
    exact sr_ireturn C false rfl (show decode cX7_joins 22 = .ok (.ireturn, 1) from by decide +kernel)
  · refine sr_aload_n (i := 0) (q := 6) C (show decode cX7_joins 5 = .ok (.aload_n 0, 1) from by decide +kernel) rfl rfl rfl ?_
    refine sr_iload_n (i := 1) (q := 7) C (show decode cX7_joins 6 = .ok (.iload_n 1, 1) from by decide +kernel) rfl rfl rfl ?_
    refine sr_iload_n (i := 2) (q := 8) C (show decode cX7_joins 7 = .ok (.iload_n 2, 1) from by decide +kernel) rfl rfl rfl ?_
    refine sr_cVi (As := [.int v1, .int v2]) (st := []) (b := v0) (q := 11) C yvX7_square ml_X7_74 (cnX7_square (xo κ) v0 v1 v2 hv0) hv0 (by decide) rfl rfl rfl (by decide) (by decide) (Nat.le_of_ble_eq_true rfl) rfl (show decode cX7_joins 8 = .ok (.invokevirtual 74, 3) from by decide +kernel) rfl (fun x8 => ?_)
    refine sr_iload_n (i := 3) (q := 12) C (show decode cX7_joins 11 = .ok (.iload_n 3, 1) from by decide +kernel) rfl rfl rfl ?_
    refine sr_iload_n (i := 3) (q := 13) C (show decode cX7_joins 12 = .ok (.iload_n 3, 1) from by decide +kernel) rfl rfl rfl ?_
    refine sr_imul (q := 14) C (show decode cX7_joins 13 = .ok (.imul, 1) from by decide +kernel) rfl ?_
    refine sr_icmp_gt (q := 17) C 21 (show decode cX7_joins 14 = .ok (.if_icmp .gt 7, 3) from by decide +kernel) (by decide) rfl ?_ ?_
    · refine sr_iconst (v := (0 : Int32)) (q := 22) C (show decode cX7_joins 21 = .ok (.iconst 0, 1) from by decide +kernel) (by decide) rfl ?_
      exact sr_ireturn C false rfl (show decode cX7_joins 22 = .ok (.ireturn, 1) from by decide +kernel)
    · refine sr_iconst (v := (1 : Int32)) (q := 18) C (show decode cX7_joins 17 = .ok (.iconst 1, 1) from by decide +kernel) (by decide) rfl ?_
      refine sr_goto (q := 22) C (show decode cX7_joins 18 = .ok (.goto 4, 3) from by decide +kernel) (by decide) ?_
      exact sr_ireturn C true rfl (show decode cX7_joins 22 = .ok (.ireturn, 1) from by decide +kernel)
theorem cnX7_joins (ω : sm_O) (v0 : Nat) (v1 : Int32) (v2 : Int32) (v3 : Int32) (hv0 : kd v0 = 7) : sm_Mt 3 yX7_joins cX7_joins 4 (some .boolean) ω [.ref (ω.1 + v0), .int v1, .int v2, .int v3] (fun a => some (.int (bI a))) (fnX7_joins v0 v1 v2 v3) := by
  refine sm_conI (r := bI) (by decide) bI_nar (Nat.le_of_ble_eq_true rfl) ?_
  intro κ hκ C
  subst hκ
  exact slX7_joins C v0 v1 v2 v3 hv0
def fnX9_takeStep_J71 (v0 : Nat) (v1 : Int32) (v2 : Int32) : sm_M Bool := m_sai (lk v0 4) v1 v2 <| m_ret true
set_option maxHeartbeats 4000000 in
set_option maxRecDepth 100000 in
theorem slX9_takeStep_J71 {κ : sm_X} (C : sm_C κ RX9 cX9_takeStep 3 4) (v0 : Nat) (v1 : Int32) (v2 : Int32) (hv0 : kd v0 = 9) : sm_S κ (fun r : Bool => .inr (some (.int (bI r)))) (.inl (71, [some (xad κ v0), some (.int v1), some (.int v2)], [])) (fnX9_takeStep_J71 v0 v1 v2) := by
  unfold fnX9_takeStep_J71
  refine sr_aload_n (i := 0) (q := 72) C (show decode cX9_takeStep 71 = .ok (.aload_n 0, 1) from by decide +kernel) rfl rfl rfl ?_
  refine sr_getr (q := 75) C fl_X9_18 hv0 (show decode cX9_takeStep 72 = .ok (.getfield 18, 3) from by decide +kernel) rfl ?_
  refine sr_iload_n (i := 1) (q := 76) C (show decode cX9_takeStep 75 = .ok (.iload_n 1, 1) from by decide +kernel) rfl rfl rfl ?_
  refine sr_iload_n (i := 2) (q := 77) C (show decode cX9_takeStep 76 = .ok (.iload_n 2, 1) from by decide +kernel) rfl rfl rfl ?_
  refine sr_iastore (q := 78) C (kt hv0 kp_9_4) (show decode cX9_takeStep 77 = .ok (.iastore, 1) from by decide +kernel) rfl ?_
  refine sr_iconst (v := (1 : Int32)) (q := 79) C (show decode cX9_takeStep 78 = .ok (.iconst 1, 1) from by decide +kernel) (by decide) rfl ?_
  exact sr_ireturn C true rfl (show decode cX9_takeStep 79 = .ok (.ireturn, 1) from by decide +kernel)
def fnX9_takeStep (v0 : Nat) (v1 : Int32) (v2 : Int32) : sm_M Bool := m_ai (lk v0 4) v1 fun x9 => m_ai (lk (lk v0 0) 13) v1 fun x19 => m_bnd (fnX7_joins (lk v0 0) x9 v2 x19) fun x20 => m_br ((bI x20) = 0)
    (m_ret false)
    (m_br ((24 : Int32) ≤ v2)
    (fnX9_takeStep_J71 v0 v1 v2)
    (m_bnd (fnX9_leftOf v0 v2) fun x36 => m_ai (lk (lk v0 0) 14) v1 fun x47 => m_br (x47 ≤ x36)
    (m_ai (lk v0 2) v2 fun x59 => m_ai (lk (lk v0 0) 14) v1 fun x68 => m_sai (lk v0 2) v2 (x59 + x68) <| fnX9_takeStep_J71 v0 v1 v2)
    (m_ret false)))
set_option maxHeartbeats 4000000 in
set_option maxRecDepth 100000 in
theorem slX9_takeStep {κ : sm_X} (C : sm_C κ RX9 cX9_takeStep 3 4) (v0 : Nat) (v1 : Int32) (v2 : Int32) (hv0 : kd v0 = 9) : sm_S κ (fun r : Bool => .inr (some (.int (bI r)))) (.inl (0, [some (xad κ v0), some (.int v1), some (.int v2)], [])) (fnX9_takeStep v0 v1 v2) := by
  unfold fnX9_takeStep
  refine sr_aload_n (i := 0) (q := 1) C (show decode cX9_takeStep 0 = .ok (.aload_n 0, 1) from by decide +kernel) rfl rfl rfl ?_
  refine sr_getr (q := 4) C fl_X9_21 hv0 (show decode cX9_takeStep 1 = .ok (.getfield 21, 3) from by decide +kernel) rfl ?_
  refine sr_aload_n (i := 0) (q := 5) C (show decode cX9_takeStep 4 = .ok (.aload_n 0, 1) from by decide +kernel) rfl rfl rfl ?_
  refine sr_getr (q := 8) C fl_X9_18 hv0 (show decode cX9_takeStep 5 = .ok (.getfield 18, 3) from by decide +kernel) rfl ?_
  refine sr_iload_n (i := 1) (q := 9) C (show decode cX9_takeStep 8 = .ok (.iload_n 1, 1) from by decide +kernel) rfl rfl rfl ?_
  refine sr_iaload (q := 10) C (kt hv0 kp_9_4) (show decode cX9_takeStep 9 = .ok (.iaload, 1) from by decide +kernel) rfl (fun x9 => ?_)
  refine sr_iload_n (i := 2) (q := 11) C (show decode cX9_takeStep 10 = .ok (.iload_n 2, 1) from by decide +kernel) rfl rfl rfl ?_
  refine sr_aload_n (i := 0) (q := 12) C (show decode cX9_takeStep 11 = .ok (.aload_n 0, 1) from by decide +kernel) rfl rfl rfl ?_
  refine sr_getr (q := 15) C fl_X9_21 hv0 (show decode cX9_takeStep 12 = .ok (.getfield 21, 3) from by decide +kernel) rfl ?_
  refine sr_getr (q := 18) C fl_X9_89 (kt hv0 kp_9_0) (show decode cX9_takeStep 15 = .ok (.getfield 89, 3) from by decide +kernel) rfl ?_
  refine sr_iload_n (i := 1) (q := 19) C (show decode cX9_takeStep 18 = .ok (.iload_n 1, 1) from by decide +kernel) rfl rfl rfl ?_
  refine sr_iaload (q := 20) C (kt (kt hv0 kp_9_0) kp_7_13) (show decode cX9_takeStep 19 = .ok (.iaload, 1) from by decide +kernel) rfl (fun x19 => ?_)
  refine sr_cVz (As := [.int x9, .int v2, .int x19]) (st := []) (b := lk v0 0) (q := 23) C yvX7_joins ml_X9_92 (cnX7_joins (xo κ) (lk v0 0) x9 v2 x19 (kt hv0 kp_9_0)) (kt hv0 kp_9_0) (by decide) rfl rfl rfl (by decide) (by decide) (Nat.le_of_ble_eq_true rfl) rfl (show decode cX9_takeStep 20 = .ok (.invokevirtual 92, 3) from by decide +kernel) rfl (fun x20 => ?_)
  refine sr_if_ne (q := 26) C 28 (show decode cX9_takeStep 23 = .ok (.ifCond .ne 5, 3) from by decide +kernel) (by decide) rfl ?_ ?_
  · refine sr_iload_n (i := 2) (q := 29) C (show decode cX9_takeStep 28 = .ok (.iload_n 2, 1) from by decide +kernel) rfl rfl rfl ?_
    refine sr_bipush (v := (24 : Int32)) (q := 31) C (show decode cX9_takeStep 29 = .ok (.bipush 24, 2) from by decide +kernel) (by decide) rfl ?_
    refine sr_icmp_ge (q := 34) C 71 (show decode cX9_takeStep 31 = .ok (.if_icmp .ge 40, 3) from by decide +kernel) (by decide) rfl ?_ ?_
    · exact slX9_takeStep_J71 C v0 v1 v2 hv0
    · refine sr_aload_n (i := 0) (q := 35) C (show decode cX9_takeStep 34 = .ok (.aload_n 0, 1) from by decide +kernel) rfl rfl rfl ?_
      refine sr_iload_n (i := 2) (q := 36) C (show decode cX9_takeStep 35 = .ok (.iload_n 2, 1) from by decide +kernel) rfl rfl rfl ?_
      refine sr_cVi (As := [.int v2]) (st := []) (b := v0) (q := 39) C yvX9_leftOf ml_X9_52 (cnX9_leftOf (xo κ) v0 v2 hv0) hv0 (by decide) rfl rfl rfl (by decide) (by decide) (Nat.le_of_ble_eq_true rfl) rfl (show decode cX9_takeStep 36 = .ok (.invokevirtual 52, 3) from by decide +kernel) rfl (fun x36 => ?_)
      refine sr_aload_n (i := 0) (q := 40) C (show decode cX9_takeStep 39 = .ok (.aload_n 0, 1) from by decide +kernel) rfl rfl rfl ?_
      refine sr_getr (q := 43) C fl_X9_21 hv0 (show decode cX9_takeStep 40 = .ok (.getfield 21, 3) from by decide +kernel) rfl ?_
      refine sr_getr (q := 46) C fl_X9_96 (kt hv0 kp_9_0) (show decode cX9_takeStep 43 = .ok (.getfield 96, 3) from by decide +kernel) rfl ?_
      refine sr_iload_n (i := 1) (q := 47) C (show decode cX9_takeStep 46 = .ok (.iload_n 1, 1) from by decide +kernel) rfl rfl rfl ?_
      refine sr_iaload (q := 48) C (kt (kt hv0 kp_9_0) kp_7_14) (show decode cX9_takeStep 47 = .ok (.iaload, 1) from by decide +kernel) rfl (fun x47 => ?_)
      refine sr_icmp_ge (q := 51) C 53 (show decode cX9_takeStep 48 = .ok (.if_icmp .ge 5, 3) from by decide +kernel) (by decide) rfl ?_ ?_
      · refine sr_aload_n (i := 0) (q := 54) C (show decode cX9_takeStep 53 = .ok (.aload_n 0, 1) from by decide +kernel) rfl rfl rfl ?_
        refine sr_getr (q := 57) C fl_X9_9 hv0 (show decode cX9_takeStep 54 = .ok (.getfield 9, 3) from by decide +kernel) rfl ?_
        refine sr_iload_n (i := 2) (q := 58) C (show decode cX9_takeStep 57 = .ok (.iload_n 2, 1) from by decide +kernel) rfl rfl rfl ?_
        refine sr_dup2 (q := 59) C (show decode cX9_takeStep 58 = .ok (.dup2, 1) from by decide +kernel) rfl rfl rfl ?_
        refine sr_iaload (q := 60) C (kt hv0 kp_9_2) (show decode cX9_takeStep 59 = .ok (.iaload, 1) from by decide +kernel) rfl (fun x59 => ?_)
        refine sr_aload_n (i := 0) (q := 61) C (show decode cX9_takeStep 60 = .ok (.aload_n 0, 1) from by decide +kernel) rfl rfl rfl ?_
        refine sr_getr (q := 64) C fl_X9_21 hv0 (show decode cX9_takeStep 61 = .ok (.getfield 21, 3) from by decide +kernel) rfl ?_
        refine sr_getr (q := 67) C fl_X9_96 (kt hv0 kp_9_0) (show decode cX9_takeStep 64 = .ok (.getfield 96, 3) from by decide +kernel) rfl ?_
        refine sr_iload_n (i := 1) (q := 68) C (show decode cX9_takeStep 67 = .ok (.iload_n 1, 1) from by decide +kernel) rfl rfl rfl ?_
        refine sr_iaload (q := 69) C (kt (kt hv0 kp_9_0) kp_7_14) (show decode cX9_takeStep 68 = .ok (.iaload, 1) from by decide +kernel) rfl (fun x68 => ?_)
        refine sr_iadd (q := 70) C (show decode cX9_takeStep 69 = .ok (.iadd, 1) from by decide +kernel) rfl ?_
        refine sr_iastore (q := 71) C (kt hv0 kp_9_2) (show decode cX9_takeStep 70 = .ok (.iastore, 1) from by decide +kernel) rfl ?_
        exact slX9_takeStep_J71 C v0 v1 v2 hv0
      · refine sr_iconst (v := (0 : Int32)) (q := 52) C (show decode cX9_takeStep 51 = .ok (.iconst 0, 1) from by decide +kernel) (by decide) rfl ?_
        exact sr_ireturn C false rfl (show decode cX9_takeStep 52 = .ok (.ireturn, 1) from by decide +kernel)
  · refine sr_iconst (v := (0 : Int32)) (q := 27) C (show decode cX9_takeStep 26 = .ok (.iconst 0, 1) from by decide +kernel) (by decide) rfl ?_
    exact sr_ireturn C false rfl (show decode cX9_takeStep 27 = .ok (.ireturn, 1) from by decide +kernel)
theorem cnX9_takeStep (ω : sm_O) (v0 : Nat) (v1 : Int32) (v2 : Int32) (hv0 : kd v0 = 9) : sm_Mt 4 yX9_takeStep cX9_takeStep 3 (some .boolean) ω [.ref (ω.1 + v0), .int v1, .int v2] (fun a => some (.int (bI a))) (fnX9_takeStep v0 v1 v2) := by
  refine sm_conI (r := bI) (by decide) bI_nar (Nat.le_of_ble_eq_true rfl) ?_
  intro κ hκ C
  subst hκ
  exact slX9_takeStep C v0 v1 v2 hv0
def fnX11_stepInThought (v0 : Nat) (v1 : Int64) (v3 : Int64) : sm_M Bool := m_br ((lg_cmp v1 (0 : Int64)) < 0)
    (m_ret false)
    (m_gi (lk v0 5) 5 fun x11 => m_br (0 ≤ (lg_cmp v1 x11.toInt64))
    (m_ret false)
    (m_br ((lg_cmp v3 (0 : Int64)) < 0)
    (m_ret false)
    (m_br ((lg_cmp v3 (99 : Int64)) ≤ 0)
    (m_bnd (fnX7_isPlace (lk v0 5) v3.toInt32) fun x41 => m_br ((bI x41) = 0)
    (m_ret false)
    (m_bnd (fnX9_takeStep (lk v0 7) v1.toInt32 v3.toInt32) fun x55 => m_br ((bI x55) = 0)
    (m_ret false)
    (m_ret true)))
    (m_ret false))))
set_option maxHeartbeats 4000000 in
set_option maxRecDepth 100000 in
theorem slX11_stepInThought {κ : sm_X} (C : sm_C κ RX11 cX11_stepInThought 5 5) (v0 : Nat) (v1 : Int64) (v3 : Int64) (hv0 : kd v0 = 11) : sm_S κ (fun r : Bool => .inr (some (.int (bI r)))) (.inl (0, [some (xad κ v0), some (.long v1), none, some (.long v3), none], [])) (fnX11_stepInThought v0 v1 v3) := by
  unfold fnX11_stepInThought
  refine sr_lload_n (i := 1) (q := 1) C (show decode cX11_stepInThought 0 = .ok (.lload_n 1, 1) from by decide +kernel) rfl rfl rfl ?_
  refine sr_lconst (v := (0 : Int64)) (q := 2) C (show decode cX11_stepInThought 1 = .ok (.lconst 0, 1) from by decide +kernel) (by decide) rfl ?_
  refine sr_lcmp (q := 3) C (show decode cX11_stepInThought 2 = .ok (.lcmp, 1) from by decide +kernel) rfl ?_
  refine sr_if_lt (q := 6) C 33 (show decode cX11_stepInThought 3 = .ok (.ifCond .lt 30, 3) from by decide +kernel) (by decide) rfl ?_ ?_
  · refine sr_iconst (v := (0 : Int32)) (q := 34) C (show decode cX11_stepInThought 33 = .ok (.iconst 0, 1) from by decide +kernel) (by decide) rfl ?_
    exact sr_ireturn C false rfl (show decode cX11_stepInThought 34 = .ok (.ireturn, 1) from by decide +kernel)
  · refine sr_lload_n (i := 1) (q := 7) C (show decode cX11_stepInThought 6 = .ok (.lload_n 1, 1) from by decide +kernel) rfl rfl rfl ?_
    refine sr_aload_n (i := 0) (q := 8) C (show decode cX11_stepInThought 7 = .ok (.aload_n 0, 1) from by decide +kernel) rfl rfl rfl ?_
    refine sr_getr (q := 11) C fl_X11_27 hv0 (show decode cX11_stepInThought 8 = .ok (.getfield 27, 3) from by decide +kernel) rfl ?_
    refine sr_geti (q := 14) C fl_X11_253 (Or.inl rfl) (kt hv0 kp_11_5) (show decode cX11_stepInThought 11 = .ok (.getfield 253, 3) from by decide +kernel) rfl (fun x11 => ?_)
    refine sr_i2l (q := 15) C (show decode cX11_stepInThought 14 = .ok (.i2l, 1) from by decide +kernel) rfl ?_
    refine sr_lcmp (q := 16) C (show decode cX11_stepInThought 15 = .ok (.lcmp, 1) from by decide +kernel) rfl ?_
    refine sr_if_ge (q := 19) C 33 (show decode cX11_stepInThought 16 = .ok (.ifCond .ge 17, 3) from by decide +kernel) (by decide) rfl ?_ ?_
    · refine sr_iconst (v := (0 : Int32)) (q := 34) C (show decode cX11_stepInThought 33 = .ok (.iconst 0, 1) from by decide +kernel) (by decide) rfl ?_
      exact sr_ireturn C false rfl (show decode cX11_stepInThought 34 = .ok (.ireturn, 1) from by decide +kernel)
    · refine sr_lload_n (i := 3) (q := 20) C (show decode cX11_stepInThought 19 = .ok (.lload_n 3, 1) from by decide +kernel) rfl rfl rfl ?_
      refine sr_lconst (v := (0 : Int64)) (q := 21) C (show decode cX11_stepInThought 20 = .ok (.lconst 0, 1) from by decide +kernel) (by decide) rfl ?_
      refine sr_lcmp (q := 22) C (show decode cX11_stepInThought 21 = .ok (.lcmp, 1) from by decide +kernel) rfl ?_
      refine sr_if_lt (q := 25) C 33 (show decode cX11_stepInThought 22 = .ok (.ifCond .lt 11, 3) from by decide +kernel) (by decide) rfl ?_ ?_
      · refine sr_iconst (v := (0 : Int32)) (q := 34) C (show decode cX11_stepInThought 33 = .ok (.iconst 0, 1) from by decide +kernel) (by decide) rfl ?_
        exact sr_ireturn C false rfl (show decode cX11_stepInThought 34 = .ok (.ireturn, 1) from by decide +kernel)
      · refine sr_lload_n (i := 3) (q := 26) C (show decode cX11_stepInThought 25 = .ok (.lload_n 3, 1) from by decide +kernel) rfl rfl rfl ?_
        refine sr_ldc2 (q := 29) C co_X11_256 (show decode cX11_stepInThought 26 = .ok (.ldc2_w 256, 3) from by decide +kernel) rfl ?_
        refine sr_lcmp (q := 30) C (show decode cX11_stepInThought 29 = .ok (.lcmp, 1) from by decide +kernel) rfl ?_
        refine sr_if_le (q := 33) C 35 (show decode cX11_stepInThought 30 = .ok (.ifCond .le 5, 3) from by decide +kernel) (by decide) rfl ?_ ?_
        · refine sr_aload_n (i := 0) (q := 36) C (show decode cX11_stepInThought 35 = .ok (.aload_n 0, 1) from by decide +kernel) rfl rfl rfl ?_
          refine sr_getr (q := 39) C fl_X11_27 hv0 (show decode cX11_stepInThought 36 = .ok (.getfield 27, 3) from by decide +kernel) rfl ?_
          refine sr_lload_n (i := 3) (q := 40) C (show decode cX11_stepInThought 39 = .ok (.lload_n 3, 1) from by decide +kernel) rfl rfl rfl ?_
          refine sr_l2i (q := 41) C (show decode cX11_stepInThought 40 = .ok (.l2i, 1) from by decide +kernel) rfl ?_
          refine sr_cVz (As := [.int v3.toInt32]) (st := []) (b := lk v0 5) (q := 44) C yvX7_isPlace ml_X11_184 (cnX7_isPlace (xo κ) (lk v0 5) v3.toInt32 (kt hv0 kp_11_5)) (kt hv0 kp_11_5) (by decide) rfl rfl rfl (by decide) (by decide) (Nat.le_of_ble_eq_true rfl) rfl (show decode cX11_stepInThought 41 = .ok (.invokevirtual 184, 3) from by decide +kernel) rfl (fun x41 => ?_)
          refine sr_if_eq (q := 47) C 65 (show decode cX11_stepInThought 44 = .ok (.ifCond .eq 21, 3) from by decide +kernel) (by decide) rfl ?_ ?_
          · refine sr_iconst (v := (0 : Int32)) (q := 66) C (show decode cX11_stepInThought 65 = .ok (.iconst 0, 1) from by decide +kernel) (by decide) rfl ?_
            exact sr_ireturn C false rfl (show decode cX11_stepInThought 66 = .ok (.ireturn, 1) from by decide +kernel)
          · refine sr_aload_n (i := 0) (q := 48) C (show decode cX11_stepInThought 47 = .ok (.aload_n 0, 1) from by decide +kernel) rfl rfl rfl ?_
            refine sr_getr (q := 51) C fl_X11_40 hv0 (show decode cX11_stepInThought 48 = .ok (.getfield 40, 3) from by decide +kernel) rfl ?_
            refine sr_lload_n (i := 1) (q := 52) C (show decode cX11_stepInThought 51 = .ok (.lload_n 1, 1) from by decide +kernel) rfl rfl rfl ?_
            refine sr_l2i (q := 53) C (show decode cX11_stepInThought 52 = .ok (.l2i, 1) from by decide +kernel) rfl ?_
            refine sr_lload_n (i := 3) (q := 54) C (show decode cX11_stepInThought 53 = .ok (.lload_n 3, 1) from by decide +kernel) rfl rfl rfl ?_
            refine sr_l2i (q := 55) C (show decode cX11_stepInThought 54 = .ok (.l2i, 1) from by decide +kernel) rfl ?_
            refine sr_cVz (As := [.int v1.toInt32, .int v3.toInt32]) (st := []) (b := lk v0 7) (q := 58) C yvX9_takeStep ml_X11_224 (cnX9_takeStep (xo κ) (lk v0 7) v1.toInt32 v3.toInt32 (kt hv0 kp_11_7)) (kt hv0 kp_11_7) (by decide) rfl rfl rfl (by decide) (by decide) (Nat.le_of_ble_eq_true rfl) rfl (show decode cX11_stepInThought 55 = .ok (.invokevirtual 224, 3) from by decide +kernel) rfl (fun x55 => ?_)
            refine sr_if_eq (q := 61) C 65 (show decode cX11_stepInThought 58 = .ok (.ifCond .eq 7, 3) from by decide +kernel) (by decide) rfl ?_ ?_
            · refine sr_iconst (v := (0 : Int32)) (q := 66) C (show decode cX11_stepInThought 65 = .ok (.iconst 0, 1) from by decide +kernel) (by decide) rfl ?_
              exact sr_ireturn C false rfl (show decode cX11_stepInThought 66 = .ok (.ireturn, 1) from by decide +kernel)
            · refine sr_iconst (v := (1 : Int32)) (q := 62) C (show decode cX11_stepInThought 61 = .ok (.iconst 1, 1) from by decide +kernel) (by decide) rfl ?_
              refine sr_goto (q := 66) C (show decode cX11_stepInThought 62 = .ok (.goto 4, 3) from by decide +kernel) (by decide) ?_
              exact sr_ireturn C true rfl (show decode cX11_stepInThought 66 = .ok (.ireturn, 1) from by decide +kernel)
        · refine sr_iconst (v := (0 : Int32)) (q := 34) C (show decode cX11_stepInThought 33 = .ok (.iconst 0, 1) from by decide +kernel) (by decide) rfl ?_
          exact sr_ireturn C false rfl (show decode cX11_stepInThought 34 = .ok (.ireturn, 1) from by decide +kernel)
theorem cnX11_stepInThought (ω : sm_O) (v0 : Nat) (v1 : Int64) (v3 : Int64) (hv0 : kd v0 = 11) : sm_Mt 5 yX11_stepInThought cX11_stepInThought 5 (some .boolean) ω [.ref (ω.1 + v0), .long v1, .long v3] (fun a => some (.int (bI a))) (fnX11_stepInThought v0 v1 v3) := by
  refine sm_conI (r := bI) (by decide) bI_nar (Nat.le_of_ble_eq_true rfl) ?_
  intro κ hκ C
  subst hκ
  exact slX11_stepInThought C v0 v1 v3 hv0
def fnX11_stepsInThought_L15 : Nat → Nat → Nat → Int32 → Int32 → sm_M Int32
  | 0, _, _, _, _ => m_fail
  | n + 1, v0, v1, v2, v3 => m_gi v1 2 fun x19 => m_br (x19 ≤ (v3 + (1 : Int32)))
    (m_ret v2)
    (m_al (lk v1 3) v3 fun x31 => m_al (lk v1 3) (v3 + (1 : Int32)) fun x39 => m_bnd (fnX11_stepInThought v0 x31 x39) fun x40 => m_br ((bI x40) = 0)
    (m_ret v2)
    ((fnX11_stepsInThought_L15 n) v0 v1 (v2 + (1 : Int32)) (v3 + (2 : Int32))))
set_option maxHeartbeats 4000000 in
set_option maxRecDepth 100000 in
theorem slX11_stepsInThought_L15 {κ : sm_X} (C : sm_C κ RX11 cX11_stepsInThought 4 6) : ∀ (n : Nat) (v0 : Nat) (v1 : Nat) (v2 : Int32) (v3 : Int32) (hv0 : kd v0 = 11) (hv1 : kd v1 = 8), sm_S κ (fun r : Int32 => .inr (some (.int r))) (.inl (15, [some (xad κ v0), some (xad κ v1), some (.int v2), some (.int v3)], [])) (fnX11_stepsInThought_L15 n v0 v1 v2 v3) := by
  intro n
  induction n with
  | zero =>
    intros
    exact sr_fail
  | succ n K15 =>
    intro v0 v1 v2 v3 hv0 hv1
    unfold fnX11_stepsInThought_L15
    refine sr_iload_n (i := 3) (q := 16) C (show decode cX11_stepsInThought 15 = .ok (.iload_n 3, 1) from by decide +kernel) rfl rfl rfl ?_
    refine sr_iconst (v := (1 : Int32)) (q := 17) C (show decode cX11_stepsInThought 16 = .ok (.iconst 1, 1) from by decide +kernel) (by decide) rfl ?_
    refine sr_iadd (q := 18) C (show decode cX11_stepsInThought 17 = .ok (.iadd, 1) from by decide +kernel) rfl ?_
    refine sr_aload_n (i := 1) (q := 19) C (show decode cX11_stepsInThought 18 = .ok (.aload_n 1, 1) from by decide +kernel) rfl rfl rfl ?_
    refine sr_geti (q := 22) C fl_X11_242 (Or.inl rfl) hv1 (show decode cX11_stepsInThought 19 = .ok (.getfield 242, 3) from by decide +kernel) rfl (fun x19 => ?_)
    refine sr_icmp_ge (q := 25) C 57 (show decode cX11_stepsInThought 22 = .ok (.if_icmp .ge 35, 3) from by decide +kernel) (by decide) rfl ?_ ?_
    · refine sr_iload_n (i := 2) (q := 58) C (show decode cX11_stepsInThought 57 = .ok (.iload_n 2, 1) from by decide +kernel) rfl rfl rfl ?_
      exact sr_ireturn C _ rfl (show decode cX11_stepsInThought 58 = .ok (.ireturn, 1) from by decide +kernel)
    · refine sr_aload_n (i := 0) (q := 26) C (show decode cX11_stepsInThought 25 = .ok (.aload_n 0, 1) from by decide +kernel) rfl rfl rfl ?_
      refine sr_aload_n (i := 1) (q := 27) C (show decode cX11_stepsInThought 26 = .ok (.aload_n 1, 1) from by decide +kernel) rfl rfl rfl ?_
      refine sr_getr (q := 30) C fl_X11_245 hv1 (show decode cX11_stepsInThought 27 = .ok (.getfield 245, 3) from by decide +kernel) rfl ?_
      refine sr_iload_n (i := 3) (q := 31) C (show decode cX11_stepsInThought 30 = .ok (.iload_n 3, 1) from by decide +kernel) rfl rfl rfl ?_
      refine sr_laload (q := 32) C (kt hv1 kp_8_3) (show decode cX11_stepsInThought 31 = .ok (.laload, 1) from by decide +kernel) rfl (fun x31 => ?_)
      refine sr_aload_n (i := 1) (q := 33) C (show decode cX11_stepsInThought 32 = .ok (.aload_n 1, 1) from by decide +kernel) rfl rfl rfl ?_
      refine sr_getr (q := 36) C fl_X11_245 hv1 (show decode cX11_stepsInThought 33 = .ok (.getfield 245, 3) from by decide +kernel) rfl ?_
      refine sr_iload_n (i := 3) (q := 37) C (show decode cX11_stepsInThought 36 = .ok (.iload_n 3, 1) from by decide +kernel) rfl rfl rfl ?_
      refine sr_iconst (v := (1 : Int32)) (q := 38) C (show decode cX11_stepsInThought 37 = .ok (.iconst 1, 1) from by decide +kernel) (by decide) rfl ?_
      refine sr_iadd (q := 39) C (show decode cX11_stepsInThought 38 = .ok (.iadd, 1) from by decide +kernel) rfl ?_
      refine sr_laload (q := 40) C (kt hv1 kp_8_3) (show decode cX11_stepsInThought 39 = .ok (.laload, 1) from by decide +kernel) rfl (fun x39 => ?_)
      refine sr_cVz (As := [.long x31, .long x39]) (st := []) (b := v0) (q := 43) C yvX11_stepInThought ml_X11_249 (cnX11_stepInThought (xo κ) v0 x31 x39 hv0) hv0 (by decide) rfl rfl rfl (by decide) (by decide) (Nat.le_of_ble_eq_true rfl) rfl (show decode cX11_stepsInThought 40 = .ok (.invokevirtual 249, 3) from by decide +kernel) rfl (fun x40 => ?_)
      refine sr_if_ne (q := 46) C 48 (show decode cX11_stepsInThought 43 = .ok (.ifCond .ne 5, 3) from by decide +kernel) (by decide) rfl ?_ ?_
      · refine sr_iinc (v := v2 + (1 : Int32)) (L' := [some (xad κ v0), some (xad κ v1), some (.int (v2 + (1 : Int32))), some (.int v3)]) (q := 51) C (show decode cX11_stepsInThought 48 = .ok (.iinc 2 1, 3) from by decide +kernel) rfl rfl (by decide) rfl rfl ?_
        refine sr_iinc (v := v3 + (2 : Int32)) (L' := [some (xad κ v0), some (xad κ v1), some (.int (v2 + (1 : Int32))), some (.int (v3 + (2 : Int32)))]) (q := 54) C (show decode cX11_stepsInThought 51 = .ok (.iinc 3 2, 3) from by decide +kernel) rfl rfl (by decide) rfl rfl ?_
        refine sr_goto (q := 15) C (show decode cX11_stepsInThought 54 = .ok (.goto (-39), 3) from by decide +kernel) (by decide) ?_
        exact K15 v0 v1 (v2 + (1 : Int32)) (v3 + (2 : Int32)) hv0 hv1
      · refine sr_iload_n (i := 2) (q := 47) C (show decode cX11_stepsInThought 46 = .ok (.iload_n 2, 1) from by decide +kernel) rfl rfl rfl ?_
        exact sr_ireturn C _ rfl (show decode cX11_stepsInThought 47 = .ok (.ireturn, 1) from by decide +kernel)
def fnX11_stepsInThought (v0 : Nat) (v1 : Nat) : sm_M Int32 := m_bnd (fnX9_takeFrom (lk v0 7) (lk v0 6)) fun _ => fnX11_stepsInThought_L15 4096 v0 v1 (0 : Int32) (0 : Int32)
set_option maxHeartbeats 4000000 in
set_option maxRecDepth 100000 in
theorem slX11_stepsInThought {κ : sm_X} (C : sm_C κ RX11 cX11_stepsInThought 4 6) (v0 : Nat) (v1 : Nat) (hv0 : kd v0 = 11) (hv1 : kd v1 = 8) : sm_S κ (fun r : Int32 => .inr (some (.int r))) (.inl (0, [some (xad κ v0), some (xad κ v1), none, none], [])) (fnX11_stepsInThought v0 v1) := by
  unfold fnX11_stepsInThought
  refine sr_aload_n (i := 0) (q := 1) C (show decode cX11_stepsInThought 0 = .ok (.aload_n 0, 1) from by decide +kernel) rfl rfl rfl ?_
  refine sr_getr (q := 4) C fl_X11_40 hv0 (show decode cX11_stepsInThought 1 = .ok (.getfield 40, 3) from by decide +kernel) rfl ?_
  refine sr_aload_n (i := 0) (q := 5) C (show decode cX11_stepsInThought 4 = .ok (.aload_n 0, 1) from by decide +kernel) rfl rfl rfl ?_
  refine sr_getr (q := 8) C fl_X11_36 hv0 (show decode cX11_stepsInThought 5 = .ok (.getfield 36, 3) from by decide +kernel) rfl ?_
  refine sr_cVv (As := [xad κ (lk v0 6)]) (st := []) (b := lk v0 7) (q := 11) C yvX9_takeFrom ml_X11_239 (cnX9_takeFrom (xo κ) (lk v0 7) (lk v0 6) (kt hv0 kp_11_7) (kt hv0 kp_11_6)) (kt hv0 kp_11_7) (by decide) rfl rfl rfl (by decide) (by decide) (Nat.le_of_ble_eq_true rfl) rfl (show decode cX11_stepsInThought 8 = .ok (.invokevirtual 239, 3) from by decide +kernel) rfl (fun _ => ?_)
  refine sr_iconst (v := (0 : Int32)) (q := 12) C (show decode cX11_stepsInThought 11 = .ok (.iconst 0, 1) from by decide +kernel) (by decide) rfl ?_
  refine sr_istore_n (i := 2) (L' := [some (xad κ v0), some (xad κ v1), some (.int (0 : Int32)), none]) (q := 13) C (show decode cX11_stepsInThought 12 = .ok (.istore_n 2, 1) from by decide +kernel) rfl (by decide) rfl rfl ?_
  refine sr_iconst (v := (0 : Int32)) (q := 14) C (show decode cX11_stepsInThought 13 = .ok (.iconst 0, 1) from by decide +kernel) (by decide) rfl ?_
  refine sr_istore_n (i := 3) (L' := [some (xad κ v0), some (xad κ v1), some (.int (0 : Int32)), some (.int (0 : Int32))]) (q := 15) C (show decode cX11_stepsInThought 14 = .ok (.istore_n 3, 1) from by decide +kernel) rfl (by decide) rfl rfl ?_
  exact slX11_stepsInThought_L15 C 4096 v0 v1 (0 : Int32) (0 : Int32) hv0 hv1
theorem cnX11_stepsInThought (ω : sm_O) (v0 : Nat) (v1 : Nat) (hv0 : kd v0 = 11) (hv1 : kd v1 = 8) : sm_Mt 6 yX11_stepsInThought cX11_stepsInThought 4 (some .int) ω [.ref (ω.1 + v0), .ref (ω.1 + v1)] (fun a => some (.int a)) (fnX11_stepsInThought v0 v1) := by
  refine sm_conI (r := fun a => a) (by decide) (fun _ => rfl) (Nat.le_of_ble_eq_true rfl) ?_
  intro κ hκ C
  subst hκ
  exact slX11_stepsInThought C v0 v1 hv0 hv1
def fnX11_ends (v0 : Nat) (v1 : Int32) (v2 : Int32) : sm_M Int32 := m_bnd (fnX11_isSlot v1) fun x1 => m_br ((bI x1) = 0)
    (m_ret (-2 : Int32))
    (m_bnd (fnX11_isPerson v0 v2) fun x9 => m_br ((bI x9) = 0)
    (m_ret (-2 : Int32))
    (m_ap (lk v0 14) v1 fun x23 => m_gi x23 0 fun x24 => m_br (x24 = 0)
    (m_ret (-6 : Int32))
    (m_ap (lk v0 14) v1 fun x39 => m_bnd (fnX11_stepsInThought v0 x39) fun x40 => m_ai (lk (lk v0 7) 4) v2 fun x52 => m_ret x52)))
set_option maxHeartbeats 4000000 in
set_option maxRecDepth 100000 in
theorem slX11_ends {κ : sm_X} (C : sm_C κ RX11 cX11_ends 3 7) (v0 : Nat) (v1 : Int32) (v2 : Int32) (hv0 : kd v0 = 11) : sm_S κ (fun r : Int32 => .inr (some (.int r))) (.inl (0, [some (xad κ v0), some (.int v1), some (.int v2)], [])) (fnX11_ends v0 v1 v2) := by
  unfold fnX11_ends
  refine sr_iload_n (i := 1) (q := 1) C (show decode cX11_ends 0 = .ok (.iload_n 1, 1) from by decide +kernel) rfl rfl rfl ?_
  refine sr_cSz (As := [.int v1]) (st := []) (q := 4) C ysX11_isSlot ml_X11_228 (cnX11_isSlot (xo κ) v1) rfl (by decide) (by decide) (Nat.le_of_ble_eq_true rfl) rfl (show decode cX11_ends 1 = .ok (.invokestatic 228, 3) from by decide +kernel) rfl (fun x1 => ?_)
  refine sr_if_eq (q := 7) C 15 (show decode cX11_ends 4 = .ok (.ifCond .eq 11, 3) from by decide +kernel) (by decide) rfl ?_ ?_
  · refine sr_bipush (v := (-2 : Int32)) (q := 17) C (show decode cX11_ends 15 = .ok (.bipush (-2), 2) from by decide +kernel) (by decide) rfl ?_
    exact sr_ireturn C _ rfl (show decode cX11_ends 17 = .ok (.ireturn, 1) from by decide +kernel)
  · refine sr_aload_n (i := 0) (q := 8) C (show decode cX11_ends 7 = .ok (.aload_n 0, 1) from by decide +kernel) rfl rfl rfl ?_
    refine sr_iload_n (i := 2) (q := 9) C (show decode cX11_ends 8 = .ok (.iload_n 2, 1) from by decide +kernel) rfl rfl rfl ?_
    refine sr_cVz (As := [.int v2]) (st := []) (b := v0) (q := 12) C yvX11_isPerson ml_X11_173 (cnX11_isPerson (xo κ) v0 v2 hv0) hv0 (by decide) rfl rfl rfl (by decide) (by decide) (Nat.le_of_ble_eq_true rfl) rfl (show decode cX11_ends 9 = .ok (.invokevirtual 173, 3) from by decide +kernel) rfl (fun x9 => ?_)
    refine sr_if_ne (q := 15) C 18 (show decode cX11_ends 12 = .ok (.ifCond .ne 6, 3) from by decide +kernel) (by decide) rfl ?_ ?_
    · refine sr_aload_n (i := 0) (q := 19) C (show decode cX11_ends 18 = .ok (.aload_n 0, 1) from by decide +kernel) rfl rfl rfl ?_
      refine sr_getr (q := 22) C fl_X11_93 hv0 (show decode cX11_ends 19 = .ok (.getfield 93, 3) from by decide +kernel) rfl ?_
      refine sr_iload_n (i := 1) (q := 23) C (show decode cX11_ends 22 = .ok (.iload_n 1, 1) from by decide +kernel) rfl rfl rfl ?_
      refine sr_aaload (t0 := 5) (q := 24) C (kt hv0 kp_11_14) (Or.inr (Or.inl rfl)) rfl (show decode cX11_ends 23 = .ok (.aaload, 1) from by decide +kernel) rfl (fun x23 hx23 => ?_)
      refine sr_geti (q := 27) C fl_X11_231 (Or.inr rfl) hx23 (show decode cX11_ends 24 = .ok (.getfield 231, 3) from by decide +kernel) rfl (fun x24 => ?_)
      refine sr_if_ne (q := 30) C 33 (show decode cX11_ends 27 = .ok (.ifCond .ne 6, 3) from by decide +kernel) (by decide) rfl ?_ ?_
      · refine sr_aload_n (i := 0) (q := 34) C (show decode cX11_ends 33 = .ok (.aload_n 0, 1) from by decide +kernel) rfl rfl rfl ?_
        refine sr_aload_n (i := 0) (q := 35) C (show decode cX11_ends 34 = .ok (.aload_n 0, 1) from by decide +kernel) rfl rfl rfl ?_
        refine sr_getr (q := 38) C fl_X11_93 hv0 (show decode cX11_ends 35 = .ok (.getfield 93, 3) from by decide +kernel) rfl ?_
        refine sr_iload_n (i := 1) (q := 39) C (show decode cX11_ends 38 = .ok (.iload_n 1, 1) from by decide +kernel) rfl rfl rfl ?_
        refine sr_aaload (t0 := 5) (q := 40) C (kt hv0 kp_11_14) (Or.inr (Or.inl rfl)) rfl (show decode cX11_ends 39 = .ok (.aaload, 1) from by decide +kernel) rfl (fun x39 hx39 => ?_)
        refine sr_cVi (As := [xad κ x39]) (st := []) (b := v0) (q := 43) C yvX11_stepsInThought ml_X11_235 (cnX11_stepsInThought (xo κ) v0 x39 hv0 hx39) hv0 (by decide) rfl rfl rfl (by decide) (by decide) (Nat.le_of_ble_eq_true rfl) rfl (show decode cX11_ends 40 = .ok (.invokevirtual 235, 3) from by decide +kernel) rfl (fun x40 => ?_)
        refine sr_pop (q := 44) C (show decode cX11_ends 43 = .ok (.pop, 1) from by decide +kernel) rfl rfl ?_
        refine sr_aload_n (i := 0) (q := 45) C (show decode cX11_ends 44 = .ok (.aload_n 0, 1) from by decide +kernel) rfl rfl rfl ?_
        refine sr_getr (q := 48) C fl_X11_40 hv0 (show decode cX11_ends 45 = .ok (.getfield 40, 3) from by decide +kernel) rfl ?_
        refine sr_getr (q := 51) C fl_X11_176 (kt hv0 kp_11_7) (show decode cX11_ends 48 = .ok (.getfield 176, 3) from by decide +kernel) rfl ?_
        refine sr_iload_n (i := 2) (q := 52) C (show decode cX11_ends 51 = .ok (.iload_n 2, 1) from by decide +kernel) rfl rfl rfl ?_
        refine sr_iaload (q := 53) C (kt (kt hv0 kp_11_7) kp_9_4) (show decode cX11_ends 52 = .ok (.iaload, 1) from by decide +kernel) rfl (fun x52 => ?_)
        exact sr_ireturn C _ rfl (show decode cX11_ends 53 = .ok (.ireturn, 1) from by decide +kernel)
      · refine sr_bipush (v := (-6 : Int32)) (q := 32) C (show decode cX11_ends 30 = .ok (.bipush (-6), 2) from by decide +kernel) (by decide) rfl ?_
        exact sr_ireturn C _ rfl (show decode cX11_ends 32 = .ok (.ireturn, 1) from by decide +kernel)
    · refine sr_bipush (v := (-2 : Int32)) (q := 17) C (show decode cX11_ends 15 = .ok (.bipush (-2), 2) from by decide +kernel) (by decide) rfl ?_
      exact sr_ireturn C _ rfl (show decode cX11_ends 17 = .ok (.ireturn, 1) from by decide +kernel)
theorem cnX11_ends (ω : sm_O) (v0 : Nat) (v1 : Int32) (v2 : Int32) (hv0 : kd v0 = 11) : sm_Mt 7 yX11_ends cX11_ends 3 (some .int) ω [.ref (ω.1 + v0), .int v1, .int v2] (fun a => some (.int a)) (fnX11_ends v0 v1 v2) := by
  refine sm_conI (r := fun a => a) (by decide) (fun _ => rfl) (Nat.le_of_ble_eq_true rfl) ?_
  intro κ hκ C
  subst hκ
  exact slX11_ends C v0 v1 v2 hv0
def fnX11_fault (v0 : Nat) (v1 : Int32) : sm_M Int32 := m_br (v1 = 0)
    (m_gi v0 2 fun x5 => m_ret x5)
    (m_br (v1 = (1 : Int32))
    (m_gi v0 3 fun x15 => m_ret x15)
    (m_ret (-1 : Int32)))
set_option maxHeartbeats 4000000 in
set_option maxRecDepth 100000 in
theorem slX11_fault {κ : sm_X} (C : sm_C κ RX11 cX11_fault 2 1) (v0 : Nat) (v1 : Int32) (hv0 : kd v0 = 11) : sm_S κ (fun r : Int32 => .inr (some (.int r))) (.inl (0, [some (xad κ v0), some (.int v1)], [])) (fnX11_fault v0 v1) := by
  unfold fnX11_fault
  refine sr_iload_n (i := 1) (q := 1) C (show decode cX11_fault 0 = .ok (.iload_n 1, 1) from by decide +kernel) rfl rfl rfl ?_
  refine sr_if_ne (q := 4) C 9 (show decode cX11_fault 1 = .ok (.ifCond .ne 8, 3) from by decide +kernel) (by decide) rfl ?_ ?_
  · refine sr_iload_n (i := 1) (q := 10) C (show decode cX11_fault 9 = .ok (.iload_n 1, 1) from by decide +kernel) rfl rfl rfl ?_
    refine sr_iconst (v := (1 : Int32)) (q := 11) C (show decode cX11_fault 10 = .ok (.iconst 1, 1) from by decide +kernel) (by decide) rfl ?_
    refine sr_icmp_ne (q := 14) C 21 (show decode cX11_fault 11 = .ok (.if_icmp .ne 10, 3) from by decide +kernel) (by decide) rfl ?_ ?_
    · refine sr_iconst (v := (-1 : Int32)) (q := 22) C (show decode cX11_fault 21 = .ok (.iconst (-1), 1) from by decide +kernel) (by decide) rfl ?_
      exact sr_ireturn C _ rfl (show decode cX11_fault 22 = .ok (.ireturn, 1) from by decide +kernel)
    · refine sr_aload_n (i := 0) (q := 15) C (show decode cX11_fault 14 = .ok (.aload_n 0, 1) from by decide +kernel) rfl rfl rfl ?_
      refine sr_geti (q := 18) C fl_X11_13 (Or.inl rfl) hv0 (show decode cX11_fault 15 = .ok (.getfield 13, 3) from by decide +kernel) rfl (fun x15 => ?_)
      refine sr_goto (q := 22) C (show decode cX11_fault 18 = .ok (.goto 4, 3) from by decide +kernel) (by decide) ?_
      exact sr_ireturn C _ rfl (show decode cX11_fault 22 = .ok (.ireturn, 1) from by decide +kernel)
  · refine sr_aload_n (i := 0) (q := 5) C (show decode cX11_fault 4 = .ok (.aload_n 0, 1) from by decide +kernel) rfl rfl rfl ?_
    refine sr_geti (q := 8) C fl_X11_124 (Or.inl rfl) hv0 (show decode cX11_fault 5 = .ok (.getfield 124, 3) from by decide +kernel) rfl (fun x5 => ?_)
    exact sr_ireturn C _ rfl (show decode cX11_fault 8 = .ok (.ireturn, 1) from by decide +kernel)
theorem cnX11_fault (ω : sm_O) (v0 : Nat) (v1 : Int32) (hv0 : kd v0 = 11) : sm_Mt 1 yX11_fault cX11_fault 2 (some .int) ω [.ref (ω.1 + v0), .int v1] (fun a => some (.int a)) (fnX11_fault v0 v1) := by
  refine sm_conI (r := fun a => a) (by decide) (fun _ => rfl) (Nat.le_of_ble_eq_true rfl) ?_
  intro κ hκ C
  subst hκ
  exact slX11_fault C v0 v1 hv0
def fnX11_putBytes_L3 : Nat → Nat → Int32 → Int32 → sm_M Unit
  | 0, _, _, _ => m_fail
  | n + 1, v0, v1, v2 => m_br (v2 < 0)
    (m_ret ())
    (m_gi v0 1 fun x8 => m_br ((1600 : Int32) ≤ x8)
    (m_ret ())
    (m_gi v0 1 fun x22 => m_sai (lk v0 0) x22 (vp_nar .byte ((v1 >>> (v2 &&& 31)).toInt8.toInt32)) <| m_gi v0 1 fun x32 => m_si v0 1 (x32 + (1 : Int32)) <| (fnX11_putBytes_L3 n) v0 v1 (v2 + (-8 : Int32))))
set_option maxHeartbeats 4000000 in
set_option maxRecDepth 100000 in
theorem slX11_putBytes_L3 {κ : sm_X} (C : sm_C κ RX11 cX11_putBytes 3 1) : ∀ (n : Nat) (v0 : Nat) (v1 : Int32) (v2 : Int32) (hv0 : kd v0 = 11), sm_S κ (fun _ : Unit => .inr none) (.inl (3, [some (xad κ v0), some (.int v1), some (.int v2)], [])) (fnX11_putBytes_L3 n v0 v1 v2) := by
  intro n
  induction n with
  | zero =>
    intros
    exact sr_fail
  | succ n K3 =>
    intro v0 v1 v2 hv0
    unfold fnX11_putBytes_L3
    refine sr_iload_n (i := 2) (q := 4) C (show decode cX11_putBytes 3 = .ok (.iload_n 2, 1) from by decide +kernel) rfl rfl rfl ?_
    refine sr_if_lt (q := 7) C 46 (show decode cX11_putBytes 4 = .ok (.ifCond .lt 42, 3) from by decide +kernel) (by decide) rfl ?_ ?_
    · exact sr_vreturn C _ rfl (show decode cX11_putBytes 46 = .ok (.return_, 1) from by decide +kernel)
    · refine sr_aload_n (i := 0) (q := 8) C (show decode cX11_putBytes 7 = .ok (.aload_n 0, 1) from by decide +kernel) rfl rfl rfl ?_
      refine sr_geti (q := 11) C fl_X11_110 (Or.inl rfl) hv0 (show decode cX11_putBytes 8 = .ok (.getfield 110, 3) from by decide +kernel) rfl (fun x8 => ?_)
      refine sr_sipush (v := (1600 : Int32)) (q := 14) C (show decode cX11_putBytes 11 = .ok (.sipush 1600, 3) from by decide +kernel) (by decide) rfl ?_
      refine sr_icmp_ge (q := 17) C 46 (show decode cX11_putBytes 14 = .ok (.if_icmp .ge 32, 3) from by decide +kernel) (by decide) rfl ?_ ?_
      · exact sr_vreturn C _ rfl (show decode cX11_putBytes 46 = .ok (.return_, 1) from by decide +kernel)
      · refine sr_aload_n (i := 0) (q := 18) C (show decode cX11_putBytes 17 = .ok (.aload_n 0, 1) from by decide +kernel) rfl rfl rfl ?_
        refine sr_getr (q := 21) C fl_X11_9 hv0 (show decode cX11_putBytes 18 = .ok (.getfield 9, 3) from by decide +kernel) rfl ?_
        refine sr_aload_n (i := 0) (q := 22) C (show decode cX11_putBytes 21 = .ok (.aload_n 0, 1) from by decide +kernel) rfl rfl rfl ?_
        refine sr_geti (q := 25) C fl_X11_110 (Or.inl rfl) hv0 (show decode cX11_putBytes 22 = .ok (.getfield 110, 3) from by decide +kernel) rfl (fun x22 => ?_)
        refine sr_iload_n (i := 1) (q := 26) C (show decode cX11_putBytes 25 = .ok (.iload_n 1, 1) from by decide +kernel) rfl rfl rfl ?_
        refine sr_iload_n (i := 2) (q := 27) C (show decode cX11_putBytes 26 = .ok (.iload_n 2, 1) from by decide +kernel) rfl rfl rfl ?_
        refine sr_ishr (q := 28) C (show decode cX11_putBytes 27 = .ok (.ishr, 1) from by decide +kernel) rfl ?_
        refine sr_i2b (q := 29) C (show decode cX11_putBytes 28 = .ok (.i2b, 1) from by decide +kernel) rfl ?_
        refine sr_bastore (q := 30) C (kt hv0 kp_11_0) (show decode cX11_putBytes 29 = .ok (.bastore, 1) from by decide +kernel) rfl ?_
        refine sr_aload_n (i := 0) (q := 31) C (show decode cX11_putBytes 30 = .ok (.aload_n 0, 1) from by decide +kernel) rfl rfl rfl ?_
        refine sr_dup (q := 32) C (show decode cX11_putBytes 31 = .ok (.dup, 1) from by decide +kernel) rfl rfl ?_
        refine sr_geti (q := 35) C fl_X11_110 (Or.inl rfl) hv0 (show decode cX11_putBytes 32 = .ok (.getfield 110, 3) from by decide +kernel) rfl (fun x32 => ?_)
        refine sr_iconst (v := (1 : Int32)) (q := 36) C (show decode cX11_putBytes 35 = .ok (.iconst 1, 1) from by decide +kernel) (by decide) rfl ?_
        refine sr_iadd (q := 37) C (show decode cX11_putBytes 36 = .ok (.iadd, 1) from by decide +kernel) rfl ?_
        refine sr_puti (q := 40) C fp_X11_110 hv0 (show decode cX11_putBytes 37 = .ok (.putfield 110, 3) from by decide +kernel) rfl ?_
        refine sr_iinc (v := v2 + (-8 : Int32)) (L' := [some (xad κ v0), some (.int v1), some (.int (v2 + (-8 : Int32)))]) (q := 43) C (show decode cX11_putBytes 40 = .ok (.iinc 2 (-8), 3) from by decide +kernel) rfl rfl (by decide) rfl rfl ?_
        refine sr_goto (q := 3) C (show decode cX11_putBytes 43 = .ok (.goto (-40), 3) from by decide +kernel) (by decide) ?_
        exact K3 v0 v1 (v2 + (-8 : Int32)) hv0
def fnX11_putBytes (v0 : Nat) (v1 : Int32) : sm_M Unit := fnX11_putBytes_L3 4096 v0 v1 (24 : Int32)
set_option maxHeartbeats 4000000 in
set_option maxRecDepth 100000 in
theorem slX11_putBytes {κ : sm_X} (C : sm_C κ RX11 cX11_putBytes 3 1) (v0 : Nat) (v1 : Int32) (hv0 : kd v0 = 11) : sm_S κ (fun _ : Unit => .inr none) (.inl (0, [some (xad κ v0), some (.int v1), none], [])) (fnX11_putBytes v0 v1) := by
  unfold fnX11_putBytes
  refine sr_bipush (v := (24 : Int32)) (q := 2) C (show decode cX11_putBytes 0 = .ok (.bipush 24, 2) from by decide +kernel) (by decide) rfl ?_
  refine sr_istore_n (i := 2) (L' := [some (xad κ v0), some (.int v1), some (.int (24 : Int32))]) (q := 3) C (show decode cX11_putBytes 2 = .ok (.istore_n 2, 1) from by decide +kernel) rfl (by decide) rfl rfl ?_
  exact slX11_putBytes_L3 C 4096 v0 v1 (24 : Int32) hv0
theorem cnX11_putBytes (ω : sm_O) (v0 : Nat) (v1 : Int32) (hv0 : kd v0 = 11) : sm_Mt 1 yX11_putBytes cX11_putBytes 3 none ω [.ref (ω.1 + v0), .int v1] (fun _ => none) (fnX11_putBytes v0 v1) := by
  refine sm_conV (by decide) (Nat.le_of_ble_eq_true rfl) ?_
  intro κ hκ C
  subst hκ
  exact slX11_putBytes C v0 v1 hv0
