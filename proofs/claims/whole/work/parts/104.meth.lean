def fnX2_fill_J19 (v0 : Nat) : sm_M Int32 := m_gi (lk v0 1) 2 fun x57 => m_ret x57
set_option maxHeartbeats 4000000 in
set_option maxRecDepth 100000 in
theorem slX2_fill_J19 {κ : sm_X} (C : sm_C κ RX2 cX2_fill 4 4) (v0 : Nat) (hv0 : kd v0 = 2) : sm_S κ (fun r : Int32 => .inr (some (.int r))) (.inl (19, [some (xad κ v0), none, none, none], [])) (fnX2_fill_J19 v0) := by
  unfold fnX2_fill_J19
  refine sr_goto (q := 53) C (show decode cX2_fill 19 = .ok (.goto 34, 3) from by decide +kernel) (by decide) ?_
  refine sr_aload_n (i := 0) (q := 54) C (show decode cX2_fill 53 = .ok (.aload_n 0, 1) from by decide +kernel) rfl rfl rfl ?_
  refine sr_getr (q := 57) C fl_X2_14 hv0 (show decode cX2_fill 54 = .ok (.getfield 14, 3) from by decide +kernel) rfl ?_
  refine sr_geti (q := 60) C fl_X2_137 (Or.inl rfl) (kt hv0 kp_2_1) (show decode cX2_fill 57 = .ok (.getfield 137, 3) from by decide +kernel) rfl (fun x57 => ?_)
  exact sr_ireturn C _ rfl (show decode cX2_fill 60 = .ok (.ireturn, 1) from by decide +kernel)
def fnX2_fill_L2 : Nat → Nat → Int32 → sm_M Int32
  | 0, _, _ => m_fail
  | n + 1, v0, v1 => m_br ((999 : Int32) ≤ v1)
    (m_gi (lk v0 1) 2 fun x57 => m_ret x57)
    (m_bnd (fnX2_search v0) fun x10 => m_br (x10 = (-1 : Int32))
    (fnX2_fill_J19 v0)
    (m_bnd (fnX2_narrowest v0 x10) fun x24 => m_bnd (fnX2_push v0 x10 x24) fun _ => m_gi (lk v0 1) 2 fun x39 => m_si (lk v0 1) 2 (x39 + x24) <| (fnX2_fill_L2 n) v0 (v1 + (1 : Int32))))
set_option maxHeartbeats 4000000 in
set_option maxRecDepth 100000 in
theorem slX2_fill_L2 {κ : sm_X} (C : sm_C κ RX2 cX2_fill 4 4) : ∀ (n : Nat) (v0 : Nat) (v1 : Int32) (hv0 : kd v0 = 2), sm_S κ (fun r : Int32 => .inr (some (.int r))) (.inl (2, [some (xad κ v0), some (.int v1), none, none], [])) (fnX2_fill_L2 n v0 v1) := by
  intro n
  induction n with
  | zero =>
    intros
    exact sr_fail
  | succ n K2 =>
    intro v0 v1 hv0
    unfold fnX2_fill_L2
    refine sr_iload_n (i := 1) (q := 3) C (show decode cX2_fill 2 = .ok (.iload_n 1, 1) from by decide +kernel) rfl rfl rfl ?_
    refine sr_sipush (v := (999 : Int32)) (q := 6) C (show decode cX2_fill 3 = .ok (.sipush 999, 3) from by decide +kernel) (by decide) rfl ?_
    refine sr_icmp_ge (q := 9) C 53 (show decode cX2_fill 6 = .ok (.if_icmp .ge 47, 3) from by decide +kernel) (by decide) rfl ?_ ?_
    · refine sr_aload_n (i := 0) (q := 54) C (show decode cX2_fill 53 = .ok (.aload_n 0, 1) from by decide +kernel) rfl rfl rfl ?_
      refine sr_getr (q := 57) C fl_X2_14 hv0 (show decode cX2_fill 54 = .ok (.getfield 14, 3) from by decide +kernel) rfl ?_
      refine sr_geti (q := 60) C fl_X2_137 (Or.inl rfl) (kt hv0 kp_2_1) (show decode cX2_fill 57 = .ok (.getfield 137, 3) from by decide +kernel) rfl (fun x57 => ?_)
      exact sr_ireturn C _ rfl (show decode cX2_fill 60 = .ok (.ireturn, 1) from by decide +kernel)
    · refine sr_aload_n (i := 0) (q := 10) C (show decode cX2_fill 9 = .ok (.aload_n 0, 1) from by decide +kernel) rfl rfl rfl ?_
      refine sr_cVi (As := []) (st := []) (b := v0) (q := 13) C yvX2_search ml_X2_126 (cnX2_search (xo κ) v0 hv0) hv0 (by decide) rfl rfl rfl (by decide) (by decide) (Nat.le_of_ble_eq_true rfl) rfl (show decode cX2_fill 10 = .ok (.invokevirtual 126, 3) from by decide +kernel) rfl (fun x10 => ?_)
      refine sr_istore_n (i := 2) (L' := [some (xad κ v0), some (.int v1), some (.int x10), none]) (q := 14) C (show decode cX2_fill 13 = .ok (.istore_n 2, 1) from by decide +kernel) rfl (by decide) rfl rfl ?_
      refine sr_iload_n (i := 2) (q := 15) C (show decode cX2_fill 14 = .ok (.iload_n 2, 1) from by decide +kernel) rfl rfl rfl ?_
      refine sr_iconst (v := (-1 : Int32)) (q := 16) C (show decode cX2_fill 15 = .ok (.iconst (-1), 1) from by decide +kernel) (by decide) rfl ?_
      refine sr_icmp_ne (q := 19) C 22 (show decode cX2_fill 16 = .ok (.if_icmp .ne 6, 3) from by decide +kernel) (by decide) rfl ?_ ?_
      · refine sr_aload_n (i := 0) (q := 23) C (show decode cX2_fill 22 = .ok (.aload_n 0, 1) from by decide +kernel) rfl rfl rfl ?_
        refine sr_iload_n (i := 2) (q := 24) C (show decode cX2_fill 23 = .ok (.iload_n 2, 1) from by decide +kernel) rfl rfl rfl ?_
        refine sr_cVi (As := [.int x10]) (st := []) (b := v0) (q := 27) C yvX2_narrowest ml_X2_130 (cnX2_narrowest (xo κ) v0 x10 hv0) hv0 (by decide) rfl rfl rfl (by decide) (by decide) (Nat.le_of_ble_eq_true rfl) rfl (show decode cX2_fill 24 = .ok (.invokevirtual 130, 3) from by decide +kernel) rfl (fun x24 => ?_)
        refine sr_istore_n (i := 3) (L' := [some (xad κ v0), some (.int v1), some (.int x10), some (.int x24)]) (q := 28) C (show decode cX2_fill 27 = .ok (.istore_n 3, 1) from by decide +kernel) rfl (by decide) rfl rfl ?_
        refine sr_aload_n (i := 0) (q := 29) C (show decode cX2_fill 28 = .ok (.aload_n 0, 1) from by decide +kernel) rfl rfl rfl ?_
        refine sr_iload_n (i := 2) (q := 30) C (show decode cX2_fill 29 = .ok (.iload_n 2, 1) from by decide +kernel) rfl rfl rfl ?_
        refine sr_iload_n (i := 3) (q := 31) C (show decode cX2_fill 30 = .ok (.iload_n 3, 1) from by decide +kernel) rfl rfl rfl ?_
        refine sr_cVv (As := [.int x10, .int x24]) (st := []) (b := v0) (q := 34) C yvX2_push ml_X2_133 (cnX2_push (xo κ) v0 x10 x24 hv0) hv0 (by decide) rfl rfl rfl (by decide) (by decide) (Nat.le_of_ble_eq_true rfl) rfl (show decode cX2_fill 31 = .ok (.invokevirtual 133, 3) from by decide +kernel) rfl (fun _ => ?_)
        refine sr_aload_n (i := 0) (q := 35) C (show decode cX2_fill 34 = .ok (.aload_n 0, 1) from by decide +kernel) rfl rfl rfl ?_
        refine sr_getr (q := 38) C fl_X2_14 hv0 (show decode cX2_fill 35 = .ok (.getfield 14, 3) from by decide +kernel) rfl ?_
        refine sr_dup (q := 39) C (show decode cX2_fill 38 = .ok (.dup, 1) from by decide +kernel) rfl rfl ?_
        refine sr_geti (q := 42) C fl_X2_137 (Or.inl rfl) (kt hv0 kp_2_1) (show decode cX2_fill 39 = .ok (.getfield 137, 3) from by decide +kernel) rfl (fun x39 => ?_)
        refine sr_iload_n (i := 3) (q := 43) C (show decode cX2_fill 42 = .ok (.iload_n 3, 1) from by decide +kernel) rfl rfl rfl ?_
        refine sr_iadd (q := 44) C (show decode cX2_fill 43 = .ok (.iadd, 1) from by decide +kernel) rfl ?_
        refine sr_puti (q := 47) C fp_X2_137 (kt hv0 kp_2_1) (show decode cX2_fill 44 = .ok (.putfield 137, 3) from by decide +kernel) rfl ?_
        refine sr_iinc (v := v1 + (1 : Int32)) (L' := [some (xad κ v0), some (.int (v1 + (1 : Int32))), some (.int x10), some (.int x24)]) (q := 50) C (show decode cX2_fill 47 = .ok (.iinc 1 1, 3) from by decide +kernel) rfl rfl (by decide) rfl rfl ?_
        refine sr_goto (q := 2) C (show decode cX2_fill 50 = .ok (.goto (-48), 3) from by decide +kernel) (by decide) ?_
        refine sr_weak (L' := [some (xad κ v0), some (.int (v1 + (1 : Int32))), none, none]) ⟨rfl, rfl, trivial⟩ ?_
        exact K2 v0 (v1 + (1 : Int32)) hv0
      · refine sr_weak (L' := [some (xad κ v0), none, none, none]) ⟨rfl, trivial⟩ ?_
        exact slX2_fill_J19 C v0 hv0
def fnX2_fill (v0 : Nat) : sm_M Int32 := fnX2_fill_L2 4096 v0 (0 : Int32)
set_option maxHeartbeats 4000000 in
set_option maxRecDepth 100000 in
theorem slX2_fill {κ : sm_X} (C : sm_C κ RX2 cX2_fill 4 4) (v0 : Nat) (hv0 : kd v0 = 2) : sm_S κ (fun r : Int32 => .inr (some (.int r))) (.inl (0, [some (xad κ v0), none, none, none], [])) (fnX2_fill v0) := by
  unfold fnX2_fill
  refine sr_iconst (v := (0 : Int32)) (q := 1) C (show decode cX2_fill 0 = .ok (.iconst 0, 1) from by decide +kernel) (by decide) rfl ?_
  refine sr_istore_n (i := 1) (L' := [some (xad κ v0), some (.int (0 : Int32)), none, none]) (q := 2) C (show decode cX2_fill 1 = .ok (.istore_n 1, 1) from by decide +kernel) rfl (by decide) rfl rfl ?_
  exact slX2_fill_L2 C 4096 v0 (0 : Int32) hv0
theorem cnX2_fill (ω : sm_O) (v0 : Nat) (hv0 : kd v0 = 2) : sm_Mt 4 yX2_fill cX2_fill 4 (some .int) ω [.ref (ω.1 + v0)] (fun a => some (.int a)) (fnX2_fill v0) := by
  refine sm_conI (r := fun a => a) (by decide) (fun _ => rfl) (Nat.le_of_ble_eq_true rfl) ?_
  intro κ hκ C
  subst hκ
  exact slX2_fill C v0 hv0
def fnX4_empty (v0 : Nat) : sm_M Unit := m_si v0 2 (0 : Int32) <| m_si v0 3 (0 : Int32) <| m_si v0 4 (0 : Int32) <| m_bnd (fnJ7_fill_53178 (lk v0 7) (0 : Int32)) fun _ => m_bnd (fnJ7_fill_53178 (lk v0 8) (0 : Int32)) fun _ => m_bnd (fnJ7_fill_53178 (lk v0 9) (0 : Int32)) fun _ => m_ret ()
set_option maxHeartbeats 4000000 in
set_option maxRecDepth 100000 in
theorem slX4_empty {κ : sm_X} (C : sm_C κ RX4 cX4_empty 1 2) (v0 : Nat) (hv0 : kd v0 = 4) : sm_S κ (fun _ : Unit => .inr none) (.inl (0, [some (xad κ v0)], [])) (fnX4_empty v0) := by
  unfold fnX4_empty
  refine sr_aload_n (i := 0) (q := 1) C (show decode cX4_empty 0 = .ok (.aload_n 0, 1) from by decide +kernel) rfl rfl rfl ?_
  refine sr_iconst (v := (0 : Int32)) (q := 2) C (show decode cX4_empty 1 = .ok (.iconst 0, 1) from by decide +kernel) (by decide) rfl ?_
  refine sr_puti (q := 5) C fp_X4_34 hv0 (show decode cX4_empty 2 = .ok (.putfield 34, 3) from by decide +kernel) rfl ?_
  refine sr_aload_n (i := 0) (q := 6) C (show decode cX4_empty 5 = .ok (.aload_n 0, 1) from by decide +kernel) rfl rfl rfl ?_
  refine sr_iconst (v := (0 : Int32)) (q := 7) C (show decode cX4_empty 6 = .ok (.iconst 0, 1) from by decide +kernel) (by decide) rfl ?_
  refine sr_puti (q := 10) C fp_X4_37 hv0 (show decode cX4_empty 7 = .ok (.putfield 37, 3) from by decide +kernel) rfl ?_
  refine sr_aload_n (i := 0) (q := 11) C (show decode cX4_empty 10 = .ok (.aload_n 0, 1) from by decide +kernel) rfl rfl rfl ?_
  refine sr_iconst (v := (0 : Int32)) (q := 12) C (show decode cX4_empty 11 = .ok (.iconst 0, 1) from by decide +kernel) (by decide) rfl ?_
  refine sr_puti (q := 15) C fp_X4_40 hv0 (show decode cX4_empty 12 = .ok (.putfield 40, 3) from by decide +kernel) rfl ?_
  refine sr_aload_n (i := 0) (q := 16) C (show decode cX4_empty 15 = .ok (.aload_n 0, 1) from by decide +kernel) rfl rfl rfl ?_
  refine sr_getr (q := 19) C fl_X4_18 hv0 (show decode cX4_empty 16 = .ok (.getfield 18, 3) from by decide +kernel) rfl ?_
  refine sr_iconst (v := (0 : Int32)) (q := 20) C (show decode cX4_empty 19 = .ok (.iconst 0, 1) from by decide +kernel) (by decide) rfl ?_
  refine sr_cSv (As := [xad κ (lk v0 7), .int (0 : Int32)]) (st := []) (q := 23) C ysJ7_fill_53178 ml_X4_49 (cnJ7_fill_53178 (xo κ) (lk v0 7) (0 : Int32) (kt hv0 kp_4_7)) rfl (by decide) (by decide) (Nat.le_of_ble_eq_true rfl) rfl (show decode cX4_empty 20 = .ok (.invokestatic 49, 3) from by decide +kernel) rfl (fun _ => ?_)
  refine sr_aload_n (i := 0) (q := 24) C (show decode cX4_empty 23 = .ok (.aload_n 0, 1) from by decide +kernel) rfl rfl rfl ?_
  refine sr_getr (q := 27) C fl_X4_21 hv0 (show decode cX4_empty 24 = .ok (.getfield 21, 3) from by decide +kernel) rfl ?_
  refine sr_iconst (v := (0 : Int32)) (q := 28) C (show decode cX4_empty 27 = .ok (.iconst 0, 1) from by decide +kernel) (by decide) rfl ?_
  refine sr_cSv (As := [xad κ (lk v0 8), .int (0 : Int32)]) (st := []) (q := 31) C ysJ7_fill_53178 ml_X4_49 (cnJ7_fill_53178 (xo κ) (lk v0 8) (0 : Int32) (kt hv0 kp_4_8)) rfl (by decide) (by decide) (Nat.le_of_ble_eq_true rfl) rfl (show decode cX4_empty 28 = .ok (.invokestatic 49, 3) from by decide +kernel) rfl (fun _ => ?_)
  refine sr_aload_n (i := 0) (q := 32) C (show decode cX4_empty 31 = .ok (.aload_n 0, 1) from by decide +kernel) rfl rfl rfl ?_
  refine sr_getr (q := 35) C fl_X4_24 hv0 (show decode cX4_empty 32 = .ok (.getfield 24, 3) from by decide +kernel) rfl ?_
  refine sr_iconst (v := (0 : Int32)) (q := 36) C (show decode cX4_empty 35 = .ok (.iconst 0, 1) from by decide +kernel) (by decide) rfl ?_
  refine sr_cSv (As := [xad κ (lk v0 9), .int (0 : Int32)]) (st := []) (q := 39) C ysJ7_fill_53178 ml_X4_49 (cnJ7_fill_53178 (xo κ) (lk v0 9) (0 : Int32) (kt hv0 kp_4_9)) rfl (by decide) (by decide) (Nat.le_of_ble_eq_true rfl) rfl (show decode cX4_empty 36 = .ok (.invokestatic 49, 3) from by decide +kernel) rfl (fun _ => ?_)
  exact sr_vreturn C _ rfl (show decode cX4_empty 39 = .ok (.return_, 1) from by decide +kernel)
theorem cnX4_empty (ω : sm_O) (v0 : Nat) (hv0 : kd v0 = 4) : sm_Mt 2 yX4_empty cX4_empty 1 none ω [.ref (ω.1 + v0)] (fun _ => none) (fnX4_empty v0) := by
  refine sm_conV (by decide) (Nat.le_of_ble_eq_true rfl) ?_
  intro κ hκ C
  subst hκ
  exact slX4_empty C v0 hv0
def fnX2_lay_J140 (k75 : Nat → Nat → Int32 → Int32 → sm_M Unit) (v0 : Nat) (v1 : Nat) (v3 : Int32) (v4 : Int32) (s0 : Int32) (s1 : Int32) (s2 : Nat) : sm_M Unit := m_sai s2 s1 s0 <| k75 v0 v1 v3 (v4 + (1 : Int32))
set_option maxHeartbeats 4000000 in
set_option maxRecDepth 100000 in
theorem slX2_lay_J140 {κ : sm_X} (C : sm_C κ RX2 cX2_lay 5 3) {k75 : Nat → Nat → Int32 → Int32 → sm_M Unit} (K75 : ∀ (v0 : Nat) (v1 : Nat) (v3 : Int32) (v4 : Int32) (hv0 : kd v0 = 2) (hv1 : kd v1 = 9), sm_S κ (fun _ : Unit => .inr none) (.inl (75, [some (xad κ v0), some (xad κ v1), none, some (.int v3), some (.int v4)], [])) (k75 v0 v1 v3 v4)) (v0 : Nat) (v1 : Nat) (v3 : Int32) (v4 : Int32) (s0 : Int32) (s1 : Int32) (s2 : Nat) (hv0 : kd v0 = 2) (hv1 : kd v1 = 9) (hs2 : kd s2 = 20) : sm_S κ (fun _ : Unit => .inr none) (.inl (140, [some (xad κ v0), some (xad κ v1), none, some (.int v3), some (.int v4)], [.int s0, .int s1, xad κ s2])) (fnX2_lay_J140 k75 v0 v1 v3 v4 s0 s1 s2) := by
  unfold fnX2_lay_J140
  refine sr_iastore (q := 141) C hs2 (show decode cX2_lay 140 = .ok (.iastore, 1) from by decide +kernel) rfl ?_
  refine sr_iinc (v := v4 + (1 : Int32)) (L' := [some (xad κ v0), some (xad κ v1), none, some (.int v3), some (.int (v4 + (1 : Int32)))]) (q := 144) C (show decode cX2_lay 141 = .ok (.iinc 4 1, 3) from by decide +kernel) rfl rfl (by decide) rfl rfl ?_
  refine sr_goto (q := 75) C (show decode cX2_lay 144 = .ok (.goto (-69), 3) from by decide +kernel) (by decide) ?_
  exact K75 v0 v1 v3 (v4 + (1 : Int32)) hv0 hv1
def fnX2_lay_L75 : Nat → Nat → Nat → Int32 → Int32 → sm_M Unit
  | 0, _, _, _, _ => m_fail
  | n + 1, v0, v1, v3, v4 => m_gi (lk v1 0) 4 fun x81 => m_br (x81 ≤ v4)
    (m_ret ())
    (m_gi v0 7 fun x104 => m_ai (lk (lk v0 0) 2) ((x104 * (24 : Int32)) + v4) fun x113 => m_sai (lk (lk v0 1) 5) v4 x113 <| m_br (v3 ≤ 0)
    (fnX2_lay_J140 (fnX2_lay_L75 n) v0 v1 v3 v4 (0 : Int32) v4 (lk (lk v0 1) 6))
    (m_bnd (fnX9_leftOf v1 v4) fun x131 => m_gd (¬ v3 = 0) <| fnX2_lay_J140 (fnX2_lay_L75 n) v0 v1 v3 v4 (x131 / v3) v4 (lk (lk v0 1) 6)))
set_option maxHeartbeats 4000000 in
set_option maxRecDepth 100000 in
theorem slX2_lay_L75 {κ : sm_X} (C : sm_C κ RX2 cX2_lay 5 3) : ∀ (n : Nat) (v0 : Nat) (v1 : Nat) (v3 : Int32) (v4 : Int32) (hv0 : kd v0 = 2) (hv1 : kd v1 = 9), sm_S κ (fun _ : Unit => .inr none) (.inl (75, [some (xad κ v0), some (xad κ v1), none, some (.int v3), some (.int v4)], [])) (fnX2_lay_L75 n v0 v1 v3 v4) := by
  intro n
  induction n with
  | zero =>
    intros
    exact sr_fail
  | succ n K75 =>
    intro v0 v1 v3 v4 hv0 hv1
    unfold fnX2_lay_L75
    refine sr_iload (i := 4) (q := 77) C (show decode cX2_lay 75 = .ok (.iload 4, 2) from by decide +kernel) rfl rfl ?_
    refine sr_aload_n (i := 1) (q := 78) C (show decode cX2_lay 77 = .ok (.aload_n 1, 1) from by decide +kernel) rfl rfl rfl ?_
    refine sr_getr (q := 81) C fl_X2_66 hv1 (show decode cX2_lay 78 = .ok (.getfield 66, 3) from by decide +kernel) rfl ?_
    refine sr_geti (q := 84) C fl_X2_72 (Or.inl rfl) (kt hv1 kp_9_0) (show decode cX2_lay 81 = .ok (.getfield 72, 3) from by decide +kernel) rfl (fun x81 => ?_)
    refine sr_icmp_ge (q := 87) C 147 (show decode cX2_lay 84 = .ok (.if_icmp .ge 63, 3) from by decide +kernel) (by decide) rfl ?_ ?_
    · exact sr_vreturn C _ rfl (show decode cX2_lay 147 = .ok (.return_, 1) from by decide +kernel)
    · refine sr_aload_n (i := 0) (q := 88) C (show decode cX2_lay 87 = .ok (.aload_n 0, 1) from by decide +kernel) rfl rfl rfl ?_
      refine sr_getr (q := 91) C fl_X2_14 hv0 (show decode cX2_lay 88 = .ok (.getfield 14, 3) from by decide +kernel) rfl ?_
      refine sr_getr (q := 94) C fl_X2_54 (kt hv0 kp_2_1) (show decode cX2_lay 91 = .ok (.getfield 54, 3) from by decide +kernel) rfl ?_
      refine sr_iload (i := 4) (q := 96) C (show decode cX2_lay 94 = .ok (.iload 4, 2) from by decide +kernel) rfl rfl ?_
      refine sr_aload_n (i := 0) (q := 97) C (show decode cX2_lay 96 = .ok (.aload_n 0, 1) from by decide +kernel) rfl rfl rfl ?_
      refine sr_getr (q := 100) C fl_X2_31 hv0 (show decode cX2_lay 97 = .ok (.getfield 31, 3) from by decide +kernel) rfl ?_
      refine sr_getr (q := 103) C fl_X2_77 (kt hv0 kp_2_0) (show decode cX2_lay 100 = .ok (.getfield 77, 3) from by decide +kernel) rfl ?_
      refine sr_aload_n (i := 0) (q := 104) C (show decode cX2_lay 103 = .ok (.aload_n 0, 1) from by decide +kernel) rfl rfl rfl ?_
      refine sr_geti (q := 107) C fl_X2_35 (Or.inl rfl) hv0 (show decode cX2_lay 104 = .ok (.getfield 35, 3) from by decide +kernel) rfl (fun x104 => ?_)
      refine sr_bipush (v := (24 : Int32)) (q := 109) C (show decode cX2_lay 107 = .ok (.bipush 24, 2) from by decide +kernel) (by decide) rfl ?_
      refine sr_imul (q := 110) C (show decode cX2_lay 109 = .ok (.imul, 1) from by decide +kernel) rfl ?_
      refine sr_iload (i := 4) (q := 112) C (show decode cX2_lay 110 = .ok (.iload 4, 2) from by decide +kernel) rfl rfl ?_
      refine sr_iadd (q := 113) C (show decode cX2_lay 112 = .ok (.iadd, 1) from by decide +kernel) rfl ?_
      refine sr_iaload (q := 114) C (kt (kt hv0 kp_2_0) kp_3_2) (show decode cX2_lay 113 = .ok (.iaload, 1) from by decide +kernel) rfl (fun x113 => ?_)
      refine sr_iastore (q := 115) C (kt (kt hv0 kp_2_1) kp_4_5) (show decode cX2_lay 114 = .ok (.iastore, 1) from by decide +kernel) rfl ?_
      refine sr_aload_n (i := 0) (q := 116) C (show decode cX2_lay 115 = .ok (.aload_n 0, 1) from by decide +kernel) rfl rfl rfl ?_
      refine sr_getr (q := 119) C fl_X2_14 hv0 (show decode cX2_lay 116 = .ok (.getfield 14, 3) from by decide +kernel) rfl ?_
      refine sr_getr (q := 122) C fl_X2_63 (kt hv0 kp_2_1) (show decode cX2_lay 119 = .ok (.getfield 63, 3) from by decide +kernel) rfl ?_
      refine sr_iload (i := 4) (q := 124) C (show decode cX2_lay 122 = .ok (.iload 4, 2) from by decide +kernel) rfl rfl ?_
      refine sr_iload_n (i := 3) (q := 125) C (show decode cX2_lay 124 = .ok (.iload_n 3, 1) from by decide +kernel) rfl rfl rfl ?_
      refine sr_if_le (q := 128) C 139 (show decode cX2_lay 125 = .ok (.ifCond .le 14, 3) from by decide +kernel) (by decide) rfl ?_ ?_
      · refine sr_iconst (v := (0 : Int32)) (q := 140) C (show decode cX2_lay 139 = .ok (.iconst 0, 1) from by decide +kernel) (by decide) rfl ?_
        exact slX2_lay_J140 C K75 v0 v1 v3 v4 (0 : Int32) v4 (lk (lk v0 1) 6) hv0 hv1 (kt (kt hv0 kp_2_1) kp_4_6)
      · refine sr_aload_n (i := 1) (q := 129) C (show decode cX2_lay 128 = .ok (.aload_n 1, 1) from by decide +kernel) rfl rfl rfl ?_
        refine sr_iload (i := 4) (q := 131) C (show decode cX2_lay 129 = .ok (.iload 4, 2) from by decide +kernel) rfl rfl ?_
        refine sr_cVi (As := [.int v4]) (st := [.int v4, xad κ (lk (lk v0 1) 6)]) (b := v1) (q := 134) C yvX9_leftOf ml_X2_78 (cnX9_leftOf (xo κ) v1 v4 hv1) hv1 (by decide) rfl rfl rfl (by decide) (by decide) (Nat.le_of_ble_eq_true rfl) rfl (show decode cX2_lay 131 = .ok (.invokevirtual 78, 3) from by decide +kernel) rfl (fun x131 => ?_)
        refine sr_iload_n (i := 3) (q := 135) C (show decode cX2_lay 134 = .ok (.iload_n 3, 1) from by decide +kernel) rfl rfl rfl ?_
        refine sr_idiv (q := 136) C (show decode cX2_lay 135 = .ok (.idiv, 1) from by decide +kernel) rfl ?_
        refine sr_goto (q := 140) C (show decode cX2_lay 136 = .ok (.goto 4, 3) from by decide +kernel) (by decide) ?_
        exact slX2_lay_J140 C K75 v0 v1 v3 v4 (x131 / v3) v4 (lk (lk v0 1) 6) hv0 hv1 (kt (kt hv0 kp_2_1) kp_4_6)
def fnX2_lay (v0 : Nat) (v1 : Nat) (v2 : Int32) (v3 : Int32) : sm_M Unit := m_si v0 7 v2 <| m_bnd (fnX4_empty (lk v0 1)) fun _ => m_gi v0 7 fun x24 => m_ai (lk (lk v0 0) 0) x24 fun x27 => m_si (lk v0 1) 0 x27 <| m_gi v0 7 fun x43 => m_ai (lk (lk v0 0) 1) x43 fun x46 => m_si (lk v0 1) 1 x46 <| m_bnd (fnJ7_fill_53178 (lk (lk v0 1) 5) (0 : Int32)) fun _ => m_bnd (fnJ7_fill_53178 (lk (lk v0 1) 6) (0 : Int32)) fun _ => fnX2_lay_L75 4096 v0 v1 v3 (0 : Int32)
set_option maxHeartbeats 4000000 in
set_option maxRecDepth 100000 in
theorem slX2_lay {κ : sm_X} (C : sm_C κ RX2 cX2_lay 5 3) (v0 : Nat) (v1 : Nat) (v2 : Int32) (v3 : Int32) (hv0 : kd v0 = 2) (hv1 : kd v1 = 9) : sm_S κ (fun _ : Unit => .inr none) (.inl (0, [some (xad κ v0), some (xad κ v1), some (.int v2), some (.int v3), none], [])) (fnX2_lay v0 v1 v2 v3) := by
  unfold fnX2_lay
  refine sr_aload_n (i := 0) (q := 1) C (show decode cX2_lay 0 = .ok (.aload_n 0, 1) from by decide +kernel) rfl rfl rfl ?_
  refine sr_iload_n (i := 2) (q := 2) C (show decode cX2_lay 1 = .ok (.iload_n 2, 1) from by decide +kernel) rfl rfl rfl ?_
  refine sr_puti (q := 5) C fp_X2_35 hv0 (show decode cX2_lay 2 = .ok (.putfield 35, 3) from by decide +kernel) rfl ?_
  refine sr_aload_n (i := 0) (q := 6) C (show decode cX2_lay 5 = .ok (.aload_n 0, 1) from by decide +kernel) rfl rfl rfl ?_
  refine sr_getr (q := 9) C fl_X2_14 hv0 (show decode cX2_lay 6 = .ok (.getfield 14, 3) from by decide +kernel) rfl ?_
  refine sr_cVv (As := []) (st := []) (b := lk v0 1) (q := 12) C yvX4_empty ml_X2_39 (cnX4_empty (xo κ) (lk v0 1) (kt hv0 kp_2_1)) (kt hv0 kp_2_1) (by decide) rfl rfl rfl (by decide) (by decide) (Nat.le_of_ble_eq_true rfl) rfl (show decode cX2_lay 9 = .ok (.invokevirtual 39, 3) from by decide +kernel) rfl (fun _ => ?_)
  refine sr_aload_n (i := 0) (q := 13) C (show decode cX2_lay 12 = .ok (.aload_n 0, 1) from by decide +kernel) rfl rfl rfl ?_
  refine sr_getr (q := 16) C fl_X2_14 hv0 (show decode cX2_lay 13 = .ok (.getfield 14, 3) from by decide +kernel) rfl ?_
  refine sr_aload_n (i := 0) (q := 17) C (show decode cX2_lay 16 = .ok (.aload_n 0, 1) from by decide +kernel) rfl rfl rfl ?_
  refine sr_getr (q := 20) C fl_X2_31 hv0 (show decode cX2_lay 17 = .ok (.getfield 31, 3) from by decide +kernel) rfl ?_
  refine sr_getr (q := 23) C fl_X2_42 (kt hv0 kp_2_0) (show decode cX2_lay 20 = .ok (.getfield 42, 3) from by decide +kernel) rfl ?_
  refine sr_aload_n (i := 0) (q := 24) C (show decode cX2_lay 23 = .ok (.aload_n 0, 1) from by decide +kernel) rfl rfl rfl ?_
  refine sr_geti (q := 27) C fl_X2_35 (Or.inl rfl) hv0 (show decode cX2_lay 24 = .ok (.getfield 35, 3) from by decide +kernel) rfl (fun x24 => ?_)
  refine sr_iaload (q := 28) C (kt (kt hv0 kp_2_0) kp_3_0) (show decode cX2_lay 27 = .ok (.iaload, 1) from by decide +kernel) rfl (fun x27 => ?_)
  refine sr_puti (q := 31) C fp_X2_47 (kt hv0 kp_2_1) (show decode cX2_lay 28 = .ok (.putfield 47, 3) from by decide +kernel) rfl ?_
  refine sr_aload_n (i := 0) (q := 32) C (show decode cX2_lay 31 = .ok (.aload_n 0, 1) from by decide +kernel) rfl rfl rfl ?_
  refine sr_getr (q := 35) C fl_X2_14 hv0 (show decode cX2_lay 32 = .ok (.getfield 14, 3) from by decide +kernel) rfl ?_
  refine sr_aload_n (i := 0) (q := 36) C (show decode cX2_lay 35 = .ok (.aload_n 0, 1) from by decide +kernel) rfl rfl rfl ?_
  refine sr_getr (q := 39) C fl_X2_31 hv0 (show decode cX2_lay 36 = .ok (.getfield 31, 3) from by decide +kernel) rfl ?_
  refine sr_getr (q := 42) C fl_X2_49 (kt hv0 kp_2_0) (show decode cX2_lay 39 = .ok (.getfield 49, 3) from by decide +kernel) rfl ?_
  refine sr_aload_n (i := 0) (q := 43) C (show decode cX2_lay 42 = .ok (.aload_n 0, 1) from by decide +kernel) rfl rfl rfl ?_
  refine sr_geti (q := 46) C fl_X2_35 (Or.inl rfl) hv0 (show decode cX2_lay 43 = .ok (.getfield 35, 3) from by decide +kernel) rfl (fun x43 => ?_)
  refine sr_iaload (q := 47) C (kt (kt hv0 kp_2_0) kp_3_1) (show decode cX2_lay 46 = .ok (.iaload, 1) from by decide +kernel) rfl (fun x46 => ?_)
  refine sr_puti (q := 50) C fp_X2_52 (kt hv0 kp_2_1) (show decode cX2_lay 47 = .ok (.putfield 52, 3) from by decide +kernel) rfl ?_
  refine sr_aload_n (i := 0) (q := 51) C (show decode cX2_lay 50 = .ok (.aload_n 0, 1) from by decide +kernel) rfl rfl rfl ?_
  refine sr_getr (q := 54) C fl_X2_14 hv0 (show decode cX2_lay 51 = .ok (.getfield 14, 3) from by decide +kernel) rfl ?_
  refine sr_getr (q := 57) C fl_X2_54 (kt hv0 kp_2_1) (show decode cX2_lay 54 = .ok (.getfield 54, 3) from by decide +kernel) rfl ?_
  refine sr_iconst (v := (0 : Int32)) (q := 58) C (show decode cX2_lay 57 = .ok (.iconst 0, 1) from by decide +kernel) (by decide) rfl ?_
  refine sr_cSv (As := [xad κ (lk (lk v0 1) 5), .int (0 : Int32)]) (st := []) (q := 61) C ysJ7_fill_53178 ml_X2_57 (cnJ7_fill_53178 (xo κ) (lk (lk v0 1) 5) (0 : Int32) (kt (kt hv0 kp_2_1) kp_4_5)) rfl (by decide) (by decide) (Nat.le_of_ble_eq_true rfl) rfl (show decode cX2_lay 58 = .ok (.invokestatic 57, 3) from by decide +kernel) rfl (fun _ => ?_)
  refine sr_aload_n (i := 0) (q := 62) C (show decode cX2_lay 61 = .ok (.aload_n 0, 1) from by decide +kernel) rfl rfl rfl ?_
  refine sr_getr (q := 65) C fl_X2_14 hv0 (show decode cX2_lay 62 = .ok (.getfield 14, 3) from by decide +kernel) rfl ?_
  refine sr_getr (q := 68) C fl_X2_63 (kt hv0 kp_2_1) (show decode cX2_lay 65 = .ok (.getfield 63, 3) from by decide +kernel) rfl ?_
  refine sr_iconst (v := (0 : Int32)) (q := 69) C (show decode cX2_lay 68 = .ok (.iconst 0, 1) from by decide +kernel) (by decide) rfl ?_
  refine sr_cSv (As := [xad κ (lk (lk v0 1) 6), .int (0 : Int32)]) (st := []) (q := 72) C ysJ7_fill_53178 ml_X2_57 (cnJ7_fill_53178 (xo κ) (lk (lk v0 1) 6) (0 : Int32) (kt (kt hv0 kp_2_1) kp_4_6)) rfl (by decide) (by decide) (Nat.le_of_ble_eq_true rfl) rfl (show decode cX2_lay 69 = .ok (.invokestatic 57, 3) from by decide +kernel) rfl (fun _ => ?_)
  refine sr_iconst (v := (0 : Int32)) (q := 73) C (show decode cX2_lay 72 = .ok (.iconst 0, 1) from by decide +kernel) (by decide) rfl ?_
  refine sr_istore (i := 4) (L' := [some (xad κ v0), some (xad κ v1), some (.int v2), some (.int v3), some (.int (0 : Int32))]) (q := 75) C (show decode cX2_lay 73 = .ok (.istore 4, 2) from by decide +kernel) (by decide) rfl rfl ?_
  refine sr_weak (L' := [some (xad κ v0), some (xad κ v1), none, some (.int v3), some (.int (0 : Int32))]) ⟨rfl, rfl, rfl, rfl, trivial⟩ ?_
  exact slX2_lay_L75 C 4096 v0 v1 v3 (0 : Int32) hv0 hv1
theorem cnX2_lay (ω : sm_O) (v0 : Nat) (v1 : Nat) (v2 : Int32) (v3 : Int32) (hv0 : kd v0 = 2) (hv1 : kd v1 = 9) : sm_Mt 3 yX2_lay cX2_lay 5 none ω [.ref (ω.1 + v0), .ref (ω.1 + v1), .int v2, .int v3] (fun _ => none) (fnX2_lay v0 v1 v2 v3) := by
  refine sm_conV (by decide) (Nat.le_of_ble_eq_true rfl) ?_
  intro κ hκ C
  subst hκ
  exact slX2_lay C v0 v1 v2 v3 hv0 hv1
def fnX11_mostOf (v0 : Nat) (v1 : Nat) (v2 : Int32) (v3 : Int32) : sm_M Int32 := m_gi (lk v0 5) 1 fun x5 => m_br (v2 < x5)
    (m_bnd (fnX2_lay (lk v0 13) v1 v2 v3) fun _ => m_bnd (fnX2_fill (lk v0 13)) fun x29 => m_ret x29)
    (m_ret (999 : Int32))
set_option maxHeartbeats 4000000 in
set_option maxRecDepth 100000 in
theorem slX11_mostOf {κ : sm_X} (C : sm_C κ RX11 cX11_mostOf 4 5) (v0 : Nat) (v1 : Nat) (v2 : Int32) (v3 : Int32) (hv0 : kd v0 = 11) (hv1 : kd v1 = 9) : sm_S κ (fun r : Int32 => .inr (some (.int r))) (.inl (0, [some (xad κ v0), some (xad κ v1), some (.int v2), some (.int v3)], [])) (fnX11_mostOf v0 v1 v2 v3) := by
  unfold fnX11_mostOf
  refine sr_iload_n (i := 2) (q := 1) C (show decode cX11_mostOf 0 = .ok (.iload_n 2, 1) from by decide +kernel) rfl rfl rfl ?_
  refine sr_aload_n (i := 0) (q := 2) C (show decode cX11_mostOf 1 = .ok (.aload_n 0, 1) from by decide +kernel) rfl rfl rfl ?_
  refine sr_getr (q := 5) C fl_X11_27 hv0 (show decode cX11_mostOf 2 = .ok (.getfield 27, 3) from by decide +kernel) rfl ?_
  refine sr_geti (q := 8) C fl_X11_310 (Or.inl rfl) (kt hv0 kp_11_5) (show decode cX11_mostOf 5 = .ok (.getfield 310, 3) from by decide +kernel) rfl (fun x5 => ?_)
  refine sr_icmp_lt (q := 11) C 15 (show decode cX11_mostOf 8 = .ok (.if_icmp .lt 7, 3) from by decide +kernel) (by decide) rfl ?_ ?_
  · refine sr_aload_n (i := 0) (q := 16) C (show decode cX11_mostOf 15 = .ok (.aload_n 0, 1) from by decide +kernel) rfl rfl rfl ?_
    refine sr_getr (q := 19) C fl_X11_87 hv0 (show decode cX11_mostOf 16 = .ok (.getfield 87, 3) from by decide +kernel) rfl ?_
    refine sr_aload_n (i := 1) (q := 20) C (show decode cX11_mostOf 19 = .ok (.aload_n 1, 1) from by decide +kernel) rfl rfl rfl ?_
    refine sr_iload_n (i := 2) (q := 21) C (show decode cX11_mostOf 20 = .ok (.iload_n 2, 1) from by decide +kernel) rfl rfl rfl ?_
    refine sr_iload_n (i := 3) (q := 22) C (show decode cX11_mostOf 21 = .ok (.iload_n 3, 1) from by decide +kernel) rfl rfl rfl ?_
    refine sr_cVv (As := [xad κ v1, .int v2, .int v3]) (st := []) (b := lk v0 13) (q := 25) C yvX2_lay ml_X11_313 (cnX2_lay (xo κ) (lk v0 13) v1 v2 v3 (kt hv0 kp_11_13) hv1) (kt hv0 kp_11_13) (by decide) rfl rfl rfl (by decide) (by decide) (Nat.le_of_ble_eq_true rfl) rfl (show decode cX11_mostOf 22 = .ok (.invokevirtual 313, 3) from by decide +kernel) rfl (fun _ => ?_)
    refine sr_aload_n (i := 0) (q := 26) C (show decode cX11_mostOf 25 = .ok (.aload_n 0, 1) from by decide +kernel) rfl rfl rfl ?_
    refine sr_getr (q := 29) C fl_X11_87 hv0 (show decode cX11_mostOf 26 = .ok (.getfield 87, 3) from by decide +kernel) rfl ?_
    refine sr_cVi (As := []) (st := []) (b := lk v0 13) (q := 32) C yvX2_fill ml_X11_316 (cnX2_fill (xo κ) (lk v0 13) (kt hv0 kp_11_13)) (kt hv0 kp_11_13) (by decide) rfl rfl rfl (by decide) (by decide) (Nat.le_of_ble_eq_true rfl) rfl (show decode cX11_mostOf 29 = .ok (.invokevirtual 316, 3) from by decide +kernel) rfl (fun x29 => ?_)
    exact sr_ireturn C _ rfl (show decode cX11_mostOf 32 = .ok (.ireturn, 1) from by decide +kernel)
  · refine sr_sipush (v := (999 : Int32)) (q := 14) C (show decode cX11_mostOf 11 = .ok (.sipush 999, 3) from by decide +kernel) (by decide) rfl ?_
    exact sr_ireturn C _ rfl (show decode cX11_mostOf 14 = .ok (.ireturn, 1) from by decide +kernel)
theorem cnX11_mostOf (ω : sm_O) (v0 : Nat) (v1 : Nat) (v2 : Int32) (v3 : Int32) (hv0 : kd v0 = 11) (hv1 : kd v1 = 9) : sm_Mt 5 yX11_mostOf cX11_mostOf 4 (some .int) ω [.ref (ω.1 + v0), .ref (ω.1 + v1), .int v2, .int v3] (fun a => some (.int a)) (fnX11_mostOf v0 v1 v2 v3) := by
  refine sm_conI (r := fun a => a) (by decide) (fun _ => rfl) (Nat.le_of_ble_eq_true rfl) ?_
  intro κ hκ C
  subst hκ
  exact slX11_mostOf C v0 v1 v2 v3 hv0 hv1
def fnX2_lift_J59 (v0 : Nat) (v1 : Int32) : sm_M Unit := m_sai (lk (lk v0 1) 5) v1 (0 : Int32) <| m_sai (lk (lk v0 1) 6) v1 (0 : Int32) <| m_ret ()
set_option maxHeartbeats 4000000 in
set_option maxRecDepth 100000 in
theorem slX2_lift_J59 {κ : sm_X} (C : sm_C κ RX2 cX2_lift 4 1) (v0 : Nat) (v1 : Int32) (hv0 : kd v0 = 2) : sm_S κ (fun _ : Unit => .inr none) (.inl (59, [some (xad κ v0), some (.int v1), none, none], [])) (fnX2_lift_J59 v0 v1) := by
  unfold fnX2_lift_J59
  refine sr_aload_n (i := 0) (q := 60) C (show decode cX2_lift 59 = .ok (.aload_n 0, 1) from by decide +kernel) rfl rfl rfl ?_
  refine sr_getr (q := 63) C fl_X2_14 hv0 (show decode cX2_lift 60 = .ok (.getfield 14, 3) from by decide +kernel) rfl ?_
  refine sr_getr (q := 66) C fl_X2_54 (kt hv0 kp_2_1) (show decode cX2_lift 63 = .ok (.getfield 54, 3) from by decide +kernel) rfl ?_
  refine sr_iload_n (i := 1) (q := 67) C (show decode cX2_lift 66 = .ok (.iload_n 1, 1) from by decide +kernel) rfl rfl rfl ?_
  refine sr_iconst (v := (0 : Int32)) (q := 68) C (show decode cX2_lift 67 = .ok (.iconst 0, 1) from by decide +kernel) (by decide) rfl ?_
  refine sr_iastore (q := 69) C (kt (kt hv0 kp_2_1) kp_4_5) (show decode cX2_lift 68 = .ok (.iastore, 1) from by decide +kernel) rfl ?_
  refine sr_aload_n (i := 0) (q := 70) C (show decode cX2_lift 69 = .ok (.aload_n 0, 1) from by decide +kernel) rfl rfl rfl ?_
  refine sr_getr (q := 73) C fl_X2_14 hv0 (show decode cX2_lift 70 = .ok (.getfield 14, 3) from by decide +kernel) rfl ?_
  refine sr_getr (q := 76) C fl_X2_63 (kt hv0 kp_2_1) (show decode cX2_lift 73 = .ok (.getfield 63, 3) from by decide +kernel) rfl ?_
  refine sr_iload_n (i := 1) (q := 77) C (show decode cX2_lift 76 = .ok (.iload_n 1, 1) from by decide +kernel) rfl rfl rfl ?_
  refine sr_iconst (v := (0 : Int32)) (q := 78) C (show decode cX2_lift 77 = .ok (.iconst 0, 1) from by decide +kernel) (by decide) rfl ?_
  refine sr_iastore (q := 79) C (kt (kt hv0 kp_2_1) kp_4_6) (show decode cX2_lift 78 = .ok (.iastore, 1) from by decide +kernel) rfl ?_
  exact sr_vreturn C _ rfl (show decode cX2_lift 79 = .ok (.return_, 1) from by decide +kernel)
def fnX2_lift_L34 : Nat → Nat → Int32 → Int32 → Int32 → sm_M Unit
  | 0, _, _, _, _ => m_fail
  | n + 1, v0, v1, v2, v3 => m_br ((25 : Int32) ≤ v3)
    (fnX2_lift_J59 v0 v1)
    (m_ai (lk (lk v0 1) 5) v3 fun x49 => m_sai (lk (lk v0 1) 5) v3 (x49 &&& v2) <| (fnX2_lift_L34 n) v0 v1 v2 (v3 + (1 : Int32)))
set_option maxHeartbeats 4000000 in
set_option maxRecDepth 100000 in
theorem slX2_lift_L34 {κ : sm_X} (C : sm_C κ RX2 cX2_lift 4 1) : ∀ (n : Nat) (v0 : Nat) (v1 : Int32) (v2 : Int32) (v3 : Int32) (hv0 : kd v0 = 2), sm_S κ (fun _ : Unit => .inr none) (.inl (34, [some (xad κ v0), some (.int v1), some (.int v2), some (.int v3)], [])) (fnX2_lift_L34 n v0 v1 v2 v3) := by
  intro n
  induction n with
  | zero =>
    intros
    exact sr_fail
  | succ n K34 =>
    intro v0 v1 v2 v3 hv0
    unfold fnX2_lift_L34
    refine sr_iload_n (i := 3) (q := 35) C (show decode cX2_lift 34 = .ok (.iload_n 3, 1) from by decide +kernel) rfl rfl rfl ?_
    refine sr_bipush (v := (25 : Int32)) (q := 37) C (show decode cX2_lift 35 = .ok (.bipush 25, 2) from by decide +kernel) (by decide) rfl ?_
    refine sr_icmp_ge (q := 40) C 59 (show decode cX2_lift 37 = .ok (.if_icmp .ge 22, 3) from by decide +kernel) (by decide) rfl ?_ ?_
    · refine sr_weak (L' := [some (xad κ v0), some (.int v1), none, none]) ⟨rfl, rfl, trivial⟩ ?_
      exact slX2_lift_J59 C v0 v1 hv0
    · refine sr_aload_n (i := 0) (q := 41) C (show decode cX2_lift 40 = .ok (.aload_n 0, 1) from by decide +kernel) rfl rfl rfl ?_
      refine sr_getr (q := 44) C fl_X2_14 hv0 (show decode cX2_lift 41 = .ok (.getfield 14, 3) from by decide +kernel) rfl ?_
      refine sr_getr (q := 47) C fl_X2_54 (kt hv0 kp_2_1) (show decode cX2_lift 44 = .ok (.getfield 54, 3) from by decide +kernel) rfl ?_
      refine sr_iload_n (i := 3) (q := 48) C (show decode cX2_lift 47 = .ok (.iload_n 3, 1) from by decide +kernel) rfl rfl rfl ?_
      refine sr_dup2 (q := 49) C (show decode cX2_lift 48 = .ok (.dup2, 1) from by decide +kernel) rfl rfl rfl ?_
      refine sr_iaload (q := 50) C (kt (kt hv0 kp_2_1) kp_4_5) (show decode cX2_lift 49 = .ok (.iaload, 1) from by decide +kernel) rfl (fun x49 => ?_)
      refine sr_iload_n (i := 2) (q := 51) C (show decode cX2_lift 50 = .ok (.iload_n 2, 1) from by decide +kernel) rfl rfl rfl ?_
      refine sr_iand (q := 52) C (show decode cX2_lift 51 = .ok (.iand, 1) from by decide +kernel) rfl ?_
      refine sr_iastore (q := 53) C (kt (kt hv0 kp_2_1) kp_4_5) (show decode cX2_lift 52 = .ok (.iastore, 1) from by decide +kernel) rfl ?_
      refine sr_iinc (v := v3 + (1 : Int32)) (L' := [some (xad κ v0), some (.int v1), some (.int v2), some (.int (v3 + (1 : Int32)))]) (q := 56) C (show decode cX2_lift 53 = .ok (.iinc 3 1, 3) from by decide +kernel) rfl rfl (by decide) rfl rfl ?_
      refine sr_goto (q := 34) C (show decode cX2_lift 56 = .ok (.goto (-22), 3) from by decide +kernel) (by decide) ?_
      exact K34 v0 v1 v2 (v3 + (1 : Int32)) hv0
def fnX2_lift (v0 : Nat) (v1 : Int32) : sm_M Unit := m_nm (((1 : Int32) <<< (v1 &&& 31)) ^^^ (-1 : Int32)) fun y5 => m_gi (lk v0 1) 0 fun x11 => m_si (lk v0 1) 0 (x11 &&& y5) <| m_gi (lk v0 1) 1 fun x24 => m_si (lk v0 1) 1 (x24 &&& y5) <| fnX2_lift_L34 4096 v0 v1 y5 (0 : Int32)
set_option maxHeartbeats 4000000 in
set_option maxRecDepth 100000 in
theorem slX2_lift {κ : sm_X} (C : sm_C κ RX2 cX2_lift 4 1) (v0 : Nat) (v1 : Int32) (hv0 : kd v0 = 2) : sm_S κ (fun _ : Unit => .inr none) (.inl (0, [some (xad κ v0), some (.int v1), none, none], [])) (fnX2_lift v0 v1) := by
  unfold fnX2_lift
  refine sr_iconst (v := (1 : Int32)) (q := 1) C (show decode cX2_lift 0 = .ok (.iconst 1, 1) from by decide +kernel) (by decide) rfl ?_
  refine sr_iload_n (i := 1) (q := 2) C (show decode cX2_lift 1 = .ok (.iload_n 1, 1) from by decide +kernel) rfl rfl rfl ?_
  refine sr_ishl (q := 3) C (show decode cX2_lift 2 = .ok (.ishl, 1) from by decide +kernel) rfl ?_
  refine sr_iconst (v := (-1 : Int32)) (q := 4) C (show decode cX2_lift 3 = .ok (.iconst (-1), 1) from by decide +kernel) (by decide) rfl ?_
  refine sr_ixor (q := 5) C (show decode cX2_lift 4 = .ok (.ixor, 1) from by decide +kernel) rfl ?_
  refine sr_nmi (fun y5 => ?_)
  refine sr_istore_n (i := 2) (L' := [some (xad κ v0), some (.int v1), some (.int y5), none]) (q := 6) C (show decode cX2_lift 5 = .ok (.istore_n 2, 1) from by decide +kernel) rfl (by decide) rfl rfl ?_
  refine sr_aload_n (i := 0) (q := 7) C (show decode cX2_lift 6 = .ok (.aload_n 0, 1) from by decide +kernel) rfl rfl rfl ?_
  refine sr_getr (q := 10) C fl_X2_14 hv0 (show decode cX2_lift 7 = .ok (.getfield 14, 3) from by decide +kernel) rfl ?_
  refine sr_dup (q := 11) C (show decode cX2_lift 10 = .ok (.dup, 1) from by decide +kernel) rfl rfl ?_
  refine sr_geti (q := 14) C fl_X2_47 (Or.inl rfl) (kt hv0 kp_2_1) (show decode cX2_lift 11 = .ok (.getfield 47, 3) from by decide +kernel) rfl (fun x11 => ?_)
  refine sr_iload_n (i := 2) (q := 15) C (show decode cX2_lift 14 = .ok (.iload_n 2, 1) from by decide +kernel) rfl rfl rfl ?_
  refine sr_iand (q := 16) C (show decode cX2_lift 15 = .ok (.iand, 1) from by decide +kernel) rfl ?_
  refine sr_puti (q := 19) C fp_X2_47 (kt hv0 kp_2_1) (show decode cX2_lift 16 = .ok (.putfield 47, 3) from by decide +kernel) rfl ?_
  refine sr_aload_n (i := 0) (q := 20) C (show decode cX2_lift 19 = .ok (.aload_n 0, 1) from by decide +kernel) rfl rfl rfl ?_
  refine sr_getr (q := 23) C fl_X2_14 hv0 (show decode cX2_lift 20 = .ok (.getfield 14, 3) from by decide +kernel) rfl ?_
  refine sr_dup (q := 24) C (show decode cX2_lift 23 = .ok (.dup, 1) from by decide +kernel) rfl rfl ?_
  refine sr_geti (q := 27) C fl_X2_52 (Or.inl rfl) (kt hv0 kp_2_1) (show decode cX2_lift 24 = .ok (.getfield 52, 3) from by decide +kernel) rfl (fun x24 => ?_)
  refine sr_iload_n (i := 2) (q := 28) C (show decode cX2_lift 27 = .ok (.iload_n 2, 1) from by decide +kernel) rfl rfl rfl ?_
  refine sr_iand (q := 29) C (show decode cX2_lift 28 = .ok (.iand, 1) from by decide +kernel) rfl ?_
  refine sr_puti (q := 32) C fp_X2_52 (kt hv0 kp_2_1) (show decode cX2_lift 29 = .ok (.putfield 52, 3) from by decide +kernel) rfl ?_
  refine sr_iconst (v := (0 : Int32)) (q := 33) C (show decode cX2_lift 32 = .ok (.iconst 0, 1) from by decide +kernel) (by decide) rfl ?_
  refine sr_istore_n (i := 3) (L' := [some (xad κ v0), some (.int v1), some (.int y5), some (.int (0 : Int32))]) (q := 34) C (show decode cX2_lift 33 = .ok (.istore_n 3, 1) from by decide +kernel) rfl (by decide) rfl rfl ?_
  exact slX2_lift_L34 C 4096 v0 v1 y5 (0 : Int32) hv0
theorem cnX2_lift (ω : sm_O) (v0 : Nat) (v1 : Int32) (hv0 : kd v0 = 2) : sm_Mt 1 yX2_lift cX2_lift 4 none ω [.ref (ω.1 + v0), .int v1] (fun _ => none) (fnX2_lift v0 v1) := by
  refine sm_conV (by decide) (Nat.le_of_ble_eq_true rfl) ?_
  intro κ hκ C
  subst hκ
  exact slX2_lift C v0 v1 hv0
def fnX11_bars (v0 : Nat) (v1 : Int32) (v2 : Int32) (v3 : Int32) : sm_M Int32 := m_bnd (fnX11_isStone v0 v1) fun x2 => m_br ((bI x2) = 0)
    (m_ret (-2 : Int32))
    (m_bnd (fnX11_isStride v0 v2) fun x10 => m_br ((bI x10) = 0)
    (m_ret (-2 : Int32))
    (m_bnd (fnX11_isWeight v3) fun x17 => m_br ((bI x17) = 0)
    (m_ret (-2 : Int32))
    (m_gi (lk v0 5) 1 fun x31 => m_br (v2 < x31)
    (m_bnd (fnX11_mostOf v0 (lk v0 6) v2 v3) fun x46 => m_bnd (fnX2_lay (lk v0 13) (lk v0 6) v2 v3) fun _ => m_bnd (fnX2_lift (lk v0 13) v1) fun _ => m_bnd (fnX2_fill (lk v0 13)) fun x78 => m_ret (x46 - x78))
    (m_ret (0 : Int32)))))
set_option maxHeartbeats 4000000 in
set_option maxRecDepth 100000 in
theorem slX11_bars {κ : sm_X} (C : sm_C κ RX11 cX11_bars 5 6) (v0 : Nat) (v1 : Int32) (v2 : Int32) (v3 : Int32) (hv0 : kd v0 = 11) : sm_S κ (fun r : Int32 => .inr (some (.int r))) (.inl (0, [some (xad κ v0), some (.int v1), some (.int v2), some (.int v3), none], [])) (fnX11_bars v0 v1 v2 v3) := by
  unfold fnX11_bars
  refine sr_aload_n (i := 0) (q := 1) C (show decode cX11_bars 0 = .ok (.aload_n 0, 1) from by decide +kernel) rfl rfl rfl ?_
  refine sr_iload_n (i := 1) (q := 2) C (show decode cX11_bars 1 = .ok (.iload_n 1, 1) from by decide +kernel) rfl rfl rfl ?_
  refine sr_cVz (As := [.int v1]) (st := []) (b := v0) (q := 5) C yvX11_isStone ml_X11_146 (cnX11_isStone (xo κ) v0 v1 hv0) hv0 (by decide) rfl rfl rfl (by decide) (by decide) (Nat.le_of_ble_eq_true rfl) rfl (show decode cX11_bars 2 = .ok (.invokevirtual 146, 3) from by decide +kernel) rfl (fun x2 => ?_)
  refine sr_if_eq (q := 8) C 23 (show decode cX11_bars 5 = .ok (.ifCond .eq 18, 3) from by decide +kernel) (by decide) rfl ?_ ?_
  · refine sr_bipush (v := (-2 : Int32)) (q := 25) C (show decode cX11_bars 23 = .ok (.bipush (-2), 2) from by decide +kernel) (by decide) rfl ?_
    exact sr_ireturn C _ rfl (show decode cX11_bars 25 = .ok (.ireturn, 1) from by decide +kernel)
  · refine sr_aload_n (i := 0) (q := 9) C (show decode cX11_bars 8 = .ok (.aload_n 0, 1) from by decide +kernel) rfl rfl rfl ?_
    refine sr_iload_n (i := 2) (q := 10) C (show decode cX11_bars 9 = .ok (.iload_n 2, 1) from by decide +kernel) rfl rfl rfl ?_
    refine sr_cVz (As := [.int v2]) (st := []) (b := v0) (q := 13) C yvX11_isStride ml_X11_187 (cnX11_isStride (xo κ) v0 v2 hv0) hv0 (by decide) rfl rfl rfl (by decide) (by decide) (Nat.le_of_ble_eq_true rfl) rfl (show decode cX11_bars 10 = .ok (.invokevirtual 187, 3) from by decide +kernel) rfl (fun x10 => ?_)
    refine sr_if_eq (q := 16) C 23 (show decode cX11_bars 13 = .ok (.ifCond .eq 10, 3) from by decide +kernel) (by decide) rfl ?_ ?_
    · refine sr_bipush (v := (-2 : Int32)) (q := 25) C (show decode cX11_bars 23 = .ok (.bipush (-2), 2) from by decide +kernel) (by decide) rfl ?_
      exact sr_ireturn C _ rfl (show decode cX11_bars 25 = .ok (.ireturn, 1) from by decide +kernel)
    · refine sr_iload_n (i := 3) (q := 17) C (show decode cX11_bars 16 = .ok (.iload_n 3, 1) from by decide +kernel) rfl rfl rfl ?_
      refine sr_cSz (As := [.int v3]) (st := []) (q := 20) C ysX11_isWeight ml_X11_211 (cnX11_isWeight (xo κ) v3) rfl (by decide) (by decide) (Nat.le_of_ble_eq_true rfl) rfl (show decode cX11_bars 17 = .ok (.invokestatic 211, 3) from by decide +kernel) rfl (fun x17 => ?_)
      refine sr_if_ne (q := 23) C 26 (show decode cX11_bars 20 = .ok (.ifCond .ne 6, 3) from by decide +kernel) (by decide) rfl ?_ ?_
      · refine sr_iload_n (i := 2) (q := 27) C (show decode cX11_bars 26 = .ok (.iload_n 2, 1) from by decide +kernel) rfl rfl rfl ?_
        refine sr_aload_n (i := 0) (q := 28) C (show decode cX11_bars 27 = .ok (.aload_n 0, 1) from by decide +kernel) rfl rfl rfl ?_
        refine sr_getr (q := 31) C fl_X11_27 hv0 (show decode cX11_bars 28 = .ok (.getfield 27, 3) from by decide +kernel) rfl ?_
        refine sr_geti (q := 34) C fl_X11_310 (Or.inl rfl) (kt hv0 kp_11_5) (show decode cX11_bars 31 = .ok (.getfield 310, 3) from by decide +kernel) rfl (fun x31 => ?_)
        refine sr_icmp_lt (q := 37) C 39 (show decode cX11_bars 34 = .ok (.if_icmp .lt 5, 3) from by decide +kernel) (by decide) rfl ?_ ?_
        · refine sr_aload_n (i := 0) (q := 40) C (show decode cX11_bars 39 = .ok (.aload_n 0, 1) from by decide +kernel) rfl rfl rfl ?_
          refine sr_aload_n (i := 0) (q := 41) C (show decode cX11_bars 40 = .ok (.aload_n 0, 1) from by decide +kernel) rfl rfl rfl ?_
          refine sr_getr (q := 44) C fl_X11_36 hv0 (show decode cX11_bars 41 = .ok (.getfield 36, 3) from by decide +kernel) rfl ?_
          refine sr_iload_n (i := 2) (q := 45) C (show decode cX11_bars 44 = .ok (.iload_n 2, 1) from by decide +kernel) rfl rfl rfl ?_
          refine sr_iload_n (i := 3) (q := 46) C (show decode cX11_bars 45 = .ok (.iload_n 3, 1) from by decide +kernel) rfl rfl rfl ?_
          refine sr_cVi (As := [xad κ (lk v0 6), .int v2, .int v3]) (st := []) (b := v0) (q := 49) C yvX11_mostOf ml_X11_307 (cnX11_mostOf (xo κ) v0 (lk v0 6) v2 v3 hv0 (kt hv0 kp_11_6)) hv0 (by decide) rfl rfl rfl (by decide) (by decide) (Nat.le_of_ble_eq_true rfl) rfl (show decode cX11_bars 46 = .ok (.invokevirtual 307, 3) from by decide +kernel) rfl (fun x46 => ?_)
          refine sr_istore (i := 4) (L' := [some (xad κ v0), some (.int v1), some (.int v2), some (.int v3), some (.int x46)]) (q := 51) C (show decode cX11_bars 49 = .ok (.istore 4, 2) from by decide +kernel) (by decide) rfl rfl ?_
          refine sr_aload_n (i := 0) (q := 52) C (show decode cX11_bars 51 = .ok (.aload_n 0, 1) from by decide +kernel) rfl rfl rfl ?_
          refine sr_getr (q := 55) C fl_X11_87 hv0 (show decode cX11_bars 52 = .ok (.getfield 87, 3) from by decide +kernel) rfl ?_
          refine sr_aload_n (i := 0) (q := 56) C (show decode cX11_bars 55 = .ok (.aload_n 0, 1) from by decide +kernel) rfl rfl rfl ?_
          refine sr_getr (q := 59) C fl_X11_36 hv0 (show decode cX11_bars 56 = .ok (.getfield 36, 3) from by decide +kernel) rfl ?_
          refine sr_iload_n (i := 2) (q := 60) C (show decode cX11_bars 59 = .ok (.iload_n 2, 1) from by decide +kernel) rfl rfl rfl ?_
          refine sr_iload_n (i := 3) (q := 61) C (show decode cX11_bars 60 = .ok (.iload_n 3, 1) from by decide +kernel) rfl rfl rfl ?_
          refine sr_cVv (As := [xad κ (lk v0 6), .int v2, .int v3]) (st := []) (b := lk v0 13) (q := 64) C yvX2_lay ml_X11_313 (cnX2_lay (xo κ) (lk v0 13) (lk v0 6) v2 v3 (kt hv0 kp_11_13) (kt hv0 kp_11_6)) (kt hv0 kp_11_13) (by decide) rfl rfl rfl (by decide) (by decide) (Nat.le_of_ble_eq_true rfl) rfl (show decode cX11_bars 61 = .ok (.invokevirtual 313, 3) from by decide +kernel) rfl (fun _ => ?_)
          refine sr_aload_n (i := 0) (q := 65) C (show decode cX11_bars 64 = .ok (.aload_n 0, 1) from by decide +kernel) rfl rfl rfl ?_
          refine sr_getr (q := 68) C fl_X11_87 hv0 (show decode cX11_bars 65 = .ok (.getfield 87, 3) from by decide +kernel) rfl ?_
          refine sr_iload_n (i := 1) (q := 69) C (show decode cX11_bars 68 = .ok (.iload_n 1, 1) from by decide +kernel) rfl rfl rfl ?_
          refine sr_cVv (As := [.int v1]) (st := []) (b := lk v0 13) (q := 72) C yvX2_lift ml_X11_322 (cnX2_lift (xo κ) (lk v0 13) v1 (kt hv0 kp_11_13)) (kt hv0 kp_11_13) (by decide) rfl rfl rfl (by decide) (by decide) (Nat.le_of_ble_eq_true rfl) rfl (show decode cX11_bars 69 = .ok (.invokevirtual 322, 3) from by decide +kernel) rfl (fun _ => ?_)
          refine sr_iload (i := 4) (q := 74) C (show decode cX11_bars 72 = .ok (.iload 4, 2) from by decide +kernel) rfl rfl ?_
          refine sr_aload_n (i := 0) (q := 75) C (show decode cX11_bars 74 = .ok (.aload_n 0, 1) from by decide +kernel) rfl rfl rfl ?_
          refine sr_getr (q := 78) C fl_X11_87 hv0 (show decode cX11_bars 75 = .ok (.getfield 87, 3) from by decide +kernel) rfl ?_
          refine sr_cVi (As := []) (st := [.int x46]) (b := lk v0 13) (q := 81) C yvX2_fill ml_X11_316 (cnX2_fill (xo κ) (lk v0 13) (kt hv0 kp_11_13)) (kt hv0 kp_11_13) (by decide) rfl rfl rfl (by decide) (by decide) (Nat.le_of_ble_eq_true rfl) rfl (show decode cX11_bars 78 = .ok (.invokevirtual 316, 3) from by decide +kernel) rfl (fun x78 => ?_)
          refine sr_isub (q := 82) C (show decode cX11_bars 81 = .ok (.isub, 1) from by decide +kernel) rfl ?_
          exact sr_ireturn C _ rfl (show decode cX11_bars 82 = .ok (.ireturn, 1) from by decide +kernel)
        · refine sr_iconst (v := (0 : Int32)) (q := 38) C (show decode cX11_bars 37 = .ok (.iconst 0, 1) from by decide +kernel) (by decide) rfl ?_
          exact sr_ireturn C _ rfl (show decode cX11_bars 38 = .ok (.ireturn, 1) from by decide +kernel)
      · refine sr_bipush (v := (-2 : Int32)) (q := 25) C (show decode cX11_bars 23 = .ok (.bipush (-2), 2) from by decide +kernel) (by decide) rfl ?_
        exact sr_ireturn C _ rfl (show decode cX11_bars 25 = .ok (.ireturn, 1) from by decide +kernel)
theorem cnX11_bars (ω : sm_O) (v0 : Nat) (v1 : Int32) (v2 : Int32) (v3 : Int32) (hv0 : kd v0 = 11) : sm_Mt 6 yX11_bars cX11_bars 5 (some .int) ω [.ref (ω.1 + v0), .int v1, .int v2, .int v3] (fun a => some (.int a)) (fnX11_bars v0 v1 v2 v3) := by
  refine sm_conI (r := fun a => a) (by decide) (fun _ => rfl) (Nat.le_of_ble_eq_true rfl) ?_
  intro κ hκ C
  subst hκ
  exact slX11_bars C v0 v1 v2 v3 hv0
def fnX11_overInThought (v0 : Nat) (v1 : Int32) : sm_M Int32 := m_bnd (fnX9_takeFrom (lk v0 7) (lk v0 6)) fun _ => m_bnd (fnX0_sendOver (lk v0 10) (lk v0 7) v1) fun x20 => m_ret x20
set_option maxHeartbeats 4000000 in
set_option maxRecDepth 100000 in
theorem slX11_overInThought {κ : sm_X} (C : sm_C κ RX11 cX11_overInThought 2 7) (v0 : Nat) (v1 : Int32) (hv0 : kd v0 = 11) : sm_S κ (fun r : Int32 => .inr (some (.int r))) (.inl (0, [some (xad κ v0), some (.int v1)], [])) (fnX11_overInThought v0 v1) := by
  unfold fnX11_overInThought
  refine sr_aload_n (i := 0) (q := 1) C (show decode cX11_overInThought 0 = .ok (.aload_n 0, 1) from by decide +kernel) rfl rfl rfl ?_
  refine sr_getr (q := 4) C fl_X11_40 hv0 (show decode cX11_overInThought 1 = .ok (.getfield 40, 3) from by decide +kernel) rfl ?_
  refine sr_aload_n (i := 0) (q := 5) C (show decode cX11_overInThought 4 = .ok (.aload_n 0, 1) from by decide +kernel) rfl rfl rfl ?_
  refine sr_getr (q := 8) C fl_X11_36 hv0 (show decode cX11_overInThought 5 = .ok (.getfield 36, 3) from by decide +kernel) rfl ?_
  refine sr_cVv (As := [xad κ (lk v0 6)]) (st := []) (b := lk v0 7) (q := 11) C yvX9_takeFrom ml_X11_239 (cnX9_takeFrom (xo κ) (lk v0 7) (lk v0 6) (kt hv0 kp_11_7) (kt hv0 kp_11_6)) (kt hv0 kp_11_7) (by decide) rfl rfl rfl (by decide) (by decide) (Nat.le_of_ble_eq_true rfl) rfl (show decode cX11_overInThought 8 = .ok (.invokevirtual 239, 3) from by decide +kernel) rfl (fun _ => ?_)
  refine sr_aload_n (i := 0) (q := 12) C (show decode cX11_overInThought 11 = .ok (.aload_n 0, 1) from by decide +kernel) rfl rfl rfl ?_
  refine sr_getr (q := 15) C fl_X11_64 hv0 (show decode cX11_overInThought 12 = .ok (.getfield 64, 3) from by decide +kernel) rfl ?_
  refine sr_aload_n (i := 0) (q := 16) C (show decode cX11_overInThought 15 = .ok (.aload_n 0, 1) from by decide +kernel) rfl rfl rfl ?_
  refine sr_getr (q := 19) C fl_X11_40 hv0 (show decode cX11_overInThought 16 = .ok (.getfield 40, 3) from by decide +kernel) rfl ?_
  refine sr_iload_n (i := 1) (q := 20) C (show decode cX11_overInThought 19 = .ok (.iload_n 1, 1) from by decide +kernel) rfl rfl rfl ?_
  refine sr_cVi (As := [xad κ (lk v0 7), .int v1]) (st := []) (b := lk v0 10) (q := 23) C yvX0_sendOver ml_X11_279 (cnX0_sendOver (xo κ) (lk v0 10) (lk v0 7) v1 (kt hv0 kp_11_10) (kt hv0 kp_11_7)) (kt hv0 kp_11_10) (by decide) rfl rfl rfl (by decide) (by decide) (Nat.le_of_ble_eq_true rfl) rfl (show decode cX11_overInThought 20 = .ok (.invokevirtual 279, 3) from by decide +kernel) rfl (fun x20 => ?_)
  exact sr_ireturn C _ rfl (show decode cX11_overInThought 23 = .ok (.ireturn, 1) from by decide +kernel)
theorem cnX11_overInThought (ω : sm_O) (v0 : Nat) (v1 : Int32) (hv0 : kd v0 = 11) : sm_Mt 7 yX11_overInThought cX11_overInThought 2 (some .int) ω [.ref (ω.1 + v0), .int v1] (fun a => some (.int a)) (fnX11_overInThought v0 v1) := by
  refine sm_conI (r := fun a => a) (by decide) (fun _ => rfl) (Nat.le_of_ble_eq_true rfl) ?_
  intro κ hκ C
  subst hκ
  exact slX11_overInThought C v0 v1 hv0
def fnX7_worthOf_J29 (k4 : Nat → Int32 → Int32 → Int32 → sm_M Int32) (v0 : Nat) (v1 : Int32) (v2 : Int32) (v3 : Int32) : sm_M Int32 := k4 v0 v1 v2 (v3 + (1 : Int32))
set_option maxHeartbeats 4000000 in
set_option maxRecDepth 100000 in
theorem slX7_worthOf_J29 {κ : sm_X} (C : sm_C κ RX7 cX7_worthOf 4 1) {k4 : Nat → Int32 → Int32 → Int32 → sm_M Int32} (K4 : ∀ (v0 : Nat) (v1 : Int32) (v2 : Int32) (v3 : Int32) (hv0 : kd v0 = 7), sm_S κ (fun r : Int32 => .inr (some (.int r))) (.inl (4, [some (xad κ v0), some (.int v1), some (.int v2), some (.int v3)], [])) (k4 v0 v1 v2 v3)) (v0 : Nat) (v1 : Int32) (v2 : Int32) (v3 : Int32) (hv0 : kd v0 = 7) : sm_S κ (fun r : Int32 => .inr (some (.int r))) (.inl (29, [some (xad κ v0), some (.int v1), some (.int v2), some (.int v3)], [])) (fnX7_worthOf_J29 k4 v0 v1 v2 v3) := by
  unfold fnX7_worthOf_J29
  refine sr_iinc (v := v3 + (1 : Int32)) (L' := [some (xad κ v0), some (.int v1), some (.int v2), some (.int (v3 + (1 : Int32)))]) (q := 32) C (show decode cX7_worthOf 29 = .ok (.iinc 3 1, 3) from by decide +kernel) rfl rfl (by decide) rfl rfl ?_
  refine sr_goto (q := 4) C (show decode cX7_worthOf 32 = .ok (.goto (-28), 3) from by decide +kernel) (by decide) ?_
  exact K4 v0 v1 v2 (v3 + (1 : Int32)) hv0
def fnX7_worthOf_L4 : Nat → Nat → Int32 → Int32 → Int32 → sm_M Int32
  | 0, _, _, _, _ => m_fail
  | n + 1, v0, v1, v2, v3 => m_gi v0 5 fun x6 => m_br (x6 ≤ v3)
    (m_ret v2)
    (m_br (((v1 >>> (v3 &&& 31)) &&& (1 : Int32)) = 0)
    (fnX7_worthOf_J29 (fnX7_worthOf_L4 n) v0 v1 v2 v3)
    (m_ai (lk v0 15) v3 fun x26 => m_nm (v2 + x26) fun y28 => fnX7_worthOf_J29 (fnX7_worthOf_L4 n) v0 v1 y28 v3))
set_option maxHeartbeats 4000000 in
set_option maxRecDepth 100000 in
theorem slX7_worthOf_L4 {κ : sm_X} (C : sm_C κ RX7 cX7_worthOf 4 1) : ∀ (n : Nat) (v0 : Nat) (v1 : Int32) (v2 : Int32) (v3 : Int32) (hv0 : kd v0 = 7), sm_S κ (fun r : Int32 => .inr (some (.int r))) (.inl (4, [some (xad κ v0), some (.int v1), some (.int v2), some (.int v3)], [])) (fnX7_worthOf_L4 n v0 v1 v2 v3) := by
  intro n
  induction n with
  | zero =>
    intros
    exact sr_fail
  | succ n K4 =>
    intro v0 v1 v2 v3 hv0
    unfold fnX7_worthOf_L4
    refine sr_iload_n (i := 3) (q := 5) C (show decode cX7_worthOf 4 = .ok (.iload_n 3, 1) from by decide +kernel) rfl rfl rfl ?_
    refine sr_aload_n (i := 0) (q := 6) C (show decode cX7_worthOf 5 = .ok (.aload_n 0, 1) from by decide +kernel) rfl rfl rfl ?_
    refine sr_geti (q := 9) C fl_X7_55 (Or.inl rfl) hv0 (show decode cX7_worthOf 6 = .ok (.getfield 55, 3) from by decide +kernel) rfl (fun x6 => ?_)
    refine sr_icmp_ge (q := 12) C 35 (show decode cX7_worthOf 9 = .ok (.if_icmp .ge 26, 3) from by decide +kernel) (by decide) rfl ?_ ?_
    · refine sr_iload_n (i := 2) (q := 36) C (show decode cX7_worthOf 35 = .ok (.iload_n 2, 1) from by decide +kernel) rfl rfl rfl ?_
      exact sr_ireturn C _ rfl (show decode cX7_worthOf 36 = .ok (.ireturn, 1) from by decide +kernel)
    · refine sr_iload_n (i := 1) (q := 13) C (show decode cX7_worthOf 12 = .ok (.iload_n 1, 1) from by decide +kernel) rfl rfl rfl ?_
      refine sr_iload_n (i := 3) (q := 14) C (show decode cX7_worthOf 13 = .ok (.iload_n 3, 1) from by decide +kernel) rfl rfl rfl ?_
      refine sr_ishr (q := 15) C (show decode cX7_worthOf 14 = .ok (.ishr, 1) from by decide +kernel) rfl ?_
      refine sr_iconst (v := (1 : Int32)) (q := 16) C (show decode cX7_worthOf 15 = .ok (.iconst 1, 1) from by decide +kernel) (by decide) rfl ?_
      refine sr_iand (q := 17) C (show decode cX7_worthOf 16 = .ok (.iand, 1) from by decide +kernel) rfl ?_
      refine sr_if_eq (q := 20) C 29 (show decode cX7_worthOf 17 = .ok (.ifCond .eq 12, 3) from by decide +kernel) (by decide) rfl ?_ ?_
      · exact slX7_worthOf_J29 C K4 v0 v1 v2 v3 hv0
      · refine sr_iload_n (i := 2) (q := 21) C (show decode cX7_worthOf 20 = .ok (.iload_n 2, 1) from by decide +kernel) rfl rfl rfl ?_
        refine sr_aload_n (i := 0) (q := 22) C (show decode cX7_worthOf 21 = .ok (.aload_n 0, 1) from by decide +kernel) rfl rfl rfl ?_
        refine sr_getr (q := 25) C fl_X7_33 hv0 (show decode cX7_worthOf 22 = .ok (.getfield 33, 3) from by decide +kernel) rfl ?_
        refine sr_iload_n (i := 3) (q := 26) C (show decode cX7_worthOf 25 = .ok (.iload_n 3, 1) from by decide +kernel) rfl rfl rfl ?_
        refine sr_iaload (q := 27) C (kt hv0 kp_7_15) (show decode cX7_worthOf 26 = .ok (.iaload, 1) from by decide +kernel) rfl (fun x26 => ?_)
        refine sr_iadd (q := 28) C (show decode cX7_worthOf 27 = .ok (.iadd, 1) from by decide +kernel) rfl ?_
        refine sr_nmi (fun y28 => ?_)
        refine sr_istore_n (i := 2) (L' := [some (xad κ v0), some (.int v1), some (.int y28), some (.int v3)]) (q := 29) C (show decode cX7_worthOf 28 = .ok (.istore_n 2, 1) from by decide +kernel) rfl (by decide) rfl rfl ?_
        exact slX7_worthOf_J29 C K4 v0 v1 y28 v3 hv0
def fnX7_worthOf (v0 : Nat) (v1 : Int32) : sm_M Int32 := fnX7_worthOf_L4 4096 v0 v1 (0 : Int32) (0 : Int32)
set_option maxHeartbeats 4000000 in
set_option maxRecDepth 100000 in
theorem slX7_worthOf {κ : sm_X} (C : sm_C κ RX7 cX7_worthOf 4 1) (v0 : Nat) (v1 : Int32) (hv0 : kd v0 = 7) : sm_S κ (fun r : Int32 => .inr (some (.int r))) (.inl (0, [some (xad κ v0), some (.int v1), none, none], [])) (fnX7_worthOf v0 v1) := by
  unfold fnX7_worthOf
  refine sr_iconst (v := (0 : Int32)) (q := 1) C (show decode cX7_worthOf 0 = .ok (.iconst 0, 1) from by decide +kernel) (by decide) rfl ?_
  refine sr_istore_n (i := 2) (L' := [some (xad κ v0), some (.int v1), some (.int (0 : Int32)), none]) (q := 2) C (show decode cX7_worthOf 1 = .ok (.istore_n 2, 1) from by decide +kernel) rfl (by decide) rfl rfl ?_
  refine sr_iconst (v := (0 : Int32)) (q := 3) C (show decode cX7_worthOf 2 = .ok (.iconst 0, 1) from by decide +kernel) (by decide) rfl ?_
  refine sr_istore_n (i := 3) (L' := [some (xad κ v0), some (.int v1), some (.int (0 : Int32)), some (.int (0 : Int32))]) (q := 4) C (show decode cX7_worthOf 3 = .ok (.istore_n 3, 1) from by decide +kernel) rfl (by decide) rfl rfl ?_
  exact slX7_worthOf_L4 C 4096 v0 v1 (0 : Int32) (0 : Int32) hv0
theorem cnX7_worthOf (ω : sm_O) (v0 : Nat) (v1 : Int32) (hv0 : kd v0 = 7) : sm_Mt 1 yX7_worthOf cX7_worthOf 4 (some .int) ω [.ref (ω.1 + v0), .int v1] (fun a => some (.int a)) (fnX7_worthOf v0 v1) := by
  refine sm_conI (r := fun a => a) (by decide) (fun _ => rfl) (Nat.le_of_ble_eq_true rfl) ?_
  intro κ hκ C
  subst hκ
  exact slX7_worthOf C v0 v1 hv0
def fnX11_best_J46 (k16 : Nat → Int32 → Int32 → Int32 → sm_M Int32) (v0 : Nat) (v1 : Int32) (v2 : Int32) (v3 : Int32) : sm_M Int32 := k16 v0 v1 v2 (v3 + (1 : Int32))
set_option maxHeartbeats 4000000 in
set_option maxRecDepth 100000 in
theorem slX11_best_J46 {κ : sm_X} (C : sm_C κ RX11 cX11_best 5 8) {k16 : Nat → Int32 → Int32 → Int32 → sm_M Int32} (K16 : ∀ (v0 : Nat) (v1 : Int32) (v2 : Int32) (v3 : Int32) (hv0 : kd v0 = 11), sm_S κ (fun r : Int32 => .inr (some (.int r))) (.inl (16, [some (xad κ v0), some (.int v1), some (.int v2), some (.int v3), none], [])) (k16 v0 v1 v2 v3)) (v0 : Nat) (v1 : Int32) (v2 : Int32) (v3 : Int32) (hv0 : kd v0 = 11) : sm_S κ (fun r : Int32 => .inr (some (.int r))) (.inl (46, [some (xad κ v0), some (.int v1), some (.int v2), some (.int v3), none], [])) (fnX11_best_J46 k16 v0 v1 v2 v3) := by
  unfold fnX11_best_J46
  refine sr_iinc (v := v3 + (1 : Int32)) (L' := [some (xad κ v0), some (.int v1), some (.int v2), some (.int (v3 + (1 : Int32))), none]) (q := 49) C (show decode cX11_best 46 = .ok (.iinc 3 1, 3) from by decide +kernel) rfl rfl (by decide) rfl rfl ?_
  refine sr_goto (q := 16) C (show decode cX11_best 49 = .ok (.goto (-33), 3) from by decide +kernel) (by decide) ?_
  exact K16 v0 v1 v2 (v3 + (1 : Int32)) hv0
def fnX11_best_L16 : Nat → Nat → Int32 → Int32 → Int32 → sm_M Int32
  | 0, _, _, _, _ => m_fail
  | n + 1, v0, v1, v2, v3 => m_br ((4 : Int32) ≤ v3)
    (m_ret v1)
    (m_bnd (fnX11_overInThought v0 v3) fun x27 => m_bnd (fnX7_worthOf (lk v0 5) x27) fun x30 => m_br (x30 ≤ v2)
    (fnX11_best_J46 (fnX11_best_L16 n) v0 v1 v2 v3)
    (fnX11_best_J46 (fnX11_best_L16 n) v0 v3 x30 v3))
set_option maxHeartbeats 4000000 in
set_option maxRecDepth 100000 in
theorem slX11_best_L16 {κ : sm_X} (C : sm_C κ RX11 cX11_best 5 8) : ∀ (n : Nat) (v0 : Nat) (v1 : Int32) (v2 : Int32) (v3 : Int32) (hv0 : kd v0 = 11), sm_S κ (fun r : Int32 => .inr (some (.int r))) (.inl (16, [some (xad κ v0), some (.int v1), some (.int v2), some (.int v3), none], [])) (fnX11_best_L16 n v0 v1 v2 v3) := by
  intro n
  induction n with
  | zero =>
    intros
    exact sr_fail
  | succ n K16 =>
    intro v0 v1 v2 v3 hv0
    unfold fnX11_best_L16
    refine sr_iload_n (i := 3) (q := 17) C (show decode cX11_best 16 = .ok (.iload_n 3, 1) from by decide +kernel) rfl rfl rfl ?_
    refine sr_iconst (v := (4 : Int32)) (q := 18) C (show decode cX11_best 17 = .ok (.iconst 4, 1) from by decide +kernel) (by decide) rfl ?_
    refine sr_icmp_ge (q := 21) C 52 (show decode cX11_best 18 = .ok (.if_icmp .ge 34, 3) from by decide +kernel) (by decide) rfl ?_ ?_
    · refine sr_iload_n (i := 1) (q := 53) C (show decode cX11_best 52 = .ok (.iload_n 1, 1) from by decide +kernel) rfl rfl rfl ?_
      exact sr_ireturn C _ rfl (show decode cX11_best 53 = .ok (.ireturn, 1) from by decide +kernel)
    · refine sr_aload_n (i := 0) (q := 22) C (show decode cX11_best 21 = .ok (.aload_n 0, 1) from by decide +kernel) rfl rfl rfl ?_
      refine sr_getr (q := 25) C fl_X11_27 hv0 (show decode cX11_best 22 = .ok (.getfield 27, 3) from by decide +kernel) rfl ?_
      refine sr_aload_n (i := 0) (q := 26) C (show decode cX11_best 25 = .ok (.aload_n 0, 1) from by decide +kernel) rfl rfl rfl ?_
      refine sr_iload_n (i := 3) (q := 27) C (show decode cX11_best 26 = .ok (.iload_n 3, 1) from by decide +kernel) rfl rfl rfl ?_
      refine sr_cVi (As := [.int v3]) (st := [xad κ (lk v0 5)]) (b := v0) (q := 30) C yvX11_overInThought ml_X11_265 (cnX11_overInThought (xo κ) v0 v3 hv0) hv0 (by decide) rfl rfl rfl (by decide) (by decide) (Nat.le_of_ble_eq_true rfl) rfl (show decode cX11_best 27 = .ok (.invokevirtual 265, 3) from by decide +kernel) rfl (fun x27 => ?_)
      refine sr_cVi (As := [.int x27]) (st := []) (b := lk v0 5) (q := 33) C yvX7_worthOf ml_X11_273 (cnX7_worthOf (xo κ) (lk v0 5) x27 (kt hv0 kp_11_5)) (kt hv0 kp_11_5) (by decide) rfl rfl rfl (by decide) (by decide) (Nat.le_of_ble_eq_true rfl) rfl (show decode cX11_best 30 = .ok (.invokevirtual 273, 3) from by decide +kernel) rfl (fun x30 => ?_)
      refine sr_istore (i := 4) (L' := [some (xad κ v0), some (.int v1), some (.int v2), some (.int v3), some (.int x30)]) (q := 35) C (show decode cX11_best 33 = .ok (.istore 4, 2) from by decide +kernel) (by decide) rfl rfl ?_
      refine sr_iload (i := 4) (q := 37) C (show decode cX11_best 35 = .ok (.iload 4, 2) from by decide +kernel) rfl rfl ?_
      refine sr_iload_n (i := 2) (q := 38) C (show decode cX11_best 37 = .ok (.iload_n 2, 1) from by decide +kernel) rfl rfl rfl ?_
      refine sr_icmp_le (q := 41) C 46 (show decode cX11_best 38 = .ok (.if_icmp .le 8, 3) from by decide +kernel) (by decide) rfl ?_ ?_
      · refine sr_weak (L' := [some (xad κ v0), some (.int v1), some (.int v2), some (.int v3), none]) ⟨rfl, rfl, rfl, rfl, trivial⟩ ?_
        exact slX11_best_J46 C K16 v0 v1 v2 v3 hv0
      · refine sr_iload (i := 4) (q := 43) C (show decode cX11_best 41 = .ok (.iload 4, 2) from by decide +kernel) rfl rfl ?_
        refine sr_istore_n (i := 2) (L' := [some (xad κ v0), some (.int v1), some (.int x30), some (.int v3), some (.int x30)]) (q := 44) C (show decode cX11_best 43 = .ok (.istore_n 2, 1) from by decide +kernel) rfl (by decide) rfl rfl ?_
        refine sr_iload_n (i := 3) (q := 45) C (show decode cX11_best 44 = .ok (.iload_n 3, 1) from by decide +kernel) rfl rfl rfl ?_
        refine sr_istore_n (i := 1) (L' := [some (xad κ v0), some (.int v3), some (.int x30), some (.int v3), some (.int x30)]) (q := 46) C (show decode cX11_best 45 = .ok (.istore_n 1, 1) from by decide +kernel) rfl (by decide) rfl rfl ?_
        refine sr_weak (L' := [some (xad κ v0), some (.int v3), some (.int x30), some (.int v3), none]) ⟨rfl, rfl, rfl, rfl, trivial⟩ ?_
        exact slX11_best_J46 C K16 v0 v3 x30 v3 hv0
def fnX11_best (v0 : Nat) : sm_M Int32 := m_bnd (fnX11_isTold v0) fun x1 => m_br ((bI x1) = 0)
    (m_ret (-2 : Int32))
    (fnX11_best_L16 4096 v0 (0 : Int32) (-1 : Int32) (0 : Int32))
set_option maxHeartbeats 4000000 in
set_option maxRecDepth 100000 in
theorem slX11_best {κ : sm_X} (C : sm_C κ RX11 cX11_best 5 8) (v0 : Nat) (hv0 : kd v0 = 11) : sm_S κ (fun r : Int32 => .inr (some (.int r))) (.inl (0, [some (xad κ v0), none, none, none, none], [])) (fnX11_best v0) := by
  unfold fnX11_best
  refine sr_aload_n (i := 0) (q := 1) C (show decode cX11_best 0 = .ok (.aload_n 0, 1) from by decide +kernel) rfl rfl rfl ?_
  refine sr_cVz (As := []) (st := []) (b := v0) (q := 4) C yvX11_isTold ml_X11_303 (cnX11_isTold (xo κ) v0 hv0) hv0 (by decide) rfl rfl rfl (by decide) (by decide) (Nat.le_of_ble_eq_true rfl) rfl (show decode cX11_best 1 = .ok (.invokevirtual 303, 3) from by decide +kernel) rfl (fun x1 => ?_)
  refine sr_if_ne (q := 7) C 10 (show decode cX11_best 4 = .ok (.ifCond .ne 6, 3) from by decide +kernel) (by decide) rfl ?_ ?_
  · refine sr_iconst (v := (0 : Int32)) (q := 11) C (show decode cX11_best 10 = .ok (.iconst 0, 1) from by decide +kernel) (by decide) rfl ?_
    refine sr_istore_n (i := 1) (L' := [some (xad κ v0), some (.int (0 : Int32)), none, none, none]) (q := 12) C (show decode cX11_best 11 = .ok (.istore_n 1, 1) from by decide +kernel) rfl (by decide) rfl rfl ?_
    refine sr_iconst (v := (-1 : Int32)) (q := 13) C (show decode cX11_best 12 = .ok (.iconst (-1), 1) from by decide +kernel) (by decide) rfl ?_
    refine sr_istore_n (i := 2) (L' := [some (xad κ v0), some (.int (0 : Int32)), some (.int (-1 : Int32)), none, none]) (q := 14) C (show decode cX11_best 13 = .ok (.istore_n 2, 1) from by decide +kernel) rfl (by decide) rfl rfl ?_
    refine sr_iconst (v := (0 : Int32)) (q := 15) C (show decode cX11_best 14 = .ok (.iconst 0, 1) from by decide +kernel) (by decide) rfl ?_
    refine sr_istore_n (i := 3) (L' := [some (xad κ v0), some (.int (0 : Int32)), some (.int (-1 : Int32)), some (.int (0 : Int32)), none]) (q := 16) C (show decode cX11_best 15 = .ok (.istore_n 3, 1) from by decide +kernel) rfl (by decide) rfl rfl ?_
    exact slX11_best_L16 C 4096 v0 (0 : Int32) (-1 : Int32) (0 : Int32) hv0
  · refine sr_bipush (v := (-2 : Int32)) (q := 9) C (show decode cX11_best 7 = .ok (.bipush (-2), 2) from by decide +kernel) (by decide) rfl ?_
    exact sr_ireturn C _ rfl (show decode cX11_best 9 = .ok (.ireturn, 1) from by decide +kernel)
theorem cnX11_best (ω : sm_O) (v0 : Nat) (hv0 : kd v0 = 11) : sm_Mt 8 yX11_best cX11_best 5 (some .int) ω [.ref (ω.1 + v0)] (fun a => some (.int a)) (fnX11_best v0) := by
  refine sm_conI (r := fun a => a) (by decide) (fun _ => rfl) (Nat.le_of_ble_eq_true rfl) ?_
  intro κ hκ C
  subst hκ
  exact slX11_best C v0 hv0
def fnX11_rowsThere_J27 (k4 : Nat → Int32 → Int32 → sm_M Int32) (v0 : Nat) (v2 : Int32) (s0 : Int32) (s1 : Int32) : sm_M Int32 := m_nm (s1 + s0) fun y28 => k4 v0 y28 (v2 + (1 : Int32))
set_option maxHeartbeats 4000000 in
set_option maxRecDepth 100000 in
theorem slX11_rowsThere_J27 {κ : sm_X} (C : sm_C κ RX11 cX11_rowsThere 3 1) {k4 : Nat → Int32 → Int32 → sm_M Int32} (K4 : ∀ (v0 : Nat) (v1 : Int32) (v2 : Int32) (hv0 : kd v0 = 11), sm_S κ (fun r : Int32 => .inr (some (.int r))) (.inl (4, [some (xad κ v0), some (.int v1), some (.int v2)], [])) (k4 v0 v1 v2)) (v0 : Nat) (v2 : Int32) (s0 : Int32) (s1 : Int32) (hv0 : kd v0 = 11) : sm_S κ (fun r : Int32 => .inr (some (.int r))) (.inl (27, [some (xad κ v0), none, some (.int v2)], [.int s0, .int s1])) (fnX11_rowsThere_J27 k4 v0 v2 s0 s1) := by
  unfold fnX11_rowsThere_J27
  refine sr_iadd (q := 28) C (show decode cX11_rowsThere 27 = .ok (.iadd, 1) from by decide +kernel) rfl ?_
  refine sr_nmi (fun y28 => ?_)
  refine sr_istore_n (i := 1) (L' := [some (xad κ v0), some (.int y28), some (.int v2)]) (q := 29) C (show decode cX11_rowsThere 28 = .ok (.istore_n 1, 1) from by decide +kernel) rfl (by decide) rfl rfl ?_
  refine sr_iinc (v := v2 + (1 : Int32)) (L' := [some (xad κ v0), some (.int y28), some (.int (v2 + (1 : Int32)))]) (q := 32) C (show decode cX11_rowsThere 29 = .ok (.iinc 2 1, 3) from by decide +kernel) rfl rfl (by decide) rfl rfl ?_
  refine sr_goto (q := 4) C (show decode cX11_rowsThere 32 = .ok (.goto (-28), 3) from by decide +kernel) (by decide) ?_
  exact K4 v0 y28 (v2 + (1 : Int32)) hv0
def fnX11_rowsThere_L4 : Nat → Nat → Int32 → Int32 → sm_M Int32
  | 0, _, _, _ => m_fail
  | n + 1, v0, v1, v2 => m_br ((4 : Int32) ≤ v2)
    (m_ret v1)
    (m_ap (lk v0 14) v2 fun x15 => m_gi x15 0 fun x16 => m_br (x16 = 0)
    (fnX11_rowsThere_J27 (fnX11_rowsThere_L4 n) v0 v2 (0 : Int32) v1)
    (fnX11_rowsThere_J27 (fnX11_rowsThere_L4 n) v0 v2 (1 : Int32) v1))
set_option maxHeartbeats 4000000 in
set_option maxRecDepth 100000 in
theorem slX11_rowsThere_L4 {κ : sm_X} (C : sm_C κ RX11 cX11_rowsThere 3 1) : ∀ (n : Nat) (v0 : Nat) (v1 : Int32) (v2 : Int32) (hv0 : kd v0 = 11), sm_S κ (fun r : Int32 => .inr (some (.int r))) (.inl (4, [some (xad κ v0), some (.int v1), some (.int v2)], [])) (fnX11_rowsThere_L4 n v0 v1 v2) := by
  intro n
  induction n with
  | zero =>
    intros
    exact sr_fail
  | succ n K4 =>
    intro v0 v1 v2 hv0
    unfold fnX11_rowsThere_L4
    refine sr_iload_n (i := 2) (q := 5) C (show decode cX11_rowsThere 4 = .ok (.iload_n 2, 1) from by decide +kernel) rfl rfl rfl ?_
    refine sr_iconst (v := (4 : Int32)) (q := 6) C (show decode cX11_rowsThere 5 = .ok (.iconst 4, 1) from by decide +kernel) (by decide) rfl ?_
    refine sr_icmp_ge (q := 9) C 35 (show decode cX11_rowsThere 6 = .ok (.if_icmp .ge 29, 3) from by decide +kernel) (by decide) rfl ?_ ?_
    · refine sr_iload_n (i := 1) (q := 36) C (show decode cX11_rowsThere 35 = .ok (.iload_n 1, 1) from by decide +kernel) rfl rfl rfl ?_
      exact sr_ireturn C _ rfl (show decode cX11_rowsThere 36 = .ok (.ireturn, 1) from by decide +kernel)
    · refine sr_iload_n (i := 1) (q := 10) C (show decode cX11_rowsThere 9 = .ok (.iload_n 1, 1) from by decide +kernel) rfl rfl rfl ?_
      refine sr_aload_n (i := 0) (q := 11) C (show decode cX11_rowsThere 10 = .ok (.aload_n 0, 1) from by decide +kernel) rfl rfl rfl ?_
      refine sr_getr (q := 14) C fl_X11_93 hv0 (show decode cX11_rowsThere 11 = .ok (.getfield 93, 3) from by decide +kernel) rfl ?_
      refine sr_iload_n (i := 2) (q := 15) C (show decode cX11_rowsThere 14 = .ok (.iload_n 2, 1) from by decide +kernel) rfl rfl rfl ?_
      refine sr_aaload (t0 := 5) (q := 16) C (kt hv0 kp_11_14) (Or.inr (Or.inl rfl)) rfl (show decode cX11_rowsThere 15 = .ok (.aaload, 1) from by decide +kernel) rfl (fun x15 hx15 => ?_)
      refine sr_geti (q := 19) C fl_X11_231 (Or.inr rfl) hx15 (show decode cX11_rowsThere 16 = .ok (.getfield 231, 3) from by decide +kernel) rfl (fun x16 => ?_)
      refine sr_if_eq (q := 22) C 26 (show decode cX11_rowsThere 19 = .ok (.ifCond .eq 7, 3) from by decide +kernel) (by decide) rfl ?_ ?_
      · refine sr_iconst (v := (0 : Int32)) (q := 27) C (show decode cX11_rowsThere 26 = .ok (.iconst 0, 1) from by decide +kernel) (by decide) rfl ?_
        refine sr_weak (L' := [some (xad κ v0), none, some (.int v2)]) ⟨rfl, rfl, trivial⟩ ?_
        exact slX11_rowsThere_J27 C K4 v0 v2 (0 : Int32) v1 hv0
      · refine sr_iconst (v := (1 : Int32)) (q := 23) C (show decode cX11_rowsThere 22 = .ok (.iconst 1, 1) from by decide +kernel) (by decide) rfl ?_
        refine sr_goto (q := 27) C (show decode cX11_rowsThere 23 = .ok (.goto 4, 3) from by decide +kernel) (by decide) ?_
        refine sr_weak (L' := [some (xad κ v0), none, some (.int v2)]) ⟨rfl, rfl, trivial⟩ ?_
        exact slX11_rowsThere_J27 C K4 v0 v2 (1 : Int32) v1 hv0
def fnX11_rowsThere (v0 : Nat) : sm_M Int32 := fnX11_rowsThere_L4 4096 v0 (0 : Int32) (0 : Int32)
set_option maxHeartbeats 4000000 in
set_option maxRecDepth 100000 in
theorem slX11_rowsThere {κ : sm_X} (C : sm_C κ RX11 cX11_rowsThere 3 1) (v0 : Nat) (hv0 : kd v0 = 11) : sm_S κ (fun r : Int32 => .inr (some (.int r))) (.inl (0, [some (xad κ v0), none, none], [])) (fnX11_rowsThere v0) := by
  unfold fnX11_rowsThere
  refine sr_iconst (v := (0 : Int32)) (q := 1) C (show decode cX11_rowsThere 0 = .ok (.iconst 0, 1) from by decide +kernel) (by decide) rfl ?_
  refine sr_istore_n (i := 1) (L' := [some (xad κ v0), some (.int (0 : Int32)), none]) (q := 2) C (show decode cX11_rowsThere 1 = .ok (.istore_n 1, 1) from by decide +kernel) rfl (by decide) rfl rfl ?_
  refine sr_iconst (v := (0 : Int32)) (q := 3) C (show decode cX11_rowsThere 2 = .ok (.iconst 0, 1) from by decide +kernel) (by decide) rfl ?_
  refine sr_istore_n (i := 2) (L' := [some (xad κ v0), some (.int (0 : Int32)), some (.int (0 : Int32))]) (q := 4) C (show decode cX11_rowsThere 3 = .ok (.istore_n 2, 1) from by decide +kernel) rfl (by decide) rfl rfl ?_
  exact slX11_rowsThere_L4 C 4096 v0 (0 : Int32) (0 : Int32) hv0
theorem cnX11_rowsThere (ω : sm_O) (v0 : Nat) (hv0 : kd v0 = 11) : sm_Mt 1 yX11_rowsThere cX11_rowsThere 3 (some .int) ω [.ref (ω.1 + v0)] (fun a => some (.int a)) (fnX11_rowsThere v0) := by
  refine sm_conI (r := fun a => a) (by decide) (fun _ => rfl) (Nat.le_of_ble_eq_true rfl) ?_
  intro κ hκ C
  subst hκ
  exact slX11_rowsThere C v0 hv0
def fnX9_peopleAt_J31 (k4 : Nat → Int32 → Int32 → Int32 → sm_M Int32) (v0 : Nat) (v1 : Int32) (v2 : Int32) (v3 : Int32) : sm_M Int32 := k4 v0 v1 v2 (v3 + (1 : Int32))
set_option maxHeartbeats 4000000 in
set_option maxRecDepth 100000 in
theorem slX9_peopleAt_J31 {κ : sm_X} (C : sm_C κ RX9 cX9_peopleAt 4 1) {k4 : Nat → Int32 → Int32 → Int32 → sm_M Int32} (K4 : ∀ (v0 : Nat) (v1 : Int32) (v2 : Int32) (v3 : Int32) (hv0 : kd v0 = 9), sm_S κ (fun r : Int32 => .inr (some (.int r))) (.inl (4, [some (xad κ v0), some (.int v1), some (.int v2), some (.int v3)], [])) (k4 v0 v1 v2 v3)) (v0 : Nat) (v1 : Int32) (v2 : Int32) (v3 : Int32) (hv0 : kd v0 = 9) : sm_S κ (fun r : Int32 => .inr (some (.int r))) (.inl (31, [some (xad κ v0), some (.int v1), some (.int v2), some (.int v3)], [])) (fnX9_peopleAt_J31 k4 v0 v1 v2 v3) := by
  unfold fnX9_peopleAt_J31
  refine sr_iinc (v := v3 + (1 : Int32)) (L' := [some (xad κ v0), some (.int v1), some (.int v2), some (.int (v3 + (1 : Int32)))]) (q := 34) C (show decode cX9_peopleAt 31 = .ok (.iinc 3 1, 3) from by decide +kernel) rfl rfl (by decide) rfl rfl ?_
  refine sr_goto (q := 4) C (show decode cX9_peopleAt 34 = .ok (.goto (-30), 3) from by decide +kernel) (by decide) ?_
  exact K4 v0 v1 v2 (v3 + (1 : Int32)) hv0
def fnX9_peopleAt_L4 : Nat → Nat → Int32 → Int32 → Int32 → sm_M Int32
  | 0, _, _, _, _ => m_fail
  | n + 1, v0, v1, v2, v3 => m_gi (lk v0 0) 5 fun x9 => m_br (x9 ≤ v3)
    (m_ret v2)
    (m_ai (lk v0 4) v3 fun x20 => m_br (x20 = v1)
    (m_nm (v2 ||| ((1 : Int32) <<< (v3 &&& 31))) fun y30 => fnX9_peopleAt_J31 (fnX9_peopleAt_L4 n) v0 v1 y30 v3)
    (fnX9_peopleAt_J31 (fnX9_peopleAt_L4 n) v0 v1 v2 v3))
set_option maxHeartbeats 4000000 in
set_option maxRecDepth 100000 in
theorem slX9_peopleAt_L4 {κ : sm_X} (C : sm_C κ RX9 cX9_peopleAt 4 1) : ∀ (n : Nat) (v0 : Nat) (v1 : Int32) (v2 : Int32) (v3 : Int32) (hv0 : kd v0 = 9), sm_S κ (fun r : Int32 => .inr (some (.int r))) (.inl (4, [some (xad κ v0), some (.int v1), some (.int v2), some (.int v3)], [])) (fnX9_peopleAt_L4 n v0 v1 v2 v3) := by
  intro n
  induction n with
  | zero =>
    intros
    exact sr_fail
  | succ n K4 =>
    intro v0 v1 v2 v3 hv0
    unfold fnX9_peopleAt_L4
    refine sr_iload_n (i := 3) (q := 5) C (show decode cX9_peopleAt 4 = .ok (.iload_n 3, 1) from by decide +kernel) rfl rfl rfl ?_
    refine sr_aload_n (i := 0) (q := 6) C (show decode cX9_peopleAt 5 = .ok (.aload_n 0, 1) from by decide +kernel) rfl rfl rfl ?_
    refine sr_getr (q := 9) C fl_X9_21 hv0 (show decode cX9_peopleAt 6 = .ok (.getfield 21, 3) from by decide +kernel) rfl ?_
    refine sr_geti (q := 12) C fl_X9_73 (Or.inl rfl) (kt hv0 kp_9_0) (show decode cX9_peopleAt 9 = .ok (.getfield 73, 3) from by decide +kernel) rfl (fun x9 => ?_)
    refine sr_icmp_ge (q := 15) C 37 (show decode cX9_peopleAt 12 = .ok (.if_icmp .ge 25, 3) from by decide +kernel) (by decide) rfl ?_ ?_
    · refine sr_iload_n (i := 2) (q := 38) C (show decode cX9_peopleAt 37 = .ok (.iload_n 2, 1) from by decide +kernel) rfl rfl rfl ?_
      exact sr_ireturn C _ rfl (show decode cX9_peopleAt 38 = .ok (.ireturn, 1) from by decide +kernel)
    · refine sr_aload_n (i := 0) (q := 16) C (show decode cX9_peopleAt 15 = .ok (.aload_n 0, 1) from by decide +kernel) rfl rfl rfl ?_
      refine sr_getr (q := 19) C fl_X9_18 hv0 (show decode cX9_peopleAt 16 = .ok (.getfield 18, 3) from by decide +kernel) rfl ?_
      refine sr_iload_n (i := 3) (q := 20) C (show decode cX9_peopleAt 19 = .ok (.iload_n 3, 1) from by decide +kernel) rfl rfl rfl ?_
      refine sr_iaload (q := 21) C (kt hv0 kp_9_4) (show decode cX9_peopleAt 20 = .ok (.iaload, 1) from by decide +kernel) rfl (fun x20 => ?_)
      refine sr_iload_n (i := 1) (q := 22) C (show decode cX9_peopleAt 21 = .ok (.iload_n 1, 1) from by decide +kernel) rfl rfl rfl ?_
      refine sr_icmp_ne (q := 25) C 31 (show decode cX9_peopleAt 22 = .ok (.if_icmp .ne 9, 3) from by decide +kernel) (by decide) rfl ?_ ?_
      · exact slX9_peopleAt_J31 C K4 v0 v1 v2 v3 hv0
      · refine sr_iload_n (i := 2) (q := 26) C (show decode cX9_peopleAt 25 = .ok (.iload_n 2, 1) from by decide +kernel) rfl rfl rfl ?_
        refine sr_iconst (v := (1 : Int32)) (q := 27) C (show decode cX9_peopleAt 26 = .ok (.iconst 1, 1) from by decide +kernel) (by decide) rfl ?_
        refine sr_iload_n (i := 3) (q := 28) C (show decode cX9_peopleAt 27 = .ok (.iload_n 3, 1) from by decide +kernel) rfl rfl rfl ?_
        refine sr_ishl (q := 29) C (show decode cX9_peopleAt 28 = .ok (.ishl, 1) from by decide +kernel) rfl ?_
        refine sr_ior (q := 30) C (show decode cX9_peopleAt 29 = .ok (.ior, 1) from by decide +kernel) rfl ?_
        refine sr_nmi (fun y30 => ?_)
        refine sr_istore_n (i := 2) (L' := [some (xad κ v0), some (.int v1), some (.int y30), some (.int v3)]) (q := 31) C (show decode cX9_peopleAt 30 = .ok (.istore_n 2, 1) from by decide +kernel) rfl (by decide) rfl rfl ?_
        exact slX9_peopleAt_J31 C K4 v0 v1 y30 v3 hv0
def fnX9_peopleAt (v0 : Nat) (v1 : Int32) : sm_M Int32 := fnX9_peopleAt_L4 4096 v0 v1 (0 : Int32) (0 : Int32)
set_option maxHeartbeats 4000000 in
set_option maxRecDepth 100000 in
theorem slX9_peopleAt {κ : sm_X} (C : sm_C κ RX9 cX9_peopleAt 4 1) (v0 : Nat) (v1 : Int32) (hv0 : kd v0 = 9) : sm_S κ (fun r : Int32 => .inr (some (.int r))) (.inl (0, [some (xad κ v0), some (.int v1), none, none], [])) (fnX9_peopleAt v0 v1) := by
  unfold fnX9_peopleAt
  refine sr_iconst (v := (0 : Int32)) (q := 1) C (show decode cX9_peopleAt 0 = .ok (.iconst 0, 1) from by decide +kernel) (by decide) rfl ?_
  refine sr_istore_n (i := 2) (L' := [some (xad κ v0), some (.int v1), some (.int (0 : Int32)), none]) (q := 2) C (show decode cX9_peopleAt 1 = .ok (.istore_n 2, 1) from by decide +kernel) rfl (by decide) rfl rfl ?_
  refine sr_iconst (v := (0 : Int32)) (q := 3) C (show decode cX9_peopleAt 2 = .ok (.iconst 0, 1) from by decide +kernel) (by decide) rfl ?_
  refine sr_istore_n (i := 3) (L' := [some (xad κ v0), some (.int v1), some (.int (0 : Int32)), some (.int (0 : Int32))]) (q := 4) C (show decode cX9_peopleAt 3 = .ok (.istore_n 3, 1) from by decide +kernel) rfl (by decide) rfl rfl ?_
  exact slX9_peopleAt_L4 C 4096 v0 v1 (0 : Int32) (0 : Int32) hv0
theorem cnX9_peopleAt (ω : sm_O) (v0 : Nat) (v1 : Int32) (hv0 : kd v0 = 9) : sm_Mt 1 yX9_peopleAt cX9_peopleAt 4 (some .int) ω [.ref (ω.1 + v0), .int v1] (fun a => some (.int a)) (fnX9_peopleAt v0 v1) := by
  refine sm_conI (r := fun a => a) (by decide) (fun _ => rfl) (Nat.le_of_ble_eq_true rfl) ?_
  intro κ hκ C
  subst hκ
  exact slX9_peopleAt C v0 v1 hv0
def fnX9_inDoubt (v0 : Nat) (v1 : Int32) : sm_M Bool := m_ai (lk (lk v0 0) 12) v1 fun x8 => m_br (x8 ≤ 0)
    (m_ret false)
    (m_ai (lk v0 3) v1 fun x17 => m_br (x17 = 0)
    (m_ret true)
    (m_ret false))
set_option maxHeartbeats 4000000 in
set_option maxRecDepth 100000 in
theorem slX9_inDoubt {κ : sm_X} (C : sm_C κ RX9 cX9_inDoubt 2 1) (v0 : Nat) (v1 : Int32) (hv0 : kd v0 = 9) : sm_S κ (fun r : Bool => .inr (some (.int (bI r)))) (.inl (0, [some (xad κ v0), some (.int v1)], [])) (fnX9_inDoubt v0 v1) := by
  unfold fnX9_inDoubt
  refine sr_aload_n (i := 0) (q := 1) C (show decode cX9_inDoubt 0 = .ok (.aload_n 0, 1) from by decide +kernel) rfl rfl rfl ?_
  refine sr_getr (q := 4) C fl_X9_21 hv0 (show decode cX9_inDoubt 1 = .ok (.getfield 21, 3) from by decide +kernel) rfl ?_
  refine sr_getr (q := 7) C fl_X9_56 (kt hv0 kp_9_0) (show decode cX9_inDoubt 4 = .ok (.getfield 56, 3) from by decide +kernel) rfl ?_
  refine sr_iload_n (i := 1) (q := 8) C (show decode cX9_inDoubt 7 = .ok (.iload_n 1, 1) from by decide +kernel) rfl rfl rfl ?_
  refine sr_iaload (q := 9) C (kt (kt hv0 kp_9_0) kp_7_12) (show decode cX9_inDoubt 8 = .ok (.iaload, 1) from by decide +kernel) rfl (fun x8 => ?_)
  refine sr_if_le (q := 12) C 25 (show decode cX9_inDoubt 9 = .ok (.ifCond .le 16, 3) from by decide +kernel) (by decide) rfl ?_ ?_
  · refine sr_iconst (v := (0 : Int32)) (q := 26) C (show decode cX9_inDoubt 25 = .ok (.iconst 0, 1) from by decide +kernel) (by decide) rfl ?_
    exact sr_ireturn C false rfl (show decode cX9_inDoubt 26 = .ok (.ireturn, 1) from by decide +kernel)
  · refine sr_aload_n (i := 0) (q := 13) C (show decode cX9_inDoubt 12 = .ok (.aload_n 0, 1) from by decide +kernel) rfl rfl rfl ?_
    refine sr_getr (q := 16) C fl_X9_15 hv0 (show decode cX9_inDoubt 13 = .ok (.getfield 15, 3) from by decide +kernel) rfl ?_
    refine sr_iload_n (i := 1) (q := 17) C (show decode cX9_inDoubt 16 = .ok (.iload_n 1, 1) from by decide +kernel) rfl rfl rfl ?_
    refine sr_iaload (q := 18) C (kt hv0 kp_9_3) (show decode cX9_inDoubt 17 = .ok (.iaload, 1) from by decide +kernel) rfl (fun x17 => ?_)
    refine sr_if_ne (q := 21) C 25 (show decode cX9_inDoubt 18 = .ok (.ifCond .ne 7, 3) from by decide +kernel) (by decide) rfl ?_ ?_
    · refine sr_iconst (v := (0 : Int32)) (q := 26) C (show decode cX9_inDoubt 25 = .ok (.iconst 0, 1) from by decide +kernel) (by decide) rfl ?_
      exact sr_ireturn C false rfl (show decode cX9_inDoubt 26 = .ok (.ireturn, 1) from by decide +kernel)
    · refine sr_iconst (v := (1 : Int32)) (q := 22) C (show decode cX9_inDoubt 21 = .ok (.iconst 1, 1) from by decide +kernel) (by decide) rfl ?_
      refine sr_goto (q := 26) C (show decode cX9_inDoubt 22 = .ok (.goto 4, 3) from by decide +kernel) (by decide) ?_
      exact sr_ireturn C true rfl (show decode cX9_inDoubt 26 = .ok (.ireturn, 1) from by decide +kernel)
theorem cnX9_inDoubt (ω : sm_O) (v0 : Nat) (v1 : Int32) (hv0 : kd v0 = 9) : sm_Mt 1 yX9_inDoubt cX9_inDoubt 2 (some .boolean) ω [.ref (ω.1 + v0), .int v1] (fun a => some (.int (bI a))) (fnX9_inDoubt v0 v1) := by
  refine sm_conI (r := bI) (by decide) bI_nar (Nat.le_of_ble_eq_true rfl) ?_
  intro κ hκ C
  subst hκ
  exact slX9_inDoubt C v0 v1 hv0
def fnX9_stonesInDoubt_J29 (k4 : Nat → Int32 → Int32 → sm_M Int32) (v0 : Nat) (v1 : Int32) (v2 : Int32) : sm_M Int32 := k4 v0 v1 (v2 + (1 : Int32))
set_option maxHeartbeats 4000000 in
set_option maxRecDepth 100000 in
theorem slX9_stonesInDoubt_J29 {κ : sm_X} (C : sm_C κ RX9 cX9_stonesInDoubt 3 2) {k4 : Nat → Int32 → Int32 → sm_M Int32} (K4 : ∀ (v0 : Nat) (v1 : Int32) (v2 : Int32) (hv0 : kd v0 = 9), sm_S κ (fun r : Int32 => .inr (some (.int r))) (.inl (4, [some (xad κ v0), some (.int v1), some (.int v2)], [])) (k4 v0 v1 v2)) (v0 : Nat) (v1 : Int32) (v2 : Int32) (hv0 : kd v0 = 9) : sm_S κ (fun r : Int32 => .inr (some (.int r))) (.inl (29, [some (xad κ v0), some (.int v1), some (.int v2)], [])) (fnX9_stonesInDoubt_J29 k4 v0 v1 v2) := by
  unfold fnX9_stonesInDoubt_J29
  refine sr_iinc (v := v2 + (1 : Int32)) (L' := [some (xad κ v0), some (.int v1), some (.int (v2 + (1 : Int32)))]) (q := 32) C (show decode cX9_stonesInDoubt 29 = .ok (.iinc 2 1, 3) from by decide +kernel) rfl rfl (by decide) rfl rfl ?_
  refine sr_goto (q := 4) C (show decode cX9_stonesInDoubt 32 = .ok (.goto (-28), 3) from by decide +kernel) (by decide) ?_
  exact K4 v0 v1 (v2 + (1 : Int32)) hv0
def fnX9_stonesInDoubt_L4 : Nat → Nat → Int32 → Int32 → sm_M Int32
  | 0, _, _, _ => m_fail
  | n + 1, v0, v1, v2 => m_gi (lk v0 0) 4 fun x9 => m_br (x9 ≤ v2)
    (m_ret v1)
    (m_bnd (fnX9_inDoubt v0 v2) fun x17 => m_br ((bI x17) = 0)
    (fnX9_stonesInDoubt_J29 (fnX9_stonesInDoubt_L4 n) v0 v1 v2)
    (m_nm (v1 ||| ((1 : Int32) <<< (v2 &&& 31))) fun y28 => fnX9_stonesInDoubt_J29 (fnX9_stonesInDoubt_L4 n) v0 y28 v2))
set_option maxHeartbeats 4000000 in
set_option maxRecDepth 100000 in
theorem slX9_stonesInDoubt_L4 {κ : sm_X} (C : sm_C κ RX9 cX9_stonesInDoubt 3 2) : ∀ (n : Nat) (v0 : Nat) (v1 : Int32) (v2 : Int32) (hv0 : kd v0 = 9), sm_S κ (fun r : Int32 => .inr (some (.int r))) (.inl (4, [some (xad κ v0), some (.int v1), some (.int v2)], [])) (fnX9_stonesInDoubt_L4 n v0 v1 v2) := by
  intro n
  induction n with
  | zero =>
    intros
    exact sr_fail
  | succ n K4 =>
    intro v0 v1 v2 hv0
    unfold fnX9_stonesInDoubt_L4
    refine sr_iload_n (i := 2) (q := 5) C (show decode cX9_stonesInDoubt 4 = .ok (.iload_n 2, 1) from by decide +kernel) rfl rfl rfl ?_
    refine sr_aload_n (i := 0) (q := 6) C (show decode cX9_stonesInDoubt 5 = .ok (.aload_n 0, 1) from by decide +kernel) rfl rfl rfl ?_
    refine sr_getr (q := 9) C fl_X9_21 hv0 (show decode cX9_stonesInDoubt 6 = .ok (.getfield 21, 3) from by decide +kernel) rfl ?_
    refine sr_geti (q := 12) C fl_X9_49 (Or.inl rfl) (kt hv0 kp_9_0) (show decode cX9_stonesInDoubt 9 = .ok (.getfield 49, 3) from by decide +kernel) rfl (fun x9 => ?_)
    refine sr_icmp_ge (q := 15) C 35 (show decode cX9_stonesInDoubt 12 = .ok (.if_icmp .ge 23, 3) from by decide +kernel) (by decide) rfl ?_ ?_
    · refine sr_iload_n (i := 1) (q := 36) C (show decode cX9_stonesInDoubt 35 = .ok (.iload_n 1, 1) from by decide +kernel) rfl rfl rfl ?_
      exact sr_ireturn C _ rfl (show decode cX9_stonesInDoubt 36 = .ok (.ireturn, 1) from by decide +kernel)
    · refine sr_aload_n (i := 0) (q := 16) C (show decode cX9_stonesInDoubt 15 = .ok (.aload_n 0, 1) from by decide +kernel) rfl rfl rfl ?_
      refine sr_iload_n (i := 2) (q := 17) C (show decode cX9_stonesInDoubt 16 = .ok (.iload_n 2, 1) from by decide +kernel) rfl rfl rfl ?_
      refine sr_cVz (As := [.int v2]) (st := []) (b := v0) (q := 20) C yvX9_inDoubt ml_X9_59 (cnX9_inDoubt (xo κ) v0 v2 hv0) hv0 (by decide) rfl rfl rfl (by decide) (by decide) (Nat.le_of_ble_eq_true rfl) rfl (show decode cX9_stonesInDoubt 17 = .ok (.invokevirtual 59, 3) from by decide +kernel) rfl (fun x17 => ?_)
      refine sr_if_eq (q := 23) C 29 (show decode cX9_stonesInDoubt 20 = .ok (.ifCond .eq 9, 3) from by decide +kernel) (by decide) rfl ?_ ?_
      · exact slX9_stonesInDoubt_J29 C K4 v0 v1 v2 hv0
      · refine sr_iload_n (i := 1) (q := 24) C (show decode cX9_stonesInDoubt 23 = .ok (.iload_n 1, 1) from by decide +kernel) rfl rfl rfl ?_
        refine sr_iconst (v := (1 : Int32)) (q := 25) C (show decode cX9_stonesInDoubt 24 = .ok (.iconst 1, 1) from by decide +kernel) (by decide) rfl ?_
        refine sr_iload_n (i := 2) (q := 26) C (show decode cX9_stonesInDoubt 25 = .ok (.iload_n 2, 1) from by decide +kernel) rfl rfl rfl ?_
        refine sr_ishl (q := 27) C (show decode cX9_stonesInDoubt 26 = .ok (.ishl, 1) from by decide +kernel) rfl ?_
        refine sr_ior (q := 28) C (show decode cX9_stonesInDoubt 27 = .ok (.ior, 1) from by decide +kernel) rfl ?_
        refine sr_nmi (fun y28 => ?_)
        refine sr_istore_n (i := 1) (L' := [some (xad κ v0), some (.int y28), some (.int v2)]) (q := 29) C (show decode cX9_stonesInDoubt 28 = .ok (.istore_n 1, 1) from by decide +kernel) rfl (by decide) rfl rfl ?_
        exact slX9_stonesInDoubt_J29 C K4 v0 y28 v2 hv0
def fnX9_stonesInDoubt (v0 : Nat) : sm_M Int32 := fnX9_stonesInDoubt_L4 4096 v0 (0 : Int32) (0 : Int32)
set_option maxHeartbeats 4000000 in
set_option maxRecDepth 100000 in
theorem slX9_stonesInDoubt {κ : sm_X} (C : sm_C κ RX9 cX9_stonesInDoubt 3 2) (v0 : Nat) (hv0 : kd v0 = 9) : sm_S κ (fun r : Int32 => .inr (some (.int r))) (.inl (0, [some (xad κ v0), none, none], [])) (fnX9_stonesInDoubt v0) := by
  unfold fnX9_stonesInDoubt
  refine sr_iconst (v := (0 : Int32)) (q := 1) C (show decode cX9_stonesInDoubt 0 = .ok (.iconst 0, 1) from by decide +kernel) (by decide) rfl ?_
  refine sr_istore_n (i := 1) (L' := [some (xad κ v0), some (.int (0 : Int32)), none]) (q := 2) C (show decode cX9_stonesInDoubt 1 = .ok (.istore_n 1, 1) from by decide +kernel) rfl (by decide) rfl rfl ?_
  refine sr_iconst (v := (0 : Int32)) (q := 3) C (show decode cX9_stonesInDoubt 2 = .ok (.iconst 0, 1) from by decide +kernel) (by decide) rfl ?_
  refine sr_istore_n (i := 2) (L' := [some (xad κ v0), some (.int (0 : Int32)), some (.int (0 : Int32))]) (q := 4) C (show decode cX9_stonesInDoubt 3 = .ok (.istore_n 2, 1) from by decide +kernel) rfl (by decide) rfl rfl ?_
  exact slX9_stonesInDoubt_L4 C 4096 v0 (0 : Int32) (0 : Int32) hv0
theorem cnX9_stonesInDoubt (ω : sm_O) (v0 : Nat) (hv0 : kd v0 = 9) : sm_Mt 2 yX9_stonesInDoubt cX9_stonesInDoubt 3 (some .int) ω [.ref (ω.1 + v0)] (fun a => some (.int a)) (fnX9_stonesInDoubt v0) := by
  refine sm_conI (r := fun a => a) (by decide) (fun _ => rfl) (Nat.le_of_ble_eq_true rfl) ?_
  intro κ hκ C
  subst hκ
  exact slX9_stonesInDoubt C v0 hv0
def fnX11_count (v0 : Nat) (v1 : Int32) : sm_M Int32 := m_br (v1 = (0 : Int32))
    (m_gi (lk v0 5) 1 fun x68 => m_ret x68)
    (m_br (v1 = (1 : Int32))
    (m_gi (lk v0 5) 2 fun x76 => m_ret x76)
    (m_br (v1 = (2 : Int32))
    (m_gi (lk v0 5) 4 fun x84 => m_ret x84)
    (m_br (v1 = (3 : Int32))
    (m_gi (lk v0 5) 5 fun x92 => m_ret x92)
    (m_br (v1 = (4 : Int32))
    (m_gi (lk v0 6) 1 fun x100 => m_ret x100)
    (m_br (v1 = (5 : Int32))
    (m_gi (lk v0 5) 0 fun x108 => m_ret x108)
    (m_br (v1 = (6 : Int32))
    (m_gi v0 1 fun x113 => m_ret x113)
    (m_br (v1 = (7 : Int32))
    (m_bnd (fnX9_peopleAt (lk v0 6) (98 : Int32)) fun x123 => m_bnd (fnJ6_bitCount_0f7a4 x123) fun x126 => m_ret x126)
    (m_br (v1 = (8 : Int32))
    (m_bnd (fnX9_peopleAt (lk v0 6) (99 : Int32)) fun x136 => m_bnd (fnJ6_bitCount_0f7a4 x136) fun x139 => m_ret x139)
    (m_br (v1 = (9 : Int32))
    (m_bnd (fnX9_stonesInDoubt (lk v0 6)) fun x147 => m_ret x147)
    (m_br (v1 = (10 : Int32))
    (m_gi (lk v0 5) 3 fun x155 => m_ret x155)
    (m_br (v1 = (11 : Int32))
    (m_bnd (fnX11_rowsThere v0) fun x160 => m_ret x160)
    (m_ret (-1 : Int32)))))))))))))
set_option maxHeartbeats 4000000 in
set_option maxRecDepth 100000 in
theorem slX11_count {κ : sm_X} (C : sm_C κ RX11 cX11_count 2 3) (v0 : Nat) (v1 : Int32) (hv0 : kd v0 = 11) : sm_S κ (fun r : Int32 => .inr (some (.int r))) (.inl (0, [some (xad κ v0), some (.int v1)], [])) (fnX11_count v0 v1) := by
  unfold fnX11_count
  refine sr_iload_n (i := 1) (q := 1) C (show decode cX11_count 0 = .ok (.iload_n 1, 1) from by decide +kernel) rfl rfl rfl ?_
  refine sr_case (fun hw0 => ?_) (fun hw0 => ?_)
  · refine sr_tabIn (q := 64) C hw0 (show decode cX11_count 1 = .ok (.tableswitch 163 0 11 #[63, 71, 79, 87, 95, 103, 111, 116, 129, 142, 150, 158], 63) from by decide +kernel) (by decide) (by decide) rfl (by decide) ?_
    refine sr_aload_n (i := 0) (q := 65) C (show decode cX11_count 64 = .ok (.aload_n 0, 1) from by decide +kernel) rfl rfl rfl ?_
    refine sr_getr (q := 68) C fl_X11_27 hv0 (show decode cX11_count 65 = .ok (.getfield 27, 3) from by decide +kernel) rfl ?_
    refine sr_geti (q := 71) C fl_X11_310 (Or.inl rfl) (kt hv0 kp_11_5) (show decode cX11_count 68 = .ok (.getfield 310, 3) from by decide +kernel) rfl (fun x68 => ?_)
    exact sr_ireturn C _ rfl (show decode cX11_count 71 = .ok (.ireturn, 1) from by decide +kernel)
  · refine sr_case (fun hw1 => ?_) (fun hw1 => ?_)
    · refine sr_tabIn (q := 72) C hw1 (show decode cX11_count 1 = .ok (.tableswitch 163 0 11 #[63, 71, 79, 87, 95, 103, 111, 116, 129, 142, 150, 158], 63) from by decide +kernel) (by decide) (by decide) rfl (by decide) ?_
      refine sr_aload_n (i := 0) (q := 73) C (show decode cX11_count 72 = .ok (.aload_n 0, 1) from by decide +kernel) rfl rfl rfl ?_
      refine sr_getr (q := 76) C fl_X11_27 hv0 (show decode cX11_count 73 = .ok (.getfield 27, 3) from by decide +kernel) rfl ?_
      refine sr_geti (q := 79) C fl_X11_345 (Or.inl rfl) (kt hv0 kp_11_5) (show decode cX11_count 76 = .ok (.getfield 345, 3) from by decide +kernel) rfl (fun x76 => ?_)
      exact sr_ireturn C _ rfl (show decode cX11_count 79 = .ok (.ireturn, 1) from by decide +kernel)
    · refine sr_case (fun hw2 => ?_) (fun hw2 => ?_)
      · refine sr_tabIn (q := 80) C hw2 (show decode cX11_count 1 = .ok (.tableswitch 163 0 11 #[63, 71, 79, 87, 95, 103, 111, 116, 129, 142, 150, 158], 63) from by decide +kernel) (by decide) (by decide) rfl (by decide) ?_
        refine sr_aload_n (i := 0) (q := 81) C (show decode cX11_count 80 = .ok (.aload_n 0, 1) from by decide +kernel) rfl rfl rfl ?_
        refine sr_getr (q := 84) C fl_X11_27 hv0 (show decode cX11_count 81 = .ok (.getfield 27, 3) from by decide +kernel) rfl ?_
        refine sr_geti (q := 87) C fl_X11_374 (Or.inl rfl) (kt hv0 kp_11_5) (show decode cX11_count 84 = .ok (.getfield 374, 3) from by decide +kernel) rfl (fun x84 => ?_)
        exact sr_ireturn C _ rfl (show decode cX11_count 87 = .ok (.ireturn, 1) from by decide +kernel)
      · refine sr_case (fun hw3 => ?_) (fun hw3 => ?_)
        · refine sr_tabIn (q := 88) C hw3 (show decode cX11_count 1 = .ok (.tableswitch 163 0 11 #[63, 71, 79, 87, 95, 103, 111, 116, 129, 142, 150, 158], 63) from by decide +kernel) (by decide) (by decide) rfl (by decide) ?_
          refine sr_aload_n (i := 0) (q := 89) C (show decode cX11_count 88 = .ok (.aload_n 0, 1) from by decide +kernel) rfl rfl rfl ?_
          refine sr_getr (q := 92) C fl_X11_27 hv0 (show decode cX11_count 89 = .ok (.getfield 27, 3) from by decide +kernel) rfl ?_
          refine sr_geti (q := 95) C fl_X11_253 (Or.inl rfl) (kt hv0 kp_11_5) (show decode cX11_count 92 = .ok (.getfield 253, 3) from by decide +kernel) rfl (fun x92 => ?_)
          exact sr_ireturn C _ rfl (show decode cX11_count 95 = .ok (.ireturn, 1) from by decide +kernel)
        · refine sr_case (fun hw4 => ?_) (fun hw4 => ?_)
          · refine sr_tabIn (q := 96) C hw4 (show decode cX11_count 1 = .ok (.tableswitch 163 0 11 #[63, 71, 79, 87, 95, 103, 111, 116, 129, 142, 150, 158], 63) from by decide +kernel) (by decide) (by decide) rfl (by decide) ?_
            refine sr_aload_n (i := 0) (q := 97) C (show decode cX11_count 96 = .ok (.aload_n 0, 1) from by decide +kernel) rfl rfl rfl ?_
            refine sr_getr (q := 100) C fl_X11_36 hv0 (show decode cX11_count 97 = .ok (.getfield 36, 3) from by decide +kernel) rfl ?_
            refine sr_geti (q := 103) C fl_X11_204 (Or.inl rfl) (kt hv0 kp_11_6) (show decode cX11_count 100 = .ok (.getfield 204, 3) from by decide +kernel) rfl (fun x100 => ?_)
            exact sr_ireturn C _ rfl (show decode cX11_count 103 = .ok (.ireturn, 1) from by decide +kernel)
          · refine sr_case (fun hw5 => ?_) (fun hw5 => ?_)
            · refine sr_tabIn (q := 104) C hw5 (show decode cX11_count 1 = .ok (.tableswitch 163 0 11 #[63, 71, 79, 87, 95, 103, 111, 116, 129, 142, 150, 158], 63) from by decide +kernel) (by decide) (by decide) rfl (by decide) ?_
              refine sr_aload_n (i := 0) (q := 105) C (show decode cX11_count 104 = .ok (.aload_n 0, 1) from by decide +kernel) rfl rfl rfl ?_
              refine sr_getr (q := 108) C fl_X11_27 hv0 (show decode cX11_count 105 = .ok (.getfield 27, 3) from by decide +kernel) rfl ?_
              refine sr_geti (q := 111) C fl_X11_143 (Or.inl rfl) (kt hv0 kp_11_5) (show decode cX11_count 108 = .ok (.getfield 143, 3) from by decide +kernel) rfl (fun x108 => ?_)
              exact sr_ireturn C _ rfl (show decode cX11_count 111 = .ok (.ireturn, 1) from by decide +kernel)
            · refine sr_case (fun hw6 => ?_) (fun hw6 => ?_)
              · refine sr_tabIn (q := 112) C hw6 (show decode cX11_count 1 = .ok (.tableswitch 163 0 11 #[63, 71, 79, 87, 95, 103, 111, 116, 129, 142, 150, 158], 63) from by decide +kernel) (by decide) (by decide) rfl (by decide) ?_
                refine sr_aload_n (i := 0) (q := 113) C (show decode cX11_count 112 = .ok (.aload_n 0, 1) from by decide +kernel) rfl rfl rfl ?_
                refine sr_geti (q := 116) C fl_X11_110 (Or.inl rfl) hv0 (show decode cX11_count 113 = .ok (.getfield 110, 3) from by decide +kernel) rfl (fun x113 => ?_)
                exact sr_ireturn C _ rfl (show decode cX11_count 116 = .ok (.ireturn, 1) from by decide +kernel)
              · refine sr_case (fun hw7 => ?_) (fun hw7 => ?_)
                · refine sr_tabIn (q := 117) C hw7 (show decode cX11_count 1 = .ok (.tableswitch 163 0 11 #[63, 71, 79, 87, 95, 103, 111, 116, 129, 142, 150, 158], 63) from by decide +kernel) (by decide) (by decide) rfl (by decide) ?_
                  refine sr_aload_n (i := 0) (q := 118) C (show decode cX11_count 117 = .ok (.aload_n 0, 1) from by decide +kernel) rfl rfl rfl ?_
                  refine sr_getr (q := 121) C fl_X11_36 hv0 (show decode cX11_count 118 = .ok (.getfield 36, 3) from by decide +kernel) rfl ?_
                  refine sr_bipush (v := (98 : Int32)) (q := 123) C (show decode cX11_count 121 = .ok (.bipush 98, 2) from by decide +kernel) (by decide) rfl ?_
                  refine sr_cVi (As := [.int (98 : Int32)]) (st := []) (b := lk v0 6) (q := 126) C yvX9_peopleAt ml_X11_300 (cnX9_peopleAt (xo κ) (lk v0 6) (98 : Int32) (kt hv0 kp_11_6)) (kt hv0 kp_11_6) (by decide) rfl rfl rfl (by decide) (by decide) (Nat.le_of_ble_eq_true rfl) rfl (show decode cX11_count 123 = .ok (.invokevirtual 300, 3) from by decide +kernel) rfl (fun x123 => ?_)
                  refine sr_cSi (As := [.int x123]) (st := []) (q := 129) C ysJ6_bitCount_0f7a4 ml_X11_268 (cnJ6_bitCount_0f7a4 (xo κ) x123) rfl (by decide) (by decide) (Nat.le_of_ble_eq_true rfl) rfl (show decode cX11_count 126 = .ok (.invokestatic 268, 3) from by decide +kernel) rfl (fun x126 => ?_)
                  exact sr_ireturn C _ rfl (show decode cX11_count 129 = .ok (.ireturn, 1) from by decide +kernel)
                · refine sr_case (fun hw8 => ?_) (fun hw8 => ?_)
                  · refine sr_tabIn (q := 130) C hw8 (show decode cX11_count 1 = .ok (.tableswitch 163 0 11 #[63, 71, 79, 87, 95, 103, 111, 116, 129, 142, 150, 158], 63) from by decide +kernel) (by decide) (by decide) rfl (by decide) ?_
                    refine sr_aload_n (i := 0) (q := 131) C (show decode cX11_count 130 = .ok (.aload_n 0, 1) from by decide +kernel) rfl rfl rfl ?_
                    refine sr_getr (q := 134) C fl_X11_36 hv0 (show decode cX11_count 131 = .ok (.getfield 36, 3) from by decide +kernel) rfl ?_
                    refine sr_bipush (v := (99 : Int32)) (q := 136) C (show decode cX11_count 134 = .ok (.bipush 99, 2) from by decide +kernel) (by decide) rfl ?_
                    refine sr_cVi (As := [.int (99 : Int32)]) (st := []) (b := lk v0 6) (q := 139) C yvX9_peopleAt ml_X11_300 (cnX9_peopleAt (xo κ) (lk v0 6) (99 : Int32) (kt hv0 kp_11_6)) (kt hv0 kp_11_6) (by decide) rfl rfl rfl (by decide) (by decide) (Nat.le_of_ble_eq_true rfl) rfl (show decode cX11_count 136 = .ok (.invokevirtual 300, 3) from by decide +kernel) rfl (fun x136 => ?_)
                    refine sr_cSi (As := [.int x136]) (st := []) (q := 142) C ysJ6_bitCount_0f7a4 ml_X11_268 (cnJ6_bitCount_0f7a4 (xo κ) x136) rfl (by decide) (by decide) (Nat.le_of_ble_eq_true rfl) rfl (show decode cX11_count 139 = .ok (.invokestatic 268, 3) from by decide +kernel) rfl (fun x139 => ?_)
                    exact sr_ireturn C _ rfl (show decode cX11_count 142 = .ok (.ireturn, 1) from by decide +kernel)
                  · refine sr_case (fun hw9 => ?_) (fun hw9 => ?_)
                    · refine sr_tabIn (q := 143) C hw9 (show decode cX11_count 1 = .ok (.tableswitch 163 0 11 #[63, 71, 79, 87, 95, 103, 111, 116, 129, 142, 150, 158], 63) from by decide +kernel) (by decide) (by decide) rfl (by decide) ?_
                      refine sr_aload_n (i := 0) (q := 144) C (show decode cX11_count 143 = .ok (.aload_n 0, 1) from by decide +kernel) rfl rfl rfl ?_
                      refine sr_getr (q := 147) C fl_X11_36 hv0 (show decode cX11_count 144 = .ok (.getfield 36, 3) from by decide +kernel) rfl ?_
                      refine sr_cVi (As := []) (st := []) (b := lk v0 6) (q := 150) C yvX9_stonesInDoubt ml_X11_431 (cnX9_stonesInDoubt (xo κ) (lk v0 6) (kt hv0 kp_11_6)) (kt hv0 kp_11_6) (by decide) rfl rfl rfl (by decide) (by decide) (Nat.le_of_ble_eq_true rfl) rfl (show decode cX11_count 147 = .ok (.invokevirtual 431, 3) from by decide +kernel) rfl (fun x147 => ?_)
                      exact sr_ireturn C _ rfl (show decode cX11_count 150 = .ok (.ireturn, 1) from by decide +kernel)
                    · refine sr_case (fun hw10 => ?_) (fun hw10 => ?_)
                      · refine sr_tabIn (q := 151) C hw10 (show decode cX11_count 1 = .ok (.tableswitch 163 0 11 #[63, 71, 79, 87, 95, 103, 111, 116, 129, 142, 150, 158], 63) from by decide +kernel) (by decide) (by decide) rfl (by decide) ?_
                        refine sr_aload_n (i := 0) (q := 152) C (show decode cX11_count 151 = .ok (.aload_n 0, 1) from by decide +kernel) rfl rfl rfl ?_
                        refine sr_getr (q := 155) C fl_X11_27 hv0 (show decode cX11_count 152 = .ok (.getfield 27, 3) from by decide +kernel) rfl ?_
                        refine sr_geti (q := 158) C fl_X11_362 (Or.inl rfl) (kt hv0 kp_11_5) (show decode cX11_count 155 = .ok (.getfield 362, 3) from by decide +kernel) rfl (fun x155 => ?_)
                        exact sr_ireturn C _ rfl (show decode cX11_count 158 = .ok (.ireturn, 1) from by decide +kernel)
                      · refine sr_case (fun hw11 => ?_) (fun hw11 => ?_)
                        · refine sr_tabIn (q := 159) C hw11 (show decode cX11_count 1 = .ok (.tableswitch 163 0 11 #[63, 71, 79, 87, 95, 103, 111, 116, 129, 142, 150, 158], 63) from by decide +kernel) (by decide) (by decide) rfl (by decide) ?_
                          refine sr_aload_n (i := 0) (q := 160) C (show decode cX11_count 159 = .ok (.aload_n 0, 1) from by decide +kernel) rfl rfl rfl ?_
                          refine sr_cVi (As := []) (st := []) (b := v0) (q := 163) C yvX11_rowsThere ml_X11_434 (cnX11_rowsThere (xo κ) v0 hv0) hv0 (by decide) rfl rfl rfl (by decide) (by decide) (Nat.le_of_ble_eq_true rfl) rfl (show decode cX11_count 160 = .ok (.invokevirtual 434, 3) from by decide +kernel) rfl (fun x160 => ?_)
                          exact sr_ireturn C _ rfl (show decode cX11_count 163 = .ok (.ireturn, 1) from by decide +kernel)
                        · refine sr_tabOut (q := 164) C (sw12_out hw0 hw1 hw2 hw3 hw4 hw5 hw6 hw7 hw8 hw9 hw10 hw11) (show decode cX11_count 1 = .ok (.tableswitch 163 0 11 #[63, 71, 79, 87, 95, 103, 111, 116, 129, 142, 150, 158], 63) from by decide +kernel) (by decide) ?_
                          refine sr_iconst (v := (-1 : Int32)) (q := 165) C (show decode cX11_count 164 = .ok (.iconst (-1), 1) from by decide +kernel) (by decide) rfl ?_
                          exact sr_ireturn C _ rfl (show decode cX11_count 165 = .ok (.ireturn, 1) from by decide +kernel)
theorem cnX11_count (ω : sm_O) (v0 : Nat) (v1 : Int32) (hv0 : kd v0 = 11) : sm_Mt 3 yX11_count cX11_count 2 (some .int) ω [.ref (ω.1 + v0), .int v1] (fun a => some (.int a)) (fnX11_count v0 v1) := by
  refine sm_conI (r := fun a => a) (by decide) (fun _ => rfl) (Nat.le_of_ble_eq_true rfl) ?_
  intro κ hκ C
  subst hκ
  exact slX11_count C v0 v1 hv0
def fnX11_isSlot (v0 : Int32) : sm_M Bool := m_br (v0 < 0)
    (m_ret false)
    (m_br ((4 : Int32) ≤ v0)
    (m_ret false)
    (m_ret true))
set_option maxHeartbeats 4000000 in
set_option maxRecDepth 100000 in
theorem slX11_isSlot {κ : sm_X} (C : sm_C κ RX11 cX11_isSlot 1 1) (v0 : Int32)  : sm_S κ (fun r : Bool => .inr (some (.int (bI r)))) (.inl (0, [some (.int v0)], [])) (fnX11_isSlot v0) := by
  unfold fnX11_isSlot
  refine sr_iload_n (i := 0) (q := 1) C (show decode cX11_isSlot 0 = .ok (.iload_n 0, 1) from by decide +kernel) rfl rfl rfl ?_
  refine sr_if_lt (q := 4) C 13 (show decode cX11_isSlot 1 = .ok (.ifCond .lt 12, 3) from by decide +kernel) (by decide) rfl ?_ ?_
  · refine sr_iconst (v := (0 : Int32)) (q := 14) C (show decode cX11_isSlot 13 = .ok (.iconst 0, 1) from by decide +kernel) (by decide) rfl ?_
    exact sr_ireturn C false rfl (show decode cX11_isSlot 14 = .ok (.ireturn, 1) from by decide +kernel)
  · refine sr_iload_n (i := 0) (q := 5) C (show decode cX11_isSlot 4 = .ok (.iload_n 0, 1) from by decide +kernel) rfl rfl rfl ?_
    refine sr_iconst (v := (4 : Int32)) (q := 6) C (show decode cX11_isSlot 5 = .ok (.iconst 4, 1) from by decide +kernel) (by decide) rfl ?_
    refine sr_icmp_ge (q := 9) C 13 (show decode cX11_isSlot 6 = .ok (.if_icmp .ge 7, 3) from by decide +kernel) (by decide) rfl ?_ ?_
    · refine sr_iconst (v := (0 : Int32)) (q := 14) C (show decode cX11_isSlot 13 = .ok (.iconst 0, 1) from by decide +kernel) (by decide) rfl ?_
      exact sr_ireturn C false rfl (show decode cX11_isSlot 14 = .ok (.ireturn, 1) from by decide +kernel)
    · refine sr_iconst (v := (1 : Int32)) (q := 10) C (show decode cX11_isSlot 9 = .ok (.iconst 1, 1) from by decide +kernel) (by decide) rfl ?_
      refine sr_goto (q := 14) C (show decode cX11_isSlot 10 = .ok (.goto 4, 3) from by decide +kernel) (by decide) ?_
      exact sr_ireturn C true rfl (show decode cX11_isSlot 14 = .ok (.ireturn, 1) from by decide +kernel)
theorem cnX11_isSlot (ω : sm_O) (v0 : Int32)  : sm_Mt 1 yX11_isSlot cX11_isSlot 1 (some .boolean) ω [.int v0] (fun a => some (.int (bI a))) (fnX11_isSlot v0) := by
  refine sm_conI (r := bI) (by decide) bI_nar (Nat.le_of_ble_eq_true rfl) ?_
  intro κ hκ C
  subst hκ
  exact slX11_isSlot C v0
