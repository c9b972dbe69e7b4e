def fnX12_over (v0 : Nat) (v1 : Int32) (v2 : Int32) : sm_M Int32 := m_bnd (fnX12_isWay v0 v1) fun x2 => m_br ((bI x2) = 0)
    (m_ret (-2 : Int32))
    (m_bnd (fnX12_in v2.toInt64 (0 : Int64) (3 : Int64)) fun x14 => m_br ((bI x14) = 0)
    (m_ret (-2 : Int32))
    (m_bnd (fnX12_thinks v0) fun _ => m_bnd (fnX12_allGoOver v0 v1) fun _ => m_bnd (fnX12_mustAndNot v0) fun x33 => m_bnd (fnX12_wakes v0) fun _ => m_br (v2 = 0)
    (m_gi v0 22 fun x46 => m_ret x46)
    (m_br (v2 = (1 : Int32))
    (m_gi v0 23 fun x58 => m_ret x58)
    (m_br (v2 = (2 : Int32))
    (m_gi v0 24 fun x70 => m_ret x70)
    (m_ret x33)))))
set_option maxHeartbeats 4000000 in
set_option maxRecDepth 100000 in
theorem slX12_over {κ : sm_X} (C : sm_C κ RX12 cX12_over 4 11) (v0 : Nat) (v1 : Int32) (v2 : Int32) (hv0 : kd v0 = 12) : sm_S κ (fun r : Int32 => .inr (some (.int r))) (.inl (0, [some (xad κ v0), some (.int v1), some (.int v2), none], [])) (fnX12_over v0 v1 v2) := by
  unfold fnX12_over
  refine sr_aload_n (i := 0) (q := 1) C (show decode cX12_over 0 = .ok (.aload_n 0, 1) from by decide +kernel) rfl rfl rfl ?_
  refine sr_iload_n (i := 1) (q := 2) C (show decode cX12_over 1 = .ok (.iload_n 1, 1) from by decide +kernel) rfl rfl rfl ?_
  refine sr_cVz (As := [.int v1]) (st := []) (b := v0) (q := 5) C yvX12_isWay ml_X12_366 (cnX12_isWay (xo κ) v0 v1 hv0) hv0 (by decide) rfl rfl rfl (by decide) (by decide) (Nat.le_of_ble_eq_true rfl) rfl (show decode cX12_over 2 = .ok (.invokevirtual 366, 3) from by decide +kernel) rfl (fun x2 => ?_)
  refine sr_if_eq (q := 8) C 20 (show decode cX12_over 5 = .ok (.ifCond .eq 15, 3) from by decide +kernel) (by decide) rfl ?_ ?_
  · refine sr_bipush (v := (-2 : Int32)) (q := 22) C (show decode cX12_over 20 = .ok (.bipush (-2), 2) from by decide +kernel) (by decide) rfl ?_
    exact sr_ireturn C _ rfl (show decode cX12_over 22 = .ok (.ireturn, 1) from by decide +kernel)
  · refine sr_iload_n (i := 2) (q := 9) C (show decode cX12_over 8 = .ok (.iload_n 2, 1) from by decide +kernel) rfl rfl rfl ?_
    refine sr_i2l (q := 10) C (show decode cX12_over 9 = .ok (.i2l, 1) from by decide +kernel) rfl ?_
    refine sr_lconst (v := (0 : Int64)) (q := 11) C (show decode cX12_over 10 = .ok (.lconst 0, 1) from by decide +kernel) (by decide) rfl ?_
    refine sr_ldc2 (q := 14) C co_X12_308 (show decode cX12_over 11 = .ok (.ldc2_w 308, 3) from by decide +kernel) rfl ?_
    refine sr_cSz (As := [.long v2.toInt64, .long (0 : Int64), .long (3 : Int64)]) (st := []) (q := 17) C ysX12_in ml_X12_103 (cnX12_in (xo κ) v2.toInt64 (0 : Int64) (3 : Int64)) rfl (by decide) (by decide) (Nat.le_of_ble_eq_true rfl) rfl (show decode cX12_over 14 = .ok (.invokestatic 103, 3) from by decide +kernel) rfl (fun x14 => ?_)
    refine sr_if_ne (q := 20) C 23 (show decode cX12_over 17 = .ok (.ifCond .ne 6, 3) from by decide +kernel) (by decide) rfl ?_ ?_
    · refine sr_aload_n (i := 0) (q := 24) C (show decode cX12_over 23 = .ok (.aload_n 0, 1) from by decide +kernel) rfl rfl rfl ?_
      refine sr_cVv (As := []) (st := []) (b := v0) (q := 27) C yvX12_thinks ml_X12_339 (cnX12_thinks (xo κ) v0 hv0) hv0 (by decide) rfl rfl rfl (by decide) (by decide) (Nat.le_of_ble_eq_true rfl) rfl (show decode cX12_over 24 = .ok (.invokevirtual 339, 3) from by decide +kernel) rfl (fun _ => ?_)
      refine sr_aload_n (i := 0) (q := 28) C (show decode cX12_over 27 = .ok (.aload_n 0, 1) from by decide +kernel) rfl rfl rfl ?_
      refine sr_iload_n (i := 1) (q := 29) C (show decode cX12_over 28 = .ok (.iload_n 1, 1) from by decide +kernel) rfl rfl rfl ?_
      refine sr_cVv (As := [.int v1]) (st := []) (b := v0) (q := 32) C yvX12_allGoOver ml_X12_399 (cnX12_allGoOver (xo κ) v0 v1 hv0) hv0 (by decide) rfl rfl rfl (by decide) (by decide) (Nat.le_of_ble_eq_true rfl) rfl (show decode cX12_over 29 = .ok (.invokevirtual 399, 3) from by decide +kernel) rfl (fun _ => ?_)
      refine sr_aload_n (i := 0) (q := 33) C (show decode cX12_over 32 = .ok (.aload_n 0, 1) from by decide +kernel) rfl rfl rfl ?_
      refine sr_cVi (As := []) (st := []) (b := v0) (q := 36) C yvX12_mustAndNot ml_X12_402 (cnX12_mustAndNot (xo κ) v0 hv0) hv0 (by decide) rfl rfl rfl (by decide) (by decide) (Nat.le_of_ble_eq_true rfl) rfl (show decode cX12_over 33 = .ok (.invokevirtual 402, 3) from by decide +kernel) rfl (fun x33 => ?_)
      refine sr_istore_n (i := 3) (L' := [some (xad κ v0), some (.int v1), some (.int v2), some (.int x33)]) (q := 37) C (show decode cX12_over 36 = .ok (.istore_n 3, 1) from by decide +kernel) rfl (by decide) rfl rfl ?_
      refine sr_aload_n (i := 0) (q := 38) C (show decode cX12_over 37 = .ok (.aload_n 0, 1) from by decide +kernel) rfl rfl rfl ?_
      refine sr_cVv (As := []) (st := []) (b := v0) (q := 41) C yvX12_wakes ml_X12_345 (cnX12_wakes (xo κ) v0 hv0) hv0 (by decide) rfl rfl rfl (by decide) (by decide) (Nat.le_of_ble_eq_true rfl) rfl (show decode cX12_over 38 = .ok (.invokevirtual 345, 3) from by decide +kernel) rfl (fun _ => ?_)
      refine sr_iload_n (i := 2) (q := 42) C (show decode cX12_over 41 = .ok (.iload_n 2, 1) from by decide +kernel) rfl rfl rfl ?_
      refine sr_if_ne (q := 45) C 52 (show decode cX12_over 42 = .ok (.ifCond .ne 10, 3) from by decide +kernel) (by decide) rfl ?_ ?_
      · refine sr_iload_n (i := 2) (q := 53) C (show decode cX12_over 52 = .ok (.iload_n 2, 1) from by decide +kernel) rfl rfl rfl ?_
        refine sr_iconst (v := (1 : Int32)) (q := 54) C (show decode cX12_over 53 = .ok (.iconst 1, 1) from by decide +kernel) (by decide) rfl ?_
        refine sr_icmp_ne (q := 57) C 64 (show decode cX12_over 54 = .ok (.if_icmp .ne 10, 3) from by decide +kernel) (by decide) rfl ?_ ?_
        · refine sr_iload_n (i := 2) (q := 65) C (show decode cX12_over 64 = .ok (.iload_n 2, 1) from by decide +kernel) rfl rfl rfl ?_
          refine sr_iconst (v := (2 : Int32)) (q := 66) C (show decode cX12_over 65 = .ok (.iconst 2, 1) from by decide +kernel) (by decide) rfl ?_
          refine sr_icmp_ne (q := 69) C 76 (show decode cX12_over 66 = .ok (.if_icmp .ne 10, 3) from by decide +kernel) (by decide) rfl ?_ ?_
          · refine sr_iload_n (i := 3) (q := 77) C (show decode cX12_over 76 = .ok (.iload_n 3, 1) from by decide +kernel) rfl rfl rfl ?_
            exact sr_ireturn C _ rfl (show decode cX12_over 77 = .ok (.ireturn, 1) from by decide +kernel)
          · refine sr_aload_n (i := 0) (q := 70) C (show decode cX12_over 69 = .ok (.aload_n 0, 1) from by decide +kernel) rfl rfl rfl ?_
            refine sr_geti (q := 73) C fl_X12_378 (Or.inl rfl) hv0 (show decode cX12_over 70 = .ok (.getfield 378, 3) from by decide +kernel) rfl (fun x70 => ?_)
            refine sr_goto (q := 77) C (show decode cX12_over 73 = .ok (.goto 4, 3) from by decide +kernel) (by decide) ?_
            exact sr_ireturn C _ rfl (show decode cX12_over 77 = .ok (.ireturn, 1) from by decide +kernel)
        · refine sr_aload_n (i := 0) (q := 58) C (show decode cX12_over 57 = .ok (.aload_n 0, 1) from by decide +kernel) rfl rfl rfl ?_
          refine sr_geti (q := 61) C fl_X12_375 (Or.inl rfl) hv0 (show decode cX12_over 58 = .ok (.getfield 375, 3) from by decide +kernel) rfl (fun x58 => ?_)
          refine sr_goto (q := 77) C (show decode cX12_over 61 = .ok (.goto 16, 3) from by decide +kernel) (by decide) ?_
          exact sr_ireturn C _ rfl (show decode cX12_over 77 = .ok (.ireturn, 1) from by decide +kernel)
      · refine sr_aload_n (i := 0) (q := 46) C (show decode cX12_over 45 = .ok (.aload_n 0, 1) from by decide +kernel) rfl rfl rfl ?_
        refine sr_geti (q := 49) C fl_X12_372 (Or.inl rfl) hv0 (show decode cX12_over 46 = .ok (.getfield 372, 3) from by decide +kernel) rfl (fun x46 => ?_)
        refine sr_goto (q := 77) C (show decode cX12_over 49 = .ok (.goto 28, 3) from by decide +kernel) (by decide) ?_
        exact sr_ireturn C _ rfl (show decode cX12_over 77 = .ok (.ireturn, 1) from by decide +kernel)
    · refine sr_bipush (v := (-2 : Int32)) (q := 22) C (show decode cX12_over 20 = .ok (.bipush (-2), 2) from by decide +kernel) (by decide) rfl ?_
      exact sr_ireturn C _ rfl (show decode cX12_over 22 = .ok (.ireturn, 1) from by decide +kernel)
theorem cnX12_over (ω : sm_O) (v0 : Nat) (v1 : Int32) (v2 : Int32) (hv0 : kd v0 = 12) : sm_Mt 11 yX12_over cX12_over 4 (some .int) ω [.ref (ω.1 + v0), .int v1, .int v2] (fun a => some (.int a)) (fnX12_over v0 v1 v2) := by
  refine sm_conI (r := fun a => a) (by decide) (fun _ => rfl) (Nat.le_of_ble_eq_true rfl) ?_
  intro κ hκ C
  subst hκ
  exact slX12_over C v0 v1 v2 hv0
set_option maxRecDepth 100000 in
theorem yvX12_over : sm_YV yX12_over cX12_over 4 (some .int) 2 := ⟨⟨lw_m (List.mem_of_getElem? (i := 1940) rfl) rfl, lw_m (List.mem_of_getElem? (i := 153) rfl) rfl, by decide +kernel, by decide +kernel, by decide +kernel⟩, lw_m (List.mem_of_getElem? (i := 1938) rfl) rfl, lw_m (List.mem_of_getElem? (i := 1939) rfl) rfl⟩
def fnX12_paste_L150 : Nat → Nat → Int32 → Int32 → Int32 → Int32 → sm_M Int32
  | 0, _, _, _, _, _ => m_fail
  | n + 1, v0, v3, v4, v5, v6 => m_br (v5 ≤ v6)
    (m_ret (0 : Int32))
    (m_al (lk v0 46) v6 fun x177 => m_sal (lk v0 45) ((((60 : Int32) * v3) + v4) + v6) x177 <| (fnX12_paste_L150 n) v0 v3 v4 v5 (v6 + (1 : Int32)))
set_option maxHeartbeats 4000000 in
set_option maxRecDepth 100000 in
theorem slX12_paste_L150 {κ : sm_X} (C : sm_C κ RX12 cX12_paste 7 3) : ∀ (n : Nat) (v0 : Nat) (v3 : Int32) (v4 : Int32) (v5 : Int32) (v6 : Int32) (hv0 : kd v0 = 12), sm_S κ (fun r : Int32 => .inr (some (.int r))) (.inl (150, [some (xad κ v0), none, none, some (.int v3), some (.int v4), some (.int v5), some (.int v6)], [])) (fnX12_paste_L150 n v0 v3 v4 v5 v6) := by
  intro n
  induction n with
  | zero =>
    intros
    exact sr_fail
  | succ n K150 =>
    intro v0 v3 v4 v5 v6 hv0
    unfold fnX12_paste_L150
    refine sr_iload (i := 6) (q := 152) C (show decode cX12_paste 150 = .ok (.iload 6, 2) from by decide +kernel) rfl rfl ?_
    refine sr_iload (i := 5) (q := 154) C (show decode cX12_paste 152 = .ok (.iload 5, 2) from by decide +kernel) rfl rfl ?_
    refine sr_icmp_ge (q := 157) C 185 (show decode cX12_paste 154 = .ok (.if_icmp .ge 31, 3) from by decide +kernel) (by decide) rfl ?_ ?_
    · refine sr_iconst (v := (0 : Int32)) (q := 186) C (show decode cX12_paste 185 = .ok (.iconst 0, 1) from by decide +kernel) (by decide) rfl ?_
      exact sr_ireturn C _ rfl (show decode cX12_paste 186 = .ok (.ireturn, 1) from by decide +kernel)
    · refine sr_aload_n (i := 0) (q := 158) C (show decode cX12_paste 157 = .ok (.aload_n 0, 1) from by decide +kernel) rfl rfl rfl ?_
      refine sr_getr (q := 161) C fl_X12_92 hv0 (show decode cX12_paste 158 = .ok (.getfield 92, 3) from by decide +kernel) rfl ?_
      refine sr_bipush (v := (60 : Int32)) (q := 163) C (show decode cX12_paste 161 = .ok (.bipush 60, 2) from by decide +kernel) (by decide) rfl ?_
      refine sr_iload_n (i := 3) (q := 164) C (show decode cX12_paste 163 = .ok (.iload_n 3, 1) from by decide +kernel) rfl rfl rfl ?_
      refine sr_imul (q := 165) C (show decode cX12_paste 164 = .ok (.imul, 1) from by decide +kernel) rfl ?_
      refine sr_iload (i := 4) (q := 167) C (show decode cX12_paste 165 = .ok (.iload 4, 2) from by decide +kernel) rfl rfl ?_
      refine sr_iadd (q := 168) C (show decode cX12_paste 167 = .ok (.iadd, 1) from by decide +kernel) rfl ?_
      refine sr_iload (i := 6) (q := 170) C (show decode cX12_paste 168 = .ok (.iload 6, 2) from by decide +kernel) rfl rfl ?_
      refine sr_iadd (q := 171) C (show decode cX12_paste 170 = .ok (.iadd, 1) from by decide +kernel) rfl ?_
      refine sr_aload_n (i := 0) (q := 172) C (show decode cX12_paste 171 = .ok (.aload_n 0, 1) from by decide +kernel) rfl rfl rfl ?_
      refine sr_getr (q := 175) C fl_X12_95 hv0 (show decode cX12_paste 172 = .ok (.getfield 95, 3) from by decide +kernel) rfl ?_
      refine sr_iload (i := 6) (q := 177) C (show decode cX12_paste 175 = .ok (.iload 6, 2) from by decide +kernel) rfl rfl ?_
      refine sr_laload (q := 178) C (kt hv0 kp_12_46) (show decode cX12_paste 177 = .ok (.laload, 1) from by decide +kernel) rfl (fun x177 => ?_)
      refine sr_lastore (q := 179) C (kt hv0 kp_12_45) (show decode cX12_paste 178 = .ok (.lastore, 1) from by decide +kernel) rfl ?_
      refine sr_iinc (v := v6 + (1 : Int32)) (L' := [some (xad κ v0), none, none, some (.int v3), some (.int v4), some (.int v5), some (.int (v6 + (1 : Int32)))]) (q := 182) C (show decode cX12_paste 179 = .ok (.iinc 6 1, 3) from by decide +kernel) rfl rfl (by decide) rfl rfl ?_
      refine sr_goto (q := 150) C (show decode cX12_paste 182 = .ok (.goto (-32), 3) from by decide +kernel) (by decide) ?_
      exact K150 v0 v3 v4 v5 (v6 + (1 : Int32)) hv0
def fnX12_paste_J147 (v0 : Nat) (v3 : Int32) (v4 : Int32) (v5 : Int32) : sm_M Int32 := fnX12_paste_L150 4096 v0 v3 v4 v5 (0 : Int32)
set_option maxHeartbeats 4000000 in
set_option maxRecDepth 100000 in
theorem slX12_paste_J147 {κ : sm_X} (C : sm_C κ RX12 cX12_paste 7 3) (v0 : Nat) (v3 : Int32) (v4 : Int32) (v5 : Int32) (hv0 : kd v0 = 12) : sm_S κ (fun r : Int32 => .inr (some (.int r))) (.inl (147, [some (xad κ v0), none, none, some (.int v3), some (.int v4), some (.int v5), none], [])) (fnX12_paste_J147 v0 v3 v4 v5) := by
  unfold fnX12_paste_J147
  refine sr_iconst (v := (0 : Int32)) (q := 148) C (show decode cX12_paste 147 = .ok (.iconst 0, 1) from by decide +kernel) (by decide) rfl ?_
  refine sr_istore (i := 6) (L' := [some (xad κ v0), none, none, some (.int v3), some (.int v4), some (.int v5), some (.int (0 : Int32))]) (q := 150) C (show decode cX12_paste 148 = .ok (.istore 6, 2) from by decide +kernel) (by decide) rfl rfl ?_
  exact slX12_paste_L150 C 4096 v0 v3 v4 v5 (0 : Int32) hv0
def fnX12_paste_L113 : Nat → Nat → Int32 → Int32 → Int32 → Int32 → Int32 → Int32 → sm_M Int32
  | 0, _, _, _, _, _, _, _ => m_fail
  | n + 1, v0, v1, v2, v3, v4, v5, v6 => m_br (v5 ≤ v6)
    (fnX12_paste_J147 v0 v3 v4 v5)
    (m_al (lk v0 45) ((((60 : Int32) * v1) + v2) + v6) fun x139 => m_sal (lk v0 46) v6 x139 <| (fnX12_paste_L113 n) v0 v1 v2 v3 v4 v5 (v6 + (1 : Int32)))
set_option maxHeartbeats 4000000 in
set_option maxRecDepth 100000 in
theorem slX12_paste_L113 {κ : sm_X} (C : sm_C κ RX12 cX12_paste 7 3) : ∀ (n : Nat) (v0 : Nat) (v1 : Int32) (v2 : Int32) (v3 : Int32) (v4 : Int32) (v5 : Int32) (v6 : Int32) (hv0 : kd v0 = 12), sm_S κ (fun r : Int32 => .inr (some (.int r))) (.inl (113, [some (xad κ v0), some (.int v1), some (.int v2), some (.int v3), some (.int v4), some (.int v5), some (.int v6)], [])) (fnX12_paste_L113 n v0 v1 v2 v3 v4 v5 v6) := by
  intro n
  induction n with
  | zero =>
    intros
    exact sr_fail
  | succ n K113 =>
    intro v0 v1 v2 v3 v4 v5 v6 hv0
    unfold fnX12_paste_L113
    refine sr_iload (i := 6) (q := 115) C (show decode cX12_paste 113 = .ok (.iload 6, 2) from by decide +kernel) rfl rfl ?_
    refine sr_iload (i := 5) (q := 117) C (show decode cX12_paste 115 = .ok (.iload 5, 2) from by decide +kernel) rfl rfl ?_
    refine sr_icmp_ge (q := 120) C 147 (show decode cX12_paste 117 = .ok (.if_icmp .ge 30, 3) from by decide +kernel) (by decide) rfl ?_ ?_
    · refine sr_weak (L' := [some (xad κ v0), none, none, some (.int v3), some (.int v4), some (.int v5), none]) ⟨rfl, rfl, rfl, rfl, trivial⟩ ?_
      exact slX12_paste_J147 C v0 v3 v4 v5 hv0
    · refine sr_aload_n (i := 0) (q := 121) C (show decode cX12_paste 120 = .ok (.aload_n 0, 1) from by decide +kernel) rfl rfl rfl ?_
      refine sr_getr (q := 124) C fl_X12_95 hv0 (show decode cX12_paste 121 = .ok (.getfield 95, 3) from by decide +kernel) rfl ?_
      refine sr_iload (i := 6) (q := 126) C (show decode cX12_paste 124 = .ok (.iload 6, 2) from by decide +kernel) rfl rfl ?_
      refine sr_aload_n (i := 0) (q := 127) C (show decode cX12_paste 126 = .ok (.aload_n 0, 1) from by decide +kernel) rfl rfl rfl ?_
      refine sr_getr (q := 130) C fl_X12_92 hv0 (show decode cX12_paste 127 = .ok (.getfield 92, 3) from by decide +kernel) rfl ?_
      refine sr_bipush (v := (60 : Int32)) (q := 132) C (show decode cX12_paste 130 = .ok (.bipush 60, 2) from by decide +kernel) (by decide) rfl ?_
      refine sr_iload_n (i := 1) (q := 133) C (show decode cX12_paste 132 = .ok (.iload_n 1, 1) from by decide +kernel) rfl rfl rfl ?_
      refine sr_imul (q := 134) C (show decode cX12_paste 133 = .ok (.imul, 1) from by decide +kernel) rfl ?_
      refine sr_iload_n (i := 2) (q := 135) C (show decode cX12_paste 134 = .ok (.iload_n 2, 1) from by decide +kernel) rfl rfl rfl ?_
      refine sr_iadd (q := 136) C (show decode cX12_paste 135 = .ok (.iadd, 1) from by decide +kernel) rfl ?_
      refine sr_iload (i := 6) (q := 138) C (show decode cX12_paste 136 = .ok (.iload 6, 2) from by decide +kernel) rfl rfl ?_
      refine sr_iadd (q := 139) C (show decode cX12_paste 138 = .ok (.iadd, 1) from by decide +kernel) rfl ?_
      refine sr_laload (q := 140) C (kt hv0 kp_12_45) (show decode cX12_paste 139 = .ok (.laload, 1) from by decide +kernel) rfl (fun x139 => ?_)
      refine sr_lastore (q := 141) C (kt hv0 kp_12_46) (show decode cX12_paste 140 = .ok (.lastore, 1) from by decide +kernel) rfl ?_
      refine sr_iinc (v := v6 + (1 : Int32)) (L' := [some (xad κ v0), some (.int v1), some (.int v2), some (.int v3), some (.int v4), some (.int v5), some (.int (v6 + (1 : Int32)))]) (q := 144) C (show decode cX12_paste 141 = .ok (.iinc 6 1, 3) from by decide +kernel) rfl rfl (by decide) rfl rfl ?_
      refine sr_goto (q := 113) C (show decode cX12_paste 144 = .ok (.goto (-31), 3) from by decide +kernel) (by decide) ?_
      exact K113 v0 v1 v2 v3 v4 v5 (v6 + (1 : Int32)) hv0
def fnX12_paste (v0 : Nat) (v1 : Int32) (v2 : Int32) (v3 : Int32) (v4 : Int32) (v5 : Int32) : sm_M Int32 := m_bnd (fnX12_isSlot v1) fun x1 => m_br ((bI x1) = 0)
    (m_ret (-2 : Int32))
    (m_bnd (fnX12_isSlot v3) fun x8 => m_br ((bI x8) = 0)
    (m_ret (-2 : Int32))
    (m_ai (lk v0 43) v1 fun x22 => m_br (x22 = (-1 : Int32))
    (m_ret (-6 : Int32))
    (m_ai (lk v0 43) v3 fun x32 => m_br (x32 = (-1 : Int32))
    (m_ret (-6 : Int32))
    (m_ai (lk v0 44) v1 fun x45 => m_ai (lk v0 44) v3 fun x51 => m_br (x45 = x51)
    (m_br (v2 < 0)
    (m_ret (-7 : Int32))
    (m_br (v4 < 0)
    (m_ret (-7 : Int32))
    (m_br (v5 < 0)
    (m_ret (-7 : Int32))
    (m_ai (lk v0 43) v1 fun x83 => m_br (0 < (lg_cmp (v2.toInt64 + v5.toInt64) x83.toInt64))
    (m_ret (-7 : Int32))
    (m_ai (lk v0 43) v3 fun x101 => m_br ((lg_cmp (v4.toInt64 + v5.toInt64) x101.toInt64) ≤ 0)
    (fnX12_paste_L113 4096 v0 v1 v2 v3 v4 v5 (0 : Int32))
    (m_ret (-7 : Int32)))))))
    (m_ret (-8 : Int32))))))
set_option maxHeartbeats 4000000 in
set_option maxRecDepth 100000 in
theorem slX12_paste {κ : sm_X} (C : sm_C κ RX12 cX12_paste 7 3) (v0 : Nat) (v1 : Int32) (v2 : Int32) (v3 : Int32) (v4 : Int32) (v5 : Int32) (hv0 : kd v0 = 12) : sm_S κ (fun r : Int32 => .inr (some (.int r))) (.inl (0, [some (xad κ v0), some (.int v1), some (.int v2), some (.int v3), some (.int v4), some (.int v5), none], [])) (fnX12_paste v0 v1 v2 v3 v4 v5) := by
  unfold fnX12_paste
  refine sr_iload_n (i := 1) (q := 1) C (show decode cX12_paste 0 = .ok (.iload_n 1, 1) from by decide +kernel) rfl rfl rfl ?_
  refine sr_cSz (As := [.int v1]) (st := []) (q := 4) C ysX12_isSlot ml_X12_336 (cnX12_isSlot (xo κ) v1) rfl (by decide) (by decide) (Nat.le_of_ble_eq_true rfl) rfl (show decode cX12_paste 1 = .ok (.invokestatic 336, 3) from by decide +kernel) rfl (fun x1 => ?_)
  refine sr_if_eq (q := 7) C 14 (show decode cX12_paste 4 = .ok (.ifCond .eq 10, 3) from by decide +kernel) (by decide) rfl ?_ ?_
  · refine sr_bipush (v := (-2 : Int32)) (q := 16) C (show decode cX12_paste 14 = .ok (.bipush (-2), 2) from by decide +kernel) (by decide) rfl ?_
    exact sr_ireturn C _ rfl (show decode cX12_paste 16 = .ok (.ireturn, 1) from by decide +kernel)
  · refine sr_iload_n (i := 3) (q := 8) C (show decode cX12_paste 7 = .ok (.iload_n 3, 1) from by decide +kernel) rfl rfl rfl ?_
    refine sr_cSz (As := [.int v3]) (st := []) (q := 11) C ysX12_isSlot ml_X12_336 (cnX12_isSlot (xo κ) v3) rfl (by decide) (by decide) (Nat.le_of_ble_eq_true rfl) rfl (show decode cX12_paste 8 = .ok (.invokestatic 336, 3) from by decide +kernel) rfl (fun x8 => ?_)
    refine sr_if_ne (q := 14) C 17 (show decode cX12_paste 11 = .ok (.ifCond .ne 6, 3) from by decide +kernel) (by decide) rfl ?_ ?_
    · refine sr_aload_n (i := 0) (q := 18) C (show decode cX12_paste 17 = .ok (.aload_n 0, 1) from by decide +kernel) rfl rfl rfl ?_
      refine sr_getr (q := 21) C fl_X12_86 hv0 (show decode cX12_paste 18 = .ok (.getfield 86, 3) from by decide +kernel) rfl ?_
      refine sr_iload_n (i := 1) (q := 22) C (show decode cX12_paste 21 = .ok (.iload_n 1, 1) from by decide +kernel) rfl rfl rfl ?_
      refine sr_iaload (q := 23) C (kt hv0 kp_12_43) (show decode cX12_paste 22 = .ok (.iaload, 1) from by decide +kernel) rfl (fun x22 => ?_)
      refine sr_iconst (v := (-1 : Int32)) (q := 24) C (show decode cX12_paste 23 = .ok (.iconst (-1), 1) from by decide +kernel) (by decide) rfl ?_
      refine sr_icmp_eq (q := 27) C 37 (show decode cX12_paste 24 = .ok (.if_icmp .eq 13, 3) from by decide +kernel) (by decide) rfl ?_ ?_
      · refine sr_bipush (v := (-6 : Int32)) (q := 39) C (show decode cX12_paste 37 = .ok (.bipush (-6), 2) from by decide +kernel) (by decide) rfl ?_
        exact sr_ireturn C _ rfl (show decode cX12_paste 39 = .ok (.ireturn, 1) from by decide +kernel)
      · refine sr_aload_n (i := 0) (q := 28) C (show decode cX12_paste 27 = .ok (.aload_n 0, 1) from by decide +kernel) rfl rfl rfl ?_
        refine sr_getr (q := 31) C fl_X12_86 hv0 (show decode cX12_paste 28 = .ok (.getfield 86, 3) from by decide +kernel) rfl ?_
        refine sr_iload_n (i := 3) (q := 32) C (show decode cX12_paste 31 = .ok (.iload_n 3, 1) from by decide +kernel) rfl rfl rfl ?_
        refine sr_iaload (q := 33) C (kt hv0 kp_12_43) (show decode cX12_paste 32 = .ok (.iaload, 1) from by decide +kernel) rfl (fun x32 => ?_)
        refine sr_iconst (v := (-1 : Int32)) (q := 34) C (show decode cX12_paste 33 = .ok (.iconst (-1), 1) from by decide +kernel) (by decide) rfl ?_
        refine sr_icmp_ne (q := 37) C 40 (show decode cX12_paste 34 = .ok (.if_icmp .ne 6, 3) from by decide +kernel) (by decide) rfl ?_ ?_
        · refine sr_aload_n (i := 0) (q := 41) C (show decode cX12_paste 40 = .ok (.aload_n 0, 1) from by decide +kernel) rfl rfl rfl ?_
          refine sr_getr (q := 44) C fl_X12_89 hv0 (show decode cX12_paste 41 = .ok (.getfield 89, 3) from by decide +kernel) rfl ?_
          refine sr_iload_n (i := 1) (q := 45) C (show decode cX12_paste 44 = .ok (.iload_n 1, 1) from by decide +kernel) rfl rfl rfl ?_
          refine sr_iaload (q := 46) C (kt hv0 kp_12_44) (show decode cX12_paste 45 = .ok (.iaload, 1) from by decide +kernel) rfl (fun x45 => ?_)
          refine sr_aload_n (i := 0) (q := 47) C (show decode cX12_paste 46 = .ok (.aload_n 0, 1) from by decide +kernel) rfl rfl rfl ?_
          refine sr_getr (q := 50) C fl_X12_89 hv0 (show decode cX12_paste 47 = .ok (.getfield 89, 3) from by decide +kernel) rfl ?_
          refine sr_iload_n (i := 3) (q := 51) C (show decode cX12_paste 50 = .ok (.iload_n 3, 1) from by decide +kernel) rfl rfl rfl ?_
          refine sr_iaload (q := 52) C (kt hv0 kp_12_44) (show decode cX12_paste 51 = .ok (.iaload, 1) from by decide +kernel) rfl (fun x51 => ?_)
          refine sr_icmp_eq (q := 55) C 58 (show decode cX12_paste 52 = .ok (.if_icmp .eq 6, 3) from by decide +kernel) (by decide) rfl ?_ ?_
          · refine sr_iload_n (i := 2) (q := 59) C (show decode cX12_paste 58 = .ok (.iload_n 2, 1) from by decide +kernel) rfl rfl rfl ?_
            refine sr_if_lt (q := 62) C 107 (show decode cX12_paste 59 = .ok (.ifCond .lt 48, 3) from by decide +kernel) (by decide) rfl ?_ ?_
            · refine sr_bipush (v := (-7 : Int32)) (q := 109) C (show decode cX12_paste 107 = .ok (.bipush (-7), 2) from by decide +kernel) (by decide) rfl ?_
              exact sr_ireturn C _ rfl (show decode cX12_paste 109 = .ok (.ireturn, 1) from by decide +kernel)
            · refine sr_iload (i := 4) (q := 64) C (show decode cX12_paste 62 = .ok (.iload 4, 2) from by decide +kernel) rfl rfl ?_
              refine sr_if_lt (q := 67) C 107 (show decode cX12_paste 64 = .ok (.ifCond .lt 43, 3) from by decide +kernel) (by decide) rfl ?_ ?_
              · refine sr_bipush (v := (-7 : Int32)) (q := 109) C (show decode cX12_paste 107 = .ok (.bipush (-7), 2) from by decide +kernel) (by decide) rfl ?_
                exact sr_ireturn C _ rfl (show decode cX12_paste 109 = .ok (.ireturn, 1) from by decide +kernel)
              · refine sr_iload (i := 5) (q := 69) C (show decode cX12_paste 67 = .ok (.iload 5, 2) from by decide +kernel) rfl rfl ?_
                refine sr_if_lt (q := 72) C 107 (show decode cX12_paste 69 = .ok (.ifCond .lt 38, 3) from by decide +kernel) (by decide) rfl ?_ ?_
                · refine sr_bipush (v := (-7 : Int32)) (q := 109) C (show decode cX12_paste 107 = .ok (.bipush (-7), 2) from by decide +kernel) (by decide) rfl ?_
                  exact sr_ireturn C _ rfl (show decode cX12_paste 109 = .ok (.ireturn, 1) from by decide +kernel)
                · refine sr_iload_n (i := 2) (q := 73) C (show decode cX12_paste 72 = .ok (.iload_n 2, 1) from by decide +kernel) rfl rfl rfl ?_
                  refine sr_i2l (q := 74) C (show decode cX12_paste 73 = .ok (.i2l, 1) from by decide +kernel) rfl ?_
                  refine sr_iload (i := 5) (q := 76) C (show decode cX12_paste 74 = .ok (.iload 5, 2) from by decide +kernel) rfl rfl ?_
                  refine sr_i2l (q := 77) C (show decode cX12_paste 76 = .ok (.i2l, 1) from by decide +kernel) rfl ?_
                  refine sr_ladd (q := 78) C (show decode cX12_paste 77 = .ok (.ladd, 1) from by decide +kernel) rfl ?_
                  refine sr_aload_n (i := 0) (q := 79) C (show decode cX12_paste 78 = .ok (.aload_n 0, 1) from by decide +kernel) rfl rfl rfl ?_
                  refine sr_getr (q := 82) C fl_X12_86 hv0 (show decode cX12_paste 79 = .ok (.getfield 86, 3) from by decide +kernel) rfl ?_
                  refine sr_iload_n (i := 1) (q := 83) C (show decode cX12_paste 82 = .ok (.iload_n 1, 1) from by decide +kernel) rfl rfl rfl ?_
                  refine sr_iaload (q := 84) C (kt hv0 kp_12_43) (show decode cX12_paste 83 = .ok (.iaload, 1) from by decide +kernel) rfl (fun x83 => ?_)
                  refine sr_i2l (q := 85) C (show decode cX12_paste 84 = .ok (.i2l, 1) from by decide +kernel) rfl ?_
                  refine sr_lcmp (q := 86) C (show decode cX12_paste 85 = .ok (.lcmp, 1) from by decide +kernel) rfl ?_
                  refine sr_if_gt (q := 89) C 107 (show decode cX12_paste 86 = .ok (.ifCond .gt 21, 3) from by decide +kernel) (by decide) rfl ?_ ?_
                  · refine sr_bipush (v := (-7 : Int32)) (q := 109) C (show decode cX12_paste 107 = .ok (.bipush (-7), 2) from by decide +kernel) (by decide) rfl ?_
                    exact sr_ireturn C _ rfl (show decode cX12_paste 109 = .ok (.ireturn, 1) from by decide +kernel)
                  · refine sr_iload (i := 4) (q := 91) C (show decode cX12_paste 89 = .ok (.iload 4, 2) from by decide +kernel) rfl rfl ?_
                    refine sr_i2l (q := 92) C (show decode cX12_paste 91 = .ok (.i2l, 1) from by decide +kernel) rfl ?_
                    refine sr_iload (i := 5) (q := 94) C (show decode cX12_paste 92 = .ok (.iload 5, 2) from by decide +kernel) rfl rfl ?_
                    refine sr_i2l (q := 95) C (show decode cX12_paste 94 = .ok (.i2l, 1) from by decide +kernel) rfl ?_
                    refine sr_ladd (q := 96) C (show decode cX12_paste 95 = .ok (.ladd, 1) from by decide +kernel) rfl ?_
                    refine sr_aload_n (i := 0) (q := 97) C (show decode cX12_paste 96 = .ok (.aload_n 0, 1) from by decide +kernel) rfl rfl rfl ?_
                    refine sr_getr (q := 100) C fl_X12_86 hv0 (show decode cX12_paste 97 = .ok (.getfield 86, 3) from by decide +kernel) rfl ?_
                    refine sr_iload_n (i := 3) (q := 101) C (show decode cX12_paste 100 = .ok (.iload_n 3, 1) from by decide +kernel) rfl rfl rfl ?_
                    refine sr_iaload (q := 102) C (kt hv0 kp_12_43) (show decode cX12_paste 101 = .ok (.iaload, 1) from by decide +kernel) rfl (fun x101 => ?_)
                    refine sr_i2l (q := 103) C (show decode cX12_paste 102 = .ok (.i2l, 1) from by decide +kernel) rfl ?_
                    refine sr_lcmp (q := 104) C (show decode cX12_paste 103 = .ok (.lcmp, 1) from by decide +kernel) rfl ?_
                    refine sr_if_le (q := 107) C 110 (show decode cX12_paste 104 = .ok (.ifCond .le 6, 3) from by decide +kernel) (by decide) rfl ?_ ?_
                    · refine sr_iconst (v := (0 : Int32)) (q := 111) C (show decode cX12_paste 110 = .ok (.iconst 0, 1) from by decide +kernel) (by decide) rfl ?_
                      refine sr_istore (i := 6) (L' := [some (xad κ v0), some (.int v1), some (.int v2), some (.int v3), some (.int v4), some (.int v5), some (.int (0 : Int32))]) (q := 113) C (show decode cX12_paste 111 = .ok (.istore 6, 2) from by decide +kernel) (by decide) rfl rfl ?_
                      exact slX12_paste_L113 C 4096 v0 v1 v2 v3 v4 v5 (0 : Int32) hv0
                    · refine sr_bipush (v := (-7 : Int32)) (q := 109) C (show decode cX12_paste 107 = .ok (.bipush (-7), 2) from by decide +kernel) (by decide) rfl ?_
                      exact sr_ireturn C _ rfl (show decode cX12_paste 109 = .ok (.ireturn, 1) from by decide +kernel)
          · refine sr_bipush (v := (-8 : Int32)) (q := 57) C (show decode cX12_paste 55 = .ok (.bipush (-8), 2) from by decide +kernel) (by decide) rfl ?_
            exact sr_ireturn C _ rfl (show decode cX12_paste 57 = .ok (.ireturn, 1) from by decide +kernel)
        · refine sr_bipush (v := (-6 : Int32)) (q := 39) C (show decode cX12_paste 37 = .ok (.bipush (-6), 2) from by decide +kernel) (by decide) rfl ?_
          exact sr_ireturn C _ rfl (show decode cX12_paste 39 = .ok (.ireturn, 1) from by decide +kernel)
    · refine sr_bipush (v := (-2 : Int32)) (q := 16) C (show decode cX12_paste 14 = .ok (.bipush (-2), 2) from by decide +kernel) (by decide) rfl ?_
      exact sr_ireturn C _ rfl (show decode cX12_paste 16 = .ok (.ireturn, 1) from by decide +kernel)
theorem cnX12_paste (ω : sm_O) (v0 : Nat) (v1 : Int32) (v2 : Int32) (v3 : Int32) (v4 : Int32) (v5 : Int32) (hv0 : kd v0 = 12) : sm_Mt 3 yX12_paste cX12_paste 7 (some .int) ω [.ref (ω.1 + v0), .int v1, .int v2, .int v3, .int v4, .int v5] (fun a => some (.int a)) (fnX12_paste v0 v1 v2 v3 v4 v5) := by
  refine sm_conI (r := fun a => a) (by decide) (fun _ => rfl) (Nat.le_of_ble_eq_true rfl) ?_
  intro κ hκ C
  subst hκ
  exact slX12_paste C v0 v1 v2 v3 v4 v5 hv0
set_option maxRecDepth 100000 in
theorem yvX12_paste : sm_YV yX12_paste cX12_paste 7 (some .int) 5 := ⟨⟨lw_m (List.mem_of_getElem? (i := 2244) rfl) rfl, lw_m (List.mem_of_getElem? (i := 153) rfl) rfl, by decide +kernel, by decide +kernel, by decide +kernel⟩, lw_m (List.mem_of_getElem? (i := 2242) rfl) rfl, lw_m (List.mem_of_getElem? (i := 2243) rfl) rfl⟩
def fnX12_path (v0 : Nat) (v1 : Int32) (v2 : Int32) (v3 : Int32) (v4 : Int32) : sm_M Int32 := m_bnd (fnX12_isAsked v0 v1 v2 v3) fun x4 => m_br ((bI x4) = 0)
    (m_ret (-2 : Int32))
    (m_bnd (fnX12_finds v0 v1 v2 v3 (98 : Int32)) fun x19 => m_br ((bI x19) = 0)
    (m_ret (-1 : Int32))
    (m_gi v0 19 fun x30 => m_bnd (fnX12_in v4.toInt64 (0 : Int64) ((x30 - (1 : Int32)).toInt64)) fun x36 => m_br ((bI x36) = 0)
    (m_ret (-1 : Int32))
    (m_ai (lk v0 18) v4 fun x48 => m_ret x48)))
set_option maxHeartbeats 4000000 in
set_option maxRecDepth 100000 in
theorem slX12_path {κ : sm_X} (C : sm_C κ RX12 cX12_path 5 8) (v0 : Nat) (v1 : Int32) (v2 : Int32) (v3 : Int32) (v4 : Int32) (hv0 : kd v0 = 12) : sm_S κ (fun r : Int32 => .inr (some (.int r))) (.inl (0, [some (xad κ v0), some (.int v1), some (.int v2), some (.int v3), some (.int v4)], [])) (fnX12_path v0 v1 v2 v3 v4) := by
  unfold fnX12_path
  refine sr_aload_n (i := 0) (q := 1) C (show decode cX12_path 0 = .ok (.aload_n 0, 1) from by decide +kernel) rfl rfl rfl ?_
  refine sr_iload_n (i := 1) (q := 2) C (show decode cX12_path 1 = .ok (.iload_n 1, 1) from by decide +kernel) rfl rfl rfl ?_
  refine sr_iload_n (i := 2) (q := 3) C (show decode cX12_path 2 = .ok (.iload_n 2, 1) from by decide +kernel) rfl rfl rfl ?_
  refine sr_iload_n (i := 3) (q := 4) C (show decode cX12_path 3 = .ok (.iload_n 3, 1) from by decide +kernel) rfl rfl rfl ?_
  refine sr_cVz (As := [.int v1, .int v2, .int v3]) (st := []) (b := v0) (q := 7) C yvX12_isAsked ml_X12_310 (cnX12_isAsked (xo κ) v0 v1 v2 v3 hv0) hv0 (by decide) rfl rfl rfl (by decide) (by decide) (Nat.le_of_ble_eq_true rfl) rfl (show decode cX12_path 4 = .ok (.invokevirtual 310, 3) from by decide +kernel) rfl (fun x4 => ?_)
  refine sr_if_ne (q := 10) C 13 (show decode cX12_path 7 = .ok (.ifCond .ne 6, 3) from by decide +kernel) (by decide) rfl ?_ ?_
  · refine sr_aload_n (i := 0) (q := 14) C (show decode cX12_path 13 = .ok (.aload_n 0, 1) from by decide +kernel) rfl rfl rfl ?_
    refine sr_iload_n (i := 1) (q := 15) C (show decode cX12_path 14 = .ok (.iload_n 1, 1) from by decide +kernel) rfl rfl rfl ?_
    refine sr_iload_n (i := 2) (q := 16) C (show decode cX12_path 15 = .ok (.iload_n 2, 1) from by decide +kernel) rfl rfl rfl ?_
    refine sr_iload_n (i := 3) (q := 17) C (show decode cX12_path 16 = .ok (.iload_n 3, 1) from by decide +kernel) rfl rfl rfl ?_
    refine sr_bipush (v := (98 : Int32)) (q := 19) C (show decode cX12_path 17 = .ok (.bipush 98, 2) from by decide +kernel) (by decide) rfl ?_
    refine sr_cVz (As := [.int v1, .int v2, .int v3, .int (98 : Int32)]) (st := []) (b := v0) (q := 22) C yvX12_finds ml_X12_313 (cnX12_finds (xo κ) v0 v1 v2 v3 (98 : Int32) hv0) hv0 (by decide) rfl rfl rfl (by decide) (by decide) (Nat.le_of_ble_eq_true rfl) rfl (show decode cX12_path 19 = .ok (.invokevirtual 313, 3) from by decide +kernel) rfl (fun x19 => ?_)
    refine sr_if_eq (q := 25) C 52 (show decode cX12_path 22 = .ok (.ifCond .eq 30, 3) from by decide +kernel) (by decide) rfl ?_ ?_
    · refine sr_iconst (v := (-1 : Int32)) (q := 53) C (show decode cX12_path 52 = .ok (.iconst (-1), 1) from by decide +kernel) (by decide) rfl ?_
      exact sr_ireturn C _ rfl (show decode cX12_path 53 = .ok (.ireturn, 1) from by decide +kernel)
    · refine sr_iload (i := 4) (q := 27) C (show decode cX12_path 25 = .ok (.iload 4, 2) from by decide +kernel) rfl rfl ?_
      refine sr_i2l (q := 28) C (show decode cX12_path 27 = .ok (.i2l, 1) from by decide +kernel) rfl ?_
      refine sr_lconst (v := (0 : Int64)) (q := 29) C (show decode cX12_path 28 = .ok (.lconst 0, 1) from by decide +kernel) (by decide) rfl ?_
      refine sr_aload_n (i := 0) (q := 30) C (show decode cX12_path 29 = .ok (.aload_n 0, 1) from by decide +kernel) rfl rfl rfl ?_
      refine sr_geti (q := 33) C fl_X12_297 (Or.inl rfl) hv0 (show decode cX12_path 30 = .ok (.getfield 297, 3) from by decide +kernel) rfl (fun x30 => ?_)
      refine sr_iconst (v := (1 : Int32)) (q := 34) C (show decode cX12_path 33 = .ok (.iconst 1, 1) from by decide +kernel) (by decide) rfl ?_
      refine sr_isub (q := 35) C (show decode cX12_path 34 = .ok (.isub, 1) from by decide +kernel) rfl ?_
      refine sr_i2l (q := 36) C (show decode cX12_path 35 = .ok (.i2l, 1) from by decide +kernel) rfl ?_
      refine sr_cSz (As := [.long v4.toInt64, .long (0 : Int64), .long ((x30 - (1 : Int32)).toInt64)]) (st := []) (q := 39) C ysX12_in ml_X12_103 (cnX12_in (xo κ) v4.toInt64 (0 : Int64) ((x30 - (1 : Int32)).toInt64)) rfl (by decide) (by decide) (Nat.le_of_ble_eq_true rfl) rfl (show decode cX12_path 36 = .ok (.invokestatic 103, 3) from by decide +kernel) rfl (fun x36 => ?_)
      refine sr_if_eq (q := 42) C 52 (show decode cX12_path 39 = .ok (.ifCond .eq 13, 3) from by decide +kernel) (by decide) rfl ?_ ?_
      · refine sr_iconst (v := (-1 : Int32)) (q := 53) C (show decode cX12_path 52 = .ok (.iconst (-1), 1) from by decide +kernel) (by decide) rfl ?_
        exact sr_ireturn C _ rfl (show decode cX12_path 53 = .ok (.ireturn, 1) from by decide +kernel)
      · refine sr_aload_n (i := 0) (q := 43) C (show decode cX12_path 42 = .ok (.aload_n 0, 1) from by decide +kernel) rfl rfl rfl ?_
        refine sr_getr (q := 46) C fl_X12_43 hv0 (show decode cX12_path 43 = .ok (.getfield 43, 3) from by decide +kernel) rfl ?_
        refine sr_iload (i := 4) (q := 48) C (show decode cX12_path 46 = .ok (.iload 4, 2) from by decide +kernel) rfl rfl ?_
        refine sr_iaload (q := 49) C (kt hv0 kp_12_18) (show decode cX12_path 48 = .ok (.iaload, 1) from by decide +kernel) rfl (fun x48 => ?_)
        refine sr_goto (q := 53) C (show decode cX12_path 49 = .ok (.goto 4, 3) from by decide +kernel) (by decide) ?_
        exact sr_ireturn C _ rfl (show decode cX12_path 53 = .ok (.ireturn, 1) from by decide +kernel)
  · refine sr_bipush (v := (-2 : Int32)) (q := 12) C (show decode cX12_path 10 = .ok (.bipush (-2), 2) from by decide +kernel) (by decide) rfl ?_
    exact sr_ireturn C _ rfl (show decode cX12_path 12 = .ok (.ireturn, 1) from by decide +kernel)
theorem cnX12_path (ω : sm_O) (v0 : Nat) (v1 : Int32) (v2 : Int32) (v3 : Int32) (v4 : Int32) (hv0 : kd v0 = 12) : sm_Mt 8 yX12_path cX12_path 5 (some .int) ω [.ref (ω.1 + v0), .int v1, .int v2, .int v3, .int v4] (fun a => some (.int a)) (fnX12_path v0 v1 v2 v3 v4) := by
  refine sm_conI (r := fun a => a) (by decide) (fun _ => rfl) (Nat.le_of_ble_eq_true rfl) ?_
  intro κ hκ C
  subst hκ
  exact slX12_path C v0 v1 v2 v3 v4 hv0
set_option maxRecDepth 100000 in
theorem yvX12_path : sm_YV yX12_path cX12_path 5 (some .int) 4 := ⟨⟨lw_m (List.mem_of_getElem? (i := 1851) rfl) rfl, lw_m (List.mem_of_getElem? (i := 153) rfl) rfl, by decide +kernel, by decide +kernel, by decide +kernel⟩, lw_m (List.mem_of_getElem? (i := 1849) rfl) rfl, lw_m (List.mem_of_getElem? (i := 1850) rfl) rfl⟩
def fnX12_person (v0 : Nat) (v1 : Int32) (v2 : Int32) : sm_M Int32 := m_bnd (fnX12_isPerson v0 v1) fun x2 => m_br ((bI x2) = 0)
    (m_ret (-2 : Int32))
    (m_bnd (fnX12_in v2.toInt64 (0 : Int64) (2 : Int64)) fun x14 => m_br ((bI x14) = 0)
    (m_ret (-2 : Int32))
    (m_br (v2 = 0)
    (m_bnd (fnX12_of v0 v1 (6 : Int32)) fun x31 => m_ret x31)
    (m_br (v2 = (1 : Int32))
    (m_bnd (fnX12_of v0 v1 (5 : Int32)) fun x45 => m_ret x45)
    (m_bnd (fnX12_leads v0 v1) fun x53 => m_br ((bI x53) = 0)
    (m_bnd (fnX12_of v0 v1 (5 : Int32)) fun x66 => m_ret x66)
    (m_ret v1)))))
set_option maxHeartbeats 4000000 in
set_option maxRecDepth 100000 in
theorem slX12_person {κ : sm_X} (C : sm_C κ RX12 cX12_person 3 3) (v0 : Nat) (v1 : Int32) (v2 : Int32) (hv0 : kd v0 = 12) : sm_S κ (fun r : Int32 => .inr (some (.int r))) (.inl (0, [some (xad κ v0), some (.int v1), some (.int v2)], [])) (fnX12_person v0 v1 v2) := by
  unfold fnX12_person
  refine sr_aload_n (i := 0) (q := 1) C (show decode cX12_person 0 = .ok (.aload_n 0, 1) from by decide +kernel) rfl rfl rfl ?_
  refine sr_iload_n (i := 1) (q := 2) C (show decode cX12_person 1 = .ok (.iload_n 1, 1) from by decide +kernel) rfl rfl rfl ?_
  refine sr_cVz (As := [.int v1]) (st := []) (b := v0) (q := 5) C yvX12_isPerson ml_X12_322 (cnX12_isPerson (xo κ) v0 v1 hv0) hv0 (by decide) rfl rfl rfl (by decide) (by decide) (Nat.le_of_ble_eq_true rfl) rfl (show decode cX12_person 2 = .ok (.invokevirtual 322, 3) from by decide +kernel) rfl (fun x2 => ?_)
  refine sr_if_eq (q := 8) C 20 (show decode cX12_person 5 = .ok (.ifCond .eq 15, 3) from by decide +kernel) (by decide) rfl ?_ ?_
  · refine sr_bipush (v := (-2 : Int32)) (q := 22) C (show decode cX12_person 20 = .ok (.bipush (-2), 2) from by decide +kernel) (by decide) rfl ?_
    exact sr_ireturn C _ rfl (show decode cX12_person 22 = .ok (.ireturn, 1) from by decide +kernel)
  · refine sr_iload_n (i := 2) (q := 9) C (show decode cX12_person 8 = .ok (.iload_n 2, 1) from by decide +kernel) rfl rfl rfl ?_
    refine sr_i2l (q := 10) C (show decode cX12_person 9 = .ok (.i2l, 1) from by decide +kernel) rfl ?_
    refine sr_lconst (v := (0 : Int64)) (q := 11) C (show decode cX12_person 10 = .ok (.lconst 0, 1) from by decide +kernel) (by decide) rfl ?_
    refine sr_ldc2 (q := 14) C co_X12_101 (show decode cX12_person 11 = .ok (.ldc2_w 101, 3) from by decide +kernel) rfl ?_
    refine sr_cSz (As := [.long v2.toInt64, .long (0 : Int64), .long (2 : Int64)]) (st := []) (q := 17) C ysX12_in ml_X12_103 (cnX12_in (xo κ) v2.toInt64 (0 : Int64) (2 : Int64)) rfl (by decide) (by decide) (Nat.le_of_ble_eq_true rfl) rfl (show decode cX12_person 14 = .ok (.invokestatic 103, 3) from by decide +kernel) rfl (fun x14 => ?_)
    refine sr_if_ne (q := 20) C 23 (show decode cX12_person 17 = .ok (.ifCond .ne 6, 3) from by decide +kernel) (by decide) rfl ?_ ?_
    · refine sr_iload_n (i := 2) (q := 24) C (show decode cX12_person 23 = .ok (.iload_n 2, 1) from by decide +kernel) rfl rfl rfl ?_
      refine sr_if_ne (q := 27) C 37 (show decode cX12_person 24 = .ok (.ifCond .ne 13, 3) from by decide +kernel) (by decide) rfl ?_ ?_
      · refine sr_iload_n (i := 2) (q := 38) C (show decode cX12_person 37 = .ok (.iload_n 2, 1) from by decide +kernel) rfl rfl rfl ?_
        refine sr_iconst (v := (1 : Int32)) (q := 39) C (show decode cX12_person 38 = .ok (.iconst 1, 1) from by decide +kernel) (by decide) rfl ?_
        refine sr_icmp_ne (q := 42) C 51 (show decode cX12_person 39 = .ok (.if_icmp .ne 12, 3) from by decide +kernel) (by decide) rfl ?_ ?_
        · refine sr_aload_n (i := 0) (q := 52) C (show decode cX12_person 51 = .ok (.aload_n 0, 1) from by decide +kernel) rfl rfl rfl ?_
          refine sr_iload_n (i := 1) (q := 53) C (show decode cX12_person 52 = .ok (.iload_n 1, 1) from by decide +kernel) rfl rfl rfl ?_
          refine sr_cVz (As := [.int v1]) (st := []) (b := v0) (q := 56) C yvX12_leads ml_X12_351 (cnX12_leads (xo κ) v0 v1 hv0) hv0 (by decide) rfl rfl rfl (by decide) (by decide) (Nat.le_of_ble_eq_true rfl) rfl (show decode cX12_person 53 = .ok (.invokevirtual 351, 3) from by decide +kernel) rfl (fun x53 => ?_)
          refine sr_if_eq (q := 59) C 63 (show decode cX12_person 56 = .ok (.ifCond .eq 7, 3) from by decide +kernel) (by decide) rfl ?_ ?_
          · refine sr_aload_n (i := 0) (q := 64) C (show decode cX12_person 63 = .ok (.aload_n 0, 1) from by decide +kernel) rfl rfl rfl ?_
            refine sr_iload_n (i := 1) (q := 65) C (show decode cX12_person 64 = .ok (.iload_n 1, 1) from by decide +kernel) rfl rfl rfl ?_
            refine sr_iconst (v := (5 : Int32)) (q := 66) C (show decode cX12_person 65 = .ok (.iconst 5, 1) from by decide +kernel) (by decide) rfl ?_
            refine sr_cVi (As := [.int v1, .int (5 : Int32)]) (st := []) (b := v0) (q := 69) C yvX12_of ml_X12_289 (cnX12_of (xo κ) v0 v1 (5 : Int32) hv0) hv0 (by decide) rfl rfl rfl (by decide) (by decide) (Nat.le_of_ble_eq_true rfl) rfl (show decode cX12_person 66 = .ok (.invokevirtual 289, 3) from by decide +kernel) rfl (fun x66 => ?_)
            exact sr_ireturn C _ rfl (show decode cX12_person 69 = .ok (.ireturn, 1) from by decide +kernel)
          · refine sr_iload_n (i := 1) (q := 60) C (show decode cX12_person 59 = .ok (.iload_n 1, 1) from by decide +kernel) rfl rfl rfl ?_
            refine sr_goto (q := 69) C (show decode cX12_person 60 = .ok (.goto 9, 3) from by decide +kernel) (by decide) ?_
            exact sr_ireturn C _ rfl (show decode cX12_person 69 = .ok (.ireturn, 1) from by decide +kernel)
        · refine sr_aload_n (i := 0) (q := 43) C (show decode cX12_person 42 = .ok (.aload_n 0, 1) from by decide +kernel) rfl rfl rfl ?_
          refine sr_iload_n (i := 1) (q := 44) C (show decode cX12_person 43 = .ok (.iload_n 1, 1) from by decide +kernel) rfl rfl rfl ?_
          refine sr_iconst (v := (5 : Int32)) (q := 45) C (show decode cX12_person 44 = .ok (.iconst 5, 1) from by decide +kernel) (by decide) rfl ?_
          refine sr_cVi (As := [.int v1, .int (5 : Int32)]) (st := []) (b := v0) (q := 48) C yvX12_of ml_X12_289 (cnX12_of (xo κ) v0 v1 (5 : Int32) hv0) hv0 (by decide) rfl rfl rfl (by decide) (by decide) (Nat.le_of_ble_eq_true rfl) rfl (show decode cX12_person 45 = .ok (.invokevirtual 289, 3) from by decide +kernel) rfl (fun x45 => ?_)
          refine sr_goto (q := 69) C (show decode cX12_person 48 = .ok (.goto 21, 3) from by decide +kernel) (by decide) ?_
          exact sr_ireturn C _ rfl (show decode cX12_person 69 = .ok (.ireturn, 1) from by decide +kernel)
      · refine sr_aload_n (i := 0) (q := 28) C (show decode cX12_person 27 = .ok (.aload_n 0, 1) from by decide +kernel) rfl rfl rfl ?_
        refine sr_iload_n (i := 1) (q := 29) C (show decode cX12_person 28 = .ok (.iload_n 1, 1) from by decide +kernel) rfl rfl rfl ?_
        refine sr_bipush (v := (6 : Int32)) (q := 31) C (show decode cX12_person 29 = .ok (.bipush 6, 2) from by decide +kernel) (by decide) rfl ?_
        refine sr_cVi (As := [.int v1, .int (6 : Int32)]) (st := []) (b := v0) (q := 34) C yvX12_of ml_X12_289 (cnX12_of (xo κ) v0 v1 (6 : Int32) hv0) hv0 (by decide) rfl rfl rfl (by decide) (by decide) (Nat.le_of_ble_eq_true rfl) rfl (show decode cX12_person 31 = .ok (.invokevirtual 289, 3) from by decide +kernel) rfl (fun x31 => ?_)
        refine sr_goto (q := 69) C (show decode cX12_person 34 = .ok (.goto 35, 3) from by decide +kernel) (by decide) ?_
        exact sr_ireturn C _ rfl (show decode cX12_person 69 = .ok (.ireturn, 1) from by decide +kernel)
    · refine sr_bipush (v := (-2 : Int32)) (q := 22) C (show decode cX12_person 20 = .ok (.bipush (-2), 2) from by decide +kernel) (by decide) rfl ?_
      exact sr_ireturn C _ rfl (show decode cX12_person 22 = .ok (.ireturn, 1) from by decide +kernel)
theorem cnX12_person (ω : sm_O) (v0 : Nat) (v1 : Int32) (v2 : Int32) (hv0 : kd v0 = 12) : sm_Mt 3 yX12_person cX12_person 3 (some .int) ω [.ref (ω.1 + v0), .int v1, .int v2] (fun a => some (.int a)) (fnX12_person v0 v1 v2) := by
  refine sm_conI (r := fun a => a) (by decide) (fun _ => rfl) (Nat.le_of_ble_eq_true rfl) ?_
  intro κ hκ C
  subst hκ
  exact slX12_person C v0 v1 v2 hv0
set_option maxRecDepth 100000 in
theorem yvX12_person : sm_YV yX12_person cX12_person 3 (some .int) 2 := ⟨⟨lw_m (List.mem_of_getElem? (i := 1900) rfl) rfl, lw_m (List.mem_of_getElem? (i := 153) rfl) rfl, by decide +kernel, by decide +kernel, by decide +kernel⟩, lw_m (List.mem_of_getElem? (i := 1898) rfl) rfl, lw_m (List.mem_of_getElem? (i := 1899) rfl) rfl⟩
def fnX12_plankOf (v0 : Nat) (v1 : Int32) (v2 : Int32) (v3 : Int32) : sm_M Int32 := m_bnd (fnX12_squares v0 v1 v2) fun x3 => m_ai (lk v0 1) (6 : Int32) fun x12 => m_ai (lk v0 1) (6 : Int32) fun x19 => m_br (x3 ≤ (x12 * x19))
    (m_bnd (fnX12_fillNodes v0 (1 : Int32)) fun _ => m_bnd (fnX12_nodeOf v1) fun x34 => m_si v0 39 x34 <| m_bnd (fnX12_nodeOf v2) fun x42 => m_si v0 40 x42 <| m_bnd (fnX12_flow v0 v3) fun x50 => m_si v0 39 (-1 : Int32) <| m_si v0 40 (-1 : Int32) <| m_ret x50)
    (m_ret (-5 : Int32))
set_option maxHeartbeats 4000000 in
set_option maxRecDepth 100000 in
theorem slX12_plankOf {κ : sm_X} (C : sm_C κ RX12 cX12_plankOf 5 5) (v0 : Nat) (v1 : Int32) (v2 : Int32) (v3 : Int32) (hv0 : kd v0 = 12) : sm_S κ (fun r : Int32 => .inr (some (.int r))) (.inl (0, [some (xad κ v0), some (.int v1), some (.int v2), some (.int v3), none], [])) (fnX12_plankOf v0 v1 v2 v3) := by
  unfold fnX12_plankOf
  refine sr_aload_n (i := 0) (q := 1) C (show decode cX12_plankOf 0 = .ok (.aload_n 0, 1) from by decide +kernel) rfl rfl rfl ?_
  refine sr_iload_n (i := 1) (q := 2) C (show decode cX12_plankOf 1 = .ok (.iload_n 1, 1) from by decide +kernel) rfl rfl rfl ?_
  refine sr_iload_n (i := 2) (q := 3) C (show decode cX12_plankOf 2 = .ok (.iload_n 2, 1) from by decide +kernel) rfl rfl rfl ?_
  refine sr_cVi (As := [.int v1, .int v2]) (st := []) (b := v0) (q := 6) C yvX12_squares ml_X12_259 (cnX12_squares (xo κ) v0 v1 v2 hv0) hv0 (by decide) rfl rfl rfl (by decide) (by decide) (Nat.le_of_ble_eq_true rfl) rfl (show decode cX12_plankOf 3 = .ok (.invokevirtual 259, 3) from by decide +kernel) rfl (fun x3 => ?_)
  refine sr_aload_n (i := 0) (q := 7) C (show decode cX12_plankOf 6 = .ok (.aload_n 0, 1) from by decide +kernel) rfl rfl rfl ?_
  refine sr_getr (q := 10) C fl_X12_9 hv0 (show decode cX12_plankOf 7 = .ok (.getfield 9, 3) from by decide +kernel) rfl ?_
  refine sr_bipush (v := (6 : Int32)) (q := 12) C (show decode cX12_plankOf 10 = .ok (.bipush 6, 2) from by decide +kernel) (by decide) rfl ?_
  refine sr_iaload (q := 13) C (kt hv0 kp_12_1) (show decode cX12_plankOf 12 = .ok (.iaload, 1) from by decide +kernel) rfl (fun x12 => ?_)
  refine sr_aload_n (i := 0) (q := 14) C (show decode cX12_plankOf 13 = .ok (.aload_n 0, 1) from by decide +kernel) rfl rfl rfl ?_
  refine sr_getr (q := 17) C fl_X12_9 hv0 (show decode cX12_plankOf 14 = .ok (.getfield 9, 3) from by decide +kernel) rfl ?_
  refine sr_bipush (v := (6 : Int32)) (q := 19) C (show decode cX12_plankOf 17 = .ok (.bipush 6, 2) from by decide +kernel) (by decide) rfl ?_
  refine sr_iaload (q := 20) C (kt hv0 kp_12_1) (show decode cX12_plankOf 19 = .ok (.iaload, 1) from by decide +kernel) rfl (fun x19 => ?_)
  refine sr_imul (q := 21) C (show decode cX12_plankOf 20 = .ok (.imul, 1) from by decide +kernel) rfl ?_
  refine sr_icmp_le (q := 24) C 27 (show decode cX12_plankOf 21 = .ok (.if_icmp .le 6, 3) from by decide +kernel) (by decide) rfl ?_ ?_
  · refine sr_aload_n (i := 0) (q := 28) C (show decode cX12_plankOf 27 = .ok (.aload_n 0, 1) from by decide +kernel) rfl rfl rfl ?_
    refine sr_iconst (v := (1 : Int32)) (q := 29) C (show decode cX12_plankOf 28 = .ok (.iconst 1, 1) from by decide +kernel) (by decide) rfl ?_
    refine sr_cVv (As := [.int (1 : Int32)]) (st := []) (b := v0) (q := 32) C yvX12_fillNodes ml_X12_447 (cnX12_fillNodes (xo κ) v0 (1 : Int32) hv0) hv0 (by decide) rfl rfl rfl (by decide) (by decide) (Nat.le_of_ble_eq_true rfl) rfl (show decode cX12_plankOf 29 = .ok (.invokevirtual 447, 3) from by decide +kernel) rfl (fun _ => ?_)
    refine sr_aload_n (i := 0) (q := 33) C (show decode cX12_plankOf 32 = .ok (.aload_n 0, 1) from by decide +kernel) rfl rfl rfl ?_
    refine sr_iload_n (i := 1) (q := 34) C (show decode cX12_plankOf 33 = .ok (.iload_n 1, 1) from by decide +kernel) rfl rfl rfl ?_
    refine sr_cSi (As := [.int v1]) (st := [xad κ v0]) (q := 37) C ysX12_nodeOf ml_X12_473 (cnX12_nodeOf (xo κ) v1) rfl (by decide) (by decide) (Nat.le_of_ble_eq_true rfl) rfl (show decode cX12_plankOf 34 = .ok (.invokestatic 473, 3) from by decide +kernel) rfl (fun x34 => ?_)
    refine sr_puti (q := 40) C fp_X12_76 hv0 (show decode cX12_plankOf 37 = .ok (.putfield 76, 3) from by decide +kernel) rfl ?_
    refine sr_aload_n (i := 0) (q := 41) C (show decode cX12_plankOf 40 = .ok (.aload_n 0, 1) from by decide +kernel) rfl rfl rfl ?_
    refine sr_iload_n (i := 2) (q := 42) C (show decode cX12_plankOf 41 = .ok (.iload_n 2, 1) from by decide +kernel) rfl rfl rfl ?_
    refine sr_cSi (As := [.int v2]) (st := [xad κ v0]) (q := 45) C ysX12_nodeOf ml_X12_473 (cnX12_nodeOf (xo κ) v2) rfl (by decide) (by decide) (Nat.le_of_ble_eq_true rfl) rfl (show decode cX12_plankOf 42 = .ok (.invokestatic 473, 3) from by decide +kernel) rfl (fun x42 => ?_)
    refine sr_puti (q := 48) C fp_X12_79 hv0 (show decode cX12_plankOf 45 = .ok (.putfield 79, 3) from by decide +kernel) rfl ?_
    refine sr_aload_n (i := 0) (q := 49) C (show decode cX12_plankOf 48 = .ok (.aload_n 0, 1) from by decide +kernel) rfl rfl rfl ?_
    refine sr_iload_n (i := 3) (q := 50) C (show decode cX12_plankOf 49 = .ok (.iload_n 3, 1) from by decide +kernel) rfl rfl rfl ?_
    refine sr_cVi (As := [.int v3]) (st := []) (b := v0) (q := 53) C yvX12_flow ml_X12_450 (cnX12_flow (xo κ) v0 v3 hv0) hv0 (by decide) rfl rfl rfl (by decide) (by decide) (Nat.le_of_ble_eq_true rfl) rfl (show decode cX12_plankOf 50 = .ok (.invokevirtual 450, 3) from by decide +kernel) rfl (fun x50 => ?_)
    refine sr_istore (i := 4) (L' := [some (xad κ v0), some (.int v1), some (.int v2), some (.int v3), some (.int x50)]) (q := 55) C (show decode cX12_plankOf 53 = .ok (.istore 4, 2) from by decide +kernel) (by decide) rfl rfl ?_
    refine sr_aload_n (i := 0) (q := 56) C (show decode cX12_plankOf 55 = .ok (.aload_n 0, 1) from by decide +kernel) rfl rfl rfl ?_
    refine sr_iconst (v := (-1 : Int32)) (q := 57) C (show decode cX12_plankOf 56 = .ok (.iconst (-1), 1) from by decide +kernel) (by decide) rfl ?_
    refine sr_puti (q := 60) C fp_X12_76 hv0 (show decode cX12_plankOf 57 = .ok (.putfield 76, 3) from by decide +kernel) rfl ?_
    refine sr_aload_n (i := 0) (q := 61) C (show decode cX12_plankOf 60 = .ok (.aload_n 0, 1) from by decide +kernel) rfl rfl rfl ?_
    refine sr_iconst (v := (-1 : Int32)) (q := 62) C (show decode cX12_plankOf 61 = .ok (.iconst (-1), 1) from by decide +kernel) (by decide) rfl ?_
    refine sr_puti (q := 65) C fp_X12_79 hv0 (show decode cX12_plankOf 62 = .ok (.putfield 79, 3) from by decide +kernel) rfl ?_
    refine sr_iload (i := 4) (q := 67) C (show decode cX12_plankOf 65 = .ok (.iload 4, 2) from by decide +kernel) rfl rfl ?_
    exact sr_ireturn C _ rfl (show decode cX12_plankOf 67 = .ok (.ireturn, 1) from by decide +kernel)
  · refine sr_bipush (v := (-5 : Int32)) (q := 26) C (show decode cX12_plankOf 24 = .ok (.bipush (-5), 2) from by decide +kernel) (by decide) rfl ?_
    exact sr_ireturn C _ rfl (show decode cX12_plankOf 26 = .ok (.ireturn, 1) from by decide +kernel)
theorem cnX12_plankOf (ω : sm_O) (v0 : Nat) (v1 : Int32) (v2 : Int32) (v3 : Int32) (hv0 : kd v0 = 12) : sm_Mt 5 yX12_plankOf cX12_plankOf 5 (some .int) ω [.ref (ω.1 + v0), .int v1, .int v2, .int v3] (fun a => some (.int a)) (fnX12_plankOf v0 v1 v2 v3) := by
  refine sm_conI (r := fun a => a) (by decide) (fun _ => rfl) (Nat.le_of_ble_eq_true rfl) ?_
  intro κ hκ C
  subst hκ
  exact slX12_plankOf C v0 v1 v2 v3 hv0
set_option maxRecDepth 100000 in
theorem yvX12_plankOf : sm_YV yX12_plankOf cX12_plankOf 5 (some .int) 3 := ⟨⟨lw_m (List.mem_of_getElem? (i := 2102) rfl) rfl, lw_m (List.mem_of_getElem? (i := 153) rfl) rfl, by decide +kernel, by decide +kernel, by decide +kernel⟩, lw_m (List.mem_of_getElem? (i := 2101) rfl) rfl, lw_m (List.mem_of_getElem? (i := 125) rfl) rfl⟩
def fnX12_plank (v0 : Nat) (v1 : Int32) (v2 : Int32) (v3 : Int32) : sm_M Int32 := m_bnd (fnX12_isPlace v0 v1) fun x2 => m_br ((bI x2) = 0)
    (m_ret (-2 : Int32))
    (m_bnd (fnX12_isPlace v0 v2) fun x10 => m_br ((bI x10) = 0)
    (m_ret (-2 : Int32))
    (m_br (v1 = v2)
    (m_ret (-2 : Int32))
    (m_bnd (fnX12_isStride v3) fun x22 => m_br ((bI x22) = 0)
    (m_ret (-2 : Int32))
    (m_bnd (fnX12_plankOf v0 v1 v2 v3) fun x32 => m_ret x32))))
set_option maxHeartbeats 4000000 in
set_option maxRecDepth 100000 in
theorem slX12_plank {κ : sm_X} (C : sm_C κ RX12 cX12_plank 4 6) (v0 : Nat) (v1 : Int32) (v2 : Int32) (v3 : Int32) (hv0 : kd v0 = 12) : sm_S κ (fun r : Int32 => .inr (some (.int r))) (.inl (0, [some (xad κ v0), some (.int v1), some (.int v2), some (.int v3)], [])) (fnX12_plank v0 v1 v2 v3) := by
  unfold fnX12_plank
  refine sr_aload_n (i := 0) (q := 1) C (show decode cX12_plank 0 = .ok (.aload_n 0, 1) from by decide +kernel) rfl rfl rfl ?_
  refine sr_iload_n (i := 1) (q := 2) C (show decode cX12_plank 1 = .ok (.iload_n 1, 1) from by decide +kernel) rfl rfl rfl ?_
  refine sr_cVz (As := [.int v1]) (st := []) (b := v0) (q := 5) C yvX12_isPlace ml_X12_264 (cnX12_isPlace (xo κ) v0 v1 hv0) hv0 (by decide) rfl rfl rfl (by decide) (by decide) (Nat.le_of_ble_eq_true rfl) rfl (show decode cX12_plank 2 = .ok (.invokevirtual 264, 3) from by decide +kernel) rfl (fun x2 => ?_)
  refine sr_if_eq (q := 8) C 38 (show decode cX12_plank 5 = .ok (.ifCond .eq 33, 3) from by decide +kernel) (by decide) rfl ?_ ?_
  · refine sr_bipush (v := (-2 : Int32)) (q := 40) C (show decode cX12_plank 38 = .ok (.bipush (-2), 2) from by decide +kernel) (by decide) rfl ?_
    exact sr_ireturn C _ rfl (show decode cX12_plank 40 = .ok (.ireturn, 1) from by decide +kernel)
  · refine sr_aload_n (i := 0) (q := 9) C (show decode cX12_plank 8 = .ok (.aload_n 0, 1) from by decide +kernel) rfl rfl rfl ?_
    refine sr_iload_n (i := 2) (q := 10) C (show decode cX12_plank 9 = .ok (.iload_n 2, 1) from by decide +kernel) rfl rfl rfl ?_
    refine sr_cVz (As := [.int v2]) (st := []) (b := v0) (q := 13) C yvX12_isPlace ml_X12_264 (cnX12_isPlace (xo κ) v0 v2 hv0) hv0 (by decide) rfl rfl rfl (by decide) (by decide) (Nat.le_of_ble_eq_true rfl) rfl (show decode cX12_plank 10 = .ok (.invokevirtual 264, 3) from by decide +kernel) rfl (fun x10 => ?_)
    refine sr_if_eq (q := 16) C 38 (show decode cX12_plank 13 = .ok (.ifCond .eq 25, 3) from by decide +kernel) (by decide) rfl ?_ ?_
    · refine sr_bipush (v := (-2 : Int32)) (q := 40) C (show decode cX12_plank 38 = .ok (.bipush (-2), 2) from by decide +kernel) (by decide) rfl ?_
      exact sr_ireturn C _ rfl (show decode cX12_plank 40 = .ok (.ireturn, 1) from by decide +kernel)
    · refine sr_iload_n (i := 1) (q := 17) C (show decode cX12_plank 16 = .ok (.iload_n 1, 1) from by decide +kernel) rfl rfl rfl ?_
      refine sr_iload_n (i := 2) (q := 18) C (show decode cX12_plank 17 = .ok (.iload_n 2, 1) from by decide +kernel) rfl rfl rfl ?_
      refine sr_icmp_eq (q := 21) C 38 (show decode cX12_plank 18 = .ok (.if_icmp .eq 20, 3) from by decide +kernel) (by decide) rfl ?_ ?_
      · refine sr_bipush (v := (-2 : Int32)) (q := 40) C (show decode cX12_plank 38 = .ok (.bipush (-2), 2) from by decide +kernel) (by decide) rfl ?_
        exact sr_ireturn C _ rfl (show decode cX12_plank 40 = .ok (.ireturn, 1) from by decide +kernel)
      · refine sr_iload_n (i := 3) (q := 22) C (show decode cX12_plank 21 = .ok (.iload_n 3, 1) from by decide +kernel) rfl rfl rfl ?_
        refine sr_cSz (As := [.int v3]) (st := []) (q := 25) C ysX12_isStride ml_X12_267 (cnX12_isStride (xo κ) v3) rfl (by decide) (by decide) (Nat.le_of_ble_eq_true rfl) rfl (show decode cX12_plank 22 = .ok (.invokestatic 267, 3) from by decide +kernel) rfl (fun x22 => ?_)
        refine sr_if_eq (q := 28) C 38 (show decode cX12_plank 25 = .ok (.ifCond .eq 13, 3) from by decide +kernel) (by decide) rfl ?_ ?_
        · refine sr_bipush (v := (-2 : Int32)) (q := 40) C (show decode cX12_plank 38 = .ok (.bipush (-2), 2) from by decide +kernel) (by decide) rfl ?_
          exact sr_ireturn C _ rfl (show decode cX12_plank 40 = .ok (.ireturn, 1) from by decide +kernel)
        · refine sr_aload_n (i := 0) (q := 29) C (show decode cX12_plank 28 = .ok (.aload_n 0, 1) from by decide +kernel) rfl rfl rfl ?_
          refine sr_iload_n (i := 1) (q := 30) C (show decode cX12_plank 29 = .ok (.iload_n 1, 1) from by decide +kernel) rfl rfl rfl ?_
          refine sr_iload_n (i := 2) (q := 31) C (show decode cX12_plank 30 = .ok (.iload_n 2, 1) from by decide +kernel) rfl rfl rfl ?_
          refine sr_iload_n (i := 3) (q := 32) C (show decode cX12_plank 31 = .ok (.iload_n 3, 1) from by decide +kernel) rfl rfl rfl ?_
          refine sr_cVi (As := [.int v1, .int v2, .int v3]) (st := []) (b := v0) (q := 35) C yvX12_plankOf ml_X12_476 (cnX12_plankOf (xo κ) v0 v1 v2 v3 hv0) hv0 (by decide) rfl rfl rfl (by decide) (by decide) (Nat.le_of_ble_eq_true rfl) rfl (show decode cX12_plank 32 = .ok (.invokevirtual 476, 3) from by decide +kernel) rfl (fun x32 => ?_)
          refine sr_goto (q := 40) C (show decode cX12_plank 35 = .ok (.goto 5, 3) from by decide +kernel) (by decide) ?_
          exact sr_ireturn C _ rfl (show decode cX12_plank 40 = .ok (.ireturn, 1) from by decide +kernel)
theorem cnX12_plank (ω : sm_O) (v0 : Nat) (v1 : Int32) (v2 : Int32) (v3 : Int32) (hv0 : kd v0 = 12) : sm_Mt 6 yX12_plank cX12_plank 4 (some .int) ω [.ref (ω.1 + v0), .int v1, .int v2, .int v3] (fun a => some (.int a)) (fnX12_plank v0 v1 v2 v3) := by
  refine sm_conI (r := fun a => a) (by decide) (fun _ => rfl) (Nat.le_of_ble_eq_true rfl) ?_
  intro κ hκ C
  subst hκ
  exact slX12_plank C v0 v1 v2 v3 hv0
set_option maxRecDepth 100000 in
theorem yvX12_plank : sm_YV yX12_plank cX12_plank 4 (some .int) 3 := ⟨⟨lw_m (List.mem_of_getElem? (i := 2098) rfl) rfl, lw_m (List.mem_of_getElem? (i := 153) rfl) rfl, by decide +kernel, by decide +kernel, by decide +kernel⟩, lw_m (List.mem_of_getElem? (i := 2096) rfl) rfl, lw_m (List.mem_of_getElem? (i := 2097) rfl) rfl⟩
def fnX12_planks_J104 (k24 : Nat → Int32 → Int32 → Int32 → Int32 → sm_M Int32) (v0 : Nat) (v1 : Int32) (v2 : Int32) (v3 : Int32) (v4 : Int32) : sm_M Int32 := k24 v0 v1 v2 v3 (v4 + (1 : Int32))
set_option maxHeartbeats 4000000 in
set_option maxRecDepth 100000 in
theorem slX12_planks_J104 {κ : sm_X} (C : sm_C κ RX12 cX12_planks 7 6) {k24 : Nat → Int32 → Int32 → Int32 → Int32 → sm_M Int32} (K24 : ∀ (v0 : Nat) (v1 : Int32) (v2 : Int32) (v3 : Int32) (v4 : Int32) (hv0 : kd v0 = 12), sm_S κ (fun r : Int32 => .inr (some (.int r))) (.inl (24, [some (xad κ v0), some (.int v1), some (.int v2), some (.int v3), some (.int v4), none, none], [])) (k24 v0 v1 v2 v3 v4)) (v0 : Nat) (v1 : Int32) (v2 : Int32) (v3 : Int32) (v4 : Int32) (hv0 : kd v0 = 12) : sm_S κ (fun r : Int32 => .inr (some (.int r))) (.inl (104, [some (xad κ v0), some (.int v1), some (.int v2), some (.int v3), some (.int v4), none, none], [])) (fnX12_planks_J104 k24 v0 v1 v2 v3 v4) := by
  unfold fnX12_planks_J104
  refine sr_iinc (v := v4 + (1 : Int32)) (L' := [some (xad κ v0), some (.int v1), some (.int v2), some (.int v3), some (.int (v4 + (1 : Int32))), none, none]) (q := 107) C (show decode cX12_planks 104 = .ok (.iinc 4 1, 3) from by decide +kernel) rfl rfl (by decide) rfl rfl ?_
  refine sr_goto (q := 24) C (show decode cX12_planks 107 = .ok (.goto (-83), 3) from by decide +kernel) (by decide) ?_
  exact K24 v0 v1 v2 v3 (v4 + (1 : Int32)) hv0
def fnX12_planks_J98 (k24 : Nat → Int32 → Int32 → Int32 → Int32 → sm_M Int32) (k37 : Nat → Int32 → Int32 → Int32 → Int32 → Int32 → sm_M Int32) (v0 : Nat) (v1 : Int32) (v2 : Int32) (v3 : Int32) (v4 : Int32) (v5 : Int32) : sm_M Int32 := k37 v0 v1 v2 v3 v4 (v5 + (1 : Int32))
set_option maxHeartbeats 4000000 in
set_option maxRecDepth 100000 in
theorem slX12_planks_J98 {κ : sm_X} (C : sm_C κ RX12 cX12_planks 7 6) {k24 : Nat → Int32 → Int32 → Int32 → Int32 → sm_M Int32} (K24 : ∀ (v0 : Nat) (v1 : Int32) (v2 : Int32) (v3 : Int32) (v4 : Int32) (hv0 : kd v0 = 12), sm_S κ (fun r : Int32 => .inr (some (.int r))) (.inl (24, [some (xad κ v0), some (.int v1), some (.int v2), some (.int v3), some (.int v4), none, none], [])) (k24 v0 v1 v2 v3 v4)) {k37 : Nat → Int32 → Int32 → Int32 → Int32 → Int32 → sm_M Int32} (K37 : ∀ (v0 : Nat) (v1 : Int32) (v2 : Int32) (v3 : Int32) (v4 : Int32) (v5 : Int32) (hv0 : kd v0 = 12), sm_S κ (fun r : Int32 => .inr (some (.int r))) (.inl (37, [some (xad κ v0), some (.int v1), some (.int v2), some (.int v3), some (.int v4), some (.int v5), none], [])) (k37 v0 v1 v2 v3 v4 v5)) (v0 : Nat) (v1 : Int32) (v2 : Int32) (v3 : Int32) (v4 : Int32) (v5 : Int32) (hv0 : kd v0 = 12) : sm_S κ (fun r : Int32 => .inr (some (.int r))) (.inl (98, [some (xad κ v0), some (.int v1), some (.int v2), some (.int v3), some (.int v4), some (.int v5), none], [])) (fnX12_planks_J98 k24 k37 v0 v1 v2 v3 v4 v5) := by
  unfold fnX12_planks_J98
  refine sr_iinc (v := v5 + (1 : Int32)) (L' := [some (xad κ v0), some (.int v1), some (.int v2), some (.int v3), some (.int v4), some (.int (v5 + (1 : Int32))), none]) (q := 101) C (show decode cX12_planks 98 = .ok (.iinc 5 1, 3) from by decide +kernel) rfl rfl (by decide) rfl rfl ?_
  refine sr_goto (q := 37) C (show decode cX12_planks 101 = .ok (.goto (-64), 3) from by decide +kernel) (by decide) ?_
  exact K37 v0 v1 v2 v3 v4 (v5 + (1 : Int32)) hv0
def fnX12_planks_J75 (k24 : Nat → Int32 → Int32 → Int32 → Int32 → sm_M Int32) (k37 : Nat → Int32 → Int32 → Int32 → Int32 → Int32 → sm_M Int32) (v0 : Nat) (v1 : Int32) (v2 : Int32) (v3 : Int32) (v4 : Int32) (v5 : Int32) (s0 : Int32) : sm_M Int32 := m_br (v3 < s0)
    (m_nm (((100 : Int32) * v4) + v5) fun y94 => fnX12_planks_J98 k24 k37 v0 v1 y94 s0 v4 v5)
    (fnX12_planks_J98 k24 k37 v0 v1 v2 v3 v4 v5)
set_option maxHeartbeats 4000000 in
set_option maxRecDepth 100000 in
theorem slX12_planks_J75 {κ : sm_X} (C : sm_C κ RX12 cX12_planks 7 6) {k24 : Nat → Int32 → Int32 → Int32 → Int32 → sm_M Int32} (K24 : ∀ (v0 : Nat) (v1 : Int32) (v2 : Int32) (v3 : Int32) (v4 : Int32) (hv0 : kd v0 = 12), sm_S κ (fun r : Int32 => .inr (some (.int r))) (.inl (24, [some (xad κ v0), some (.int v1), some (.int v2), some (.int v3), some (.int v4), none, none], [])) (k24 v0 v1 v2 v3 v4)) {k37 : Nat → Int32 → Int32 → Int32 → Int32 → Int32 → sm_M Int32} (K37 : ∀ (v0 : Nat) (v1 : Int32) (v2 : Int32) (v3 : Int32) (v4 : Int32) (v5 : Int32) (hv0 : kd v0 = 12), sm_S κ (fun r : Int32 => .inr (some (.int r))) (.inl (37, [some (xad κ v0), some (.int v1), some (.int v2), some (.int v3), some (.int v4), some (.int v5), none], [])) (k37 v0 v1 v2 v3 v4 v5)) (v0 : Nat) (v1 : Int32) (v2 : Int32) (v3 : Int32) (v4 : Int32) (v5 : Int32) (s0 : Int32) (hv0 : kd v0 = 12) : sm_S κ (fun r : Int32 => .inr (some (.int r))) (.inl (75, [some (xad κ v0), some (.int v1), some (.int v2), some (.int v3), some (.int v4), some (.int v5), none], [.int s0])) (fnX12_planks_J75 k24 k37 v0 v1 v2 v3 v4 v5 s0) := by
  unfold fnX12_planks_J75
  refine sr_istore (i := 6) (L' := [some (xad κ v0), some (.int v1), some (.int v2), some (.int v3), some (.int v4), some (.int v5), some (.int s0)]) (q := 77) C (show decode cX12_planks 75 = .ok (.istore 6, 2) from by decide +kernel) (by decide) rfl rfl ?_
  refine sr_iload (i := 6) (q := 79) C (show decode cX12_planks 77 = .ok (.iload 6, 2) from by decide +kernel) rfl rfl ?_
  refine sr_iload_n (i := 3) (q := 80) C (show decode cX12_planks 79 = .ok (.iload_n 3, 1) from by decide +kernel) rfl rfl rfl ?_
  refine sr_icmp_gt (q := 83) C 86 (show decode cX12_planks 80 = .ok (.if_icmp .gt 6, 3) from by decide +kernel) (by decide) rfl ?_ ?_
  · refine sr_bipush (v := (100 : Int32)) (q := 88) C (show decode cX12_planks 86 = .ok (.bipush 100, 2) from by decide +kernel) (by decide) rfl ?_
    refine sr_iload (i := 4) (q := 90) C (show decode cX12_planks 88 = .ok (.iload 4, 2) from by decide +kernel) rfl rfl ?_
    refine sr_imul (q := 91) C (show decode cX12_planks 90 = .ok (.imul, 1) from by decide +kernel) rfl ?_
    refine sr_iload (i := 5) (q := 93) C (show decode cX12_planks 91 = .ok (.iload 5, 2) from by decide +kernel) rfl rfl ?_
    refine sr_iadd (q := 94) C (show decode cX12_planks 93 = .ok (.iadd, 1) from by decide +kernel) rfl ?_
    refine sr_nmi (fun y94 => ?_)
    refine sr_istore_n (i := 2) (L' := [some (xad κ v0), some (.int v1), some (.int y94), some (.int v3), some (.int v4), some (.int v5), some (.int s0)]) (q := 95) C (show decode cX12_planks 94 = .ok (.istore_n 2, 1) from by decide +kernel) rfl (by decide) rfl rfl ?_
    refine sr_iload (i := 6) (q := 97) C (show decode cX12_planks 95 = .ok (.iload 6, 2) from by decide +kernel) rfl rfl ?_
    refine sr_istore_n (i := 3) (L' := [some (xad κ v0), some (.int v1), some (.int y94), some (.int s0), some (.int v4), some (.int v5), some (.int s0)]) (q := 98) C (show decode cX12_planks 97 = .ok (.istore_n 3, 1) from by decide +kernel) rfl (by decide) rfl rfl ?_
    refine sr_weak (L' := [some (xad κ v0), some (.int v1), some (.int y94), some (.int s0), some (.int v4), some (.int v5), none]) ⟨rfl, rfl, rfl, rfl, rfl, rfl, trivial⟩ ?_
    exact slX12_planks_J98 C K24 K37 v0 v1 y94 s0 v4 v5 hv0
  · refine sr_goto (q := 98) C (show decode cX12_planks 83 = .ok (.goto 15, 3) from by decide +kernel) (by decide) ?_
    refine sr_weak (L' := [some (xad κ v0), some (.int v1), some (.int v2), some (.int v3), some (.int v4), some (.int v5), none]) ⟨rfl, rfl, rfl, rfl, rfl, rfl, trivial⟩ ?_
    exact slX12_planks_J98 C K24 K37 v0 v1 v2 v3 v4 v5 hv0
def fnX12_planks_L37 (k24 : Nat → Int32 → Int32 → Int32 → Int32 → sm_M Int32) : Nat → Nat → Int32 → Int32 → Int32 → Int32 → Int32 → sm_M Int32
  | 0, _, _, _, _, _, _ => m_fail
  | n + 1, v0, v1, v2, v3, v4, v5 => m_br ((99 : Int32) < v5)
    (fnX12_planks_J104 k24 v0 v1 v2 v3 v4)
    (m_bnd (fnX12_isPlace v0 v4) fun x47 => m_br ((bI x47) = 0)
    (fnX12_planks_J104 k24 v0 v1 v2 v3 v4)
    (m_bnd (fnX12_isPlace v0 v5) fun x56 => m_br ((bI x56) = 0)
    (fnX12_planks_J75 k24 (fnX12_planks_L37 k24 n) v0 v1 v2 v3 v4 v5 (-1 : Int32))
    (m_bnd (fnX12_plankOf v0 v4 v5 v1) fun x68 => fnX12_planks_J75 k24 (fnX12_planks_L37 k24 n) v0 v1 v2 v3 v4 v5 x68)))
set_option maxHeartbeats 4000000 in
set_option maxRecDepth 100000 in
theorem slX12_planks_L37 {κ : sm_X} (C : sm_C κ RX12 cX12_planks 7 6) {k24 : Nat → Int32 → Int32 → Int32 → Int32 → sm_M Int32} (K24 : ∀ (v0 : Nat) (v1 : Int32) (v2 : Int32) (v3 : Int32) (v4 : Int32) (hv0 : kd v0 = 12), sm_S κ (fun r : Int32 => .inr (some (.int r))) (.inl (24, [some (xad κ v0), some (.int v1), some (.int v2), some (.int v3), some (.int v4), none, none], [])) (k24 v0 v1 v2 v3 v4)) : ∀ (n : Nat) (v0 : Nat) (v1 : Int32) (v2 : Int32) (v3 : Int32) (v4 : Int32) (v5 : Int32) (hv0 : kd v0 = 12), sm_S κ (fun r : Int32 => .inr (some (.int r))) (.inl (37, [some (xad κ v0), some (.int v1), some (.int v2), some (.int v3), some (.int v4), some (.int v5), none], [])) (fnX12_planks_L37 k24 n v0 v1 v2 v3 v4 v5) := by
  intro n
  induction n with
  | zero =>
    intros
    exact sr_fail
  | succ n K37 =>
    intro v0 v1 v2 v3 v4 v5 hv0
    unfold fnX12_planks_L37
    refine sr_iload (i := 5) (q := 39) C (show decode cX12_planks 37 = .ok (.iload 5, 2) from by decide +kernel) rfl rfl ?_
    refine sr_bipush (v := (99 : Int32)) (q := 41) C (show decode cX12_planks 39 = .ok (.bipush 99, 2) from by decide +kernel) (by decide) rfl ?_
    refine sr_icmp_gt (q := 44) C 104 (show decode cX12_planks 41 = .ok (.if_icmp .gt 63, 3) from by decide +kernel) (by decide) rfl ?_ ?_
    · refine sr_weak (L' := [some (xad κ v0), some (.int v1), some (.int v2), some (.int v3), some (.int v4), none, none]) ⟨rfl, rfl, rfl, rfl, rfl, trivial⟩ ?_
      exact slX12_planks_J104 C K24 v0 v1 v2 v3 v4 hv0
    · refine sr_aload_n (i := 0) (q := 45) C (show decode cX12_planks 44 = .ok (.aload_n 0, 1) from by decide +kernel) rfl rfl rfl ?_
      refine sr_iload (i := 4) (q := 47) C (show decode cX12_planks 45 = .ok (.iload 4, 2) from by decide +kernel) rfl rfl ?_
      refine sr_cVz (As := [.int v4]) (st := []) (b := v0) (q := 50) C yvX12_isPlace ml_X12_264 (cnX12_isPlace (xo κ) v0 v4 hv0) hv0 (by decide) rfl rfl rfl (by decide) (by decide) (Nat.le_of_ble_eq_true rfl) rfl (show decode cX12_planks 47 = .ok (.invokevirtual 264, 3) from by decide +kernel) rfl (fun x47 => ?_)
      refine sr_if_eq (q := 53) C 104 (show decode cX12_planks 50 = .ok (.ifCond .eq 54, 3) from by decide +kernel) (by decide) rfl ?_ ?_
      · refine sr_weak (L' := [some (xad κ v0), some (.int v1), some (.int v2), some (.int v3), some (.int v4), none, none]) ⟨rfl, rfl, rfl, rfl, rfl, trivial⟩ ?_
        exact slX12_planks_J104 C K24 v0 v1 v2 v3 v4 hv0
      · refine sr_aload_n (i := 0) (q := 54) C (show decode cX12_planks 53 = .ok (.aload_n 0, 1) from by decide +kernel) rfl rfl rfl ?_
        refine sr_iload (i := 5) (q := 56) C (show decode cX12_planks 54 = .ok (.iload 5, 2) from by decide +kernel) rfl rfl ?_
        refine sr_cVz (As := [.int v5]) (st := []) (b := v0) (q := 59) C yvX12_isPlace ml_X12_264 (cnX12_isPlace (xo κ) v0 v5 hv0) hv0 (by decide) rfl rfl rfl (by decide) (by decide) (Nat.le_of_ble_eq_true rfl) rfl (show decode cX12_planks 56 = .ok (.invokevirtual 264, 3) from by decide +kernel) rfl (fun x56 => ?_)
        refine sr_if_eq (q := 62) C 74 (show decode cX12_planks 59 = .ok (.ifCond .eq 15, 3) from by decide +kernel) (by decide) rfl ?_ ?_
        · refine sr_iconst (v := (-1 : Int32)) (q := 75) C (show decode cX12_planks 74 = .ok (.iconst (-1), 1) from by decide +kernel) (by decide) rfl ?_
          exact slX12_planks_J75 C K24 K37 v0 v1 v2 v3 v4 v5 (-1 : Int32) hv0
        · refine sr_aload_n (i := 0) (q := 63) C (show decode cX12_planks 62 = .ok (.aload_n 0, 1) from by decide +kernel) rfl rfl rfl ?_
          refine sr_iload (i := 4) (q := 65) C (show decode cX12_planks 63 = .ok (.iload 4, 2) from by decide +kernel) rfl rfl ?_
          refine sr_iload (i := 5) (q := 67) C (show decode cX12_planks 65 = .ok (.iload 5, 2) from by decide +kernel) rfl rfl ?_
          refine sr_iload_n (i := 1) (q := 68) C (show decode cX12_planks 67 = .ok (.iload_n 1, 1) from by decide +kernel) rfl rfl rfl ?_
          refine sr_cVi (As := [.int v4, .int v5, .int v1]) (st := []) (b := v0) (q := 71) C yvX12_plankOf ml_X12_476 (cnX12_plankOf (xo κ) v0 v4 v5 v1 hv0) hv0 (by decide) rfl rfl rfl (by decide) (by decide) (Nat.le_of_ble_eq_true rfl) rfl (show decode cX12_planks 68 = .ok (.invokevirtual 476, 3) from by decide +kernel) rfl (fun x68 => ?_)
          refine sr_goto (q := 75) C (show decode cX12_planks 71 = .ok (.goto 4, 3) from by decide +kernel) (by decide) ?_
          exact slX12_planks_J75 C K24 K37 v0 v1 v2 v3 v4 v5 x68 hv0
def fnX12_planks_L24 : Nat → Nat → Int32 → Int32 → Int32 → Int32 → sm_M Int32
  | 0, _, _, _, _, _ => m_fail
  | n + 1, v0, v1, v2, v3, v4 => m_br ((99 : Int32) ≤ v4)
    (m_ret v2)
    (m_nm (v4 + (1 : Int32)) fun y35 => fnX12_planks_L37 (fnX12_planks_L24 n) 4096 v0 v1 v2 v3 v4 y35)
set_option maxHeartbeats 4000000 in
set_option maxRecDepth 100000 in
theorem slX12_planks_L24 {κ : sm_X} (C : sm_C κ RX12 cX12_planks 7 6) : ∀ (n : Nat) (v0 : Nat) (v1 : Int32) (v2 : Int32) (v3 : Int32) (v4 : Int32) (hv0 : kd v0 = 12), sm_S κ (fun r : Int32 => .inr (some (.int r))) (.inl (24, [some (xad κ v0), some (.int v1), some (.int v2), some (.int v3), some (.int v4), none, none], [])) (fnX12_planks_L24 n v0 v1 v2 v3 v4) := by
  intro n
  induction n with
  | zero =>
    intros
    exact sr_fail
  | succ n K24 =>
    intro v0 v1 v2 v3 v4 hv0
    unfold fnX12_planks_L24
    refine sr_iload (i := 4) (q := 26) C (show decode cX12_planks 24 = .ok (.iload 4, 2) from by decide +kernel) rfl rfl ?_
    refine sr_bipush (v := (99 : Int32)) (q := 28) C (show decode cX12_planks 26 = .ok (.bipush 99, 2) from by decide +kernel) (by decide) rfl ?_
    refine sr_icmp_ge (q := 31) C 110 (show decode cX12_planks 28 = .ok (.if_icmp .ge 82, 3) from by decide +kernel) (by decide) rfl ?_ ?_
    · refine sr_iload_n (i := 2) (q := 111) C (show decode cX12_planks 110 = .ok (.iload_n 2, 1) from by decide +kernel) rfl rfl rfl ?_
      exact sr_ireturn C _ rfl (show decode cX12_planks 111 = .ok (.ireturn, 1) from by decide +kernel)
    · refine sr_iload (i := 4) (q := 33) C (show decode cX12_planks 31 = .ok (.iload 4, 2) from by decide +kernel) rfl rfl ?_
      refine sr_iconst (v := (1 : Int32)) (q := 34) C (show decode cX12_planks 33 = .ok (.iconst 1, 1) from by decide +kernel) (by decide) rfl ?_
      refine sr_iadd (q := 35) C (show decode cX12_planks 34 = .ok (.iadd, 1) from by decide +kernel) rfl ?_
      refine sr_nmi (fun y35 => ?_)
      refine sr_istore (i := 5) (L' := [some (xad κ v0), some (.int v1), some (.int v2), some (.int v3), some (.int v4), some (.int y35), none]) (q := 37) C (show decode cX12_planks 35 = .ok (.istore 5, 2) from by decide +kernel) (by decide) rfl rfl ?_
      exact slX12_planks_L37 C K24 4096 v0 v1 v2 v3 v4 y35 hv0
def fnX12_planks (v0 : Nat) (v1 : Int32) : sm_M Int32 := m_bnd (fnX12_isRiver v0) fun x1 => m_br ((bI x1) = 0)
    (m_ret (-2 : Int32))
    (m_bnd (fnX12_isStride v1) fun x8 => m_br ((bI x8) = 0)
    (m_ret (-2 : Int32))
    (fnX12_planks_L24 4096 v0 v1 (-1 : Int32) (-1 : Int32) (0 : Int32)))
set_option maxHeartbeats 4000000 in
set_option maxRecDepth 100000 in
theorem slX12_planks {κ : sm_X} (C : sm_C κ RX12 cX12_planks 7 6) (v0 : Nat) (v1 : Int32) (hv0 : kd v0 = 12) : sm_S κ (fun r : Int32 => .inr (some (.int r))) (.inl (0, [some (xad κ v0), some (.int v1), none, none, none, none, none], [])) (fnX12_planks v0 v1) := by
  unfold fnX12_planks
  refine sr_aload_n (i := 0) (q := 1) C (show decode cX12_planks 0 = .ok (.aload_n 0, 1) from by decide +kernel) rfl rfl rfl ?_
  refine sr_cVz (As := []) (st := []) (b := v0) (q := 4) C yvX12_isRiver ml_X12_107 (cnX12_isRiver (xo κ) v0 hv0) hv0 (by decide) rfl rfl rfl (by decide) (by decide) (Nat.le_of_ble_eq_true rfl) rfl (show decode cX12_planks 1 = .ok (.invokevirtual 107, 3) from by decide +kernel) rfl (fun x1 => ?_)
  refine sr_if_eq (q := 7) C 14 (show decode cX12_planks 4 = .ok (.ifCond .eq 10, 3) from by decide +kernel) (by decide) rfl ?_ ?_
  · refine sr_bipush (v := (-2 : Int32)) (q := 16) C (show decode cX12_planks 14 = .ok (.bipush (-2), 2) from by decide +kernel) (by decide) rfl ?_
    exact sr_ireturn C _ rfl (show decode cX12_planks 16 = .ok (.ireturn, 1) from by decide +kernel)
  · refine sr_iload_n (i := 1) (q := 8) C (show decode cX12_planks 7 = .ok (.iload_n 1, 1) from by decide +kernel) rfl rfl rfl ?_
    refine sr_cSz (As := [.int v1]) (st := []) (q := 11) C ysX12_isStride ml_X12_267 (cnX12_isStride (xo κ) v1) rfl (by decide) (by decide) (Nat.le_of_ble_eq_true rfl) rfl (show decode cX12_planks 8 = .ok (.invokestatic 267, 3) from by decide +kernel) rfl (fun x8 => ?_)
    refine sr_if_ne (q := 14) C 17 (show decode cX12_planks 11 = .ok (.ifCond .ne 6, 3) from by decide +kernel) (by decide) rfl ?_ ?_
    · refine sr_iconst (v := (-1 : Int32)) (q := 18) C (show decode cX12_planks 17 = .ok (.iconst (-1), 1) from by decide +kernel) (by decide) rfl ?_
      refine sr_istore_n (i := 2) (L' := [some (xad κ v0), some (.int v1), some (.int (-1 : Int32)), none, none, none, none]) (q := 19) C (show decode cX12_planks 18 = .ok (.istore_n 2, 1) from by decide +kernel) rfl (by decide) rfl rfl ?_
      refine sr_iconst (v := (-1 : Int32)) (q := 20) C (show decode cX12_planks 19 = .ok (.iconst (-1), 1) from by decide +kernel) (by decide) rfl ?_
      refine sr_istore_n (i := 3) (L' := [some (xad κ v0), some (.int v1), some (.int (-1 : Int32)), some (.int (-1 : Int32)), none, none, none]) (q := 21) C (show decode cX12_planks 20 = .ok (.istore_n 3, 1) from by decide +kernel) rfl (by decide) rfl rfl ?_
      refine sr_iconst (v := (0 : Int32)) (q := 22) C (show decode cX12_planks 21 = .ok (.iconst 0, 1) from by decide +kernel) (by decide) rfl ?_
      refine sr_istore (i := 4) (L' := [some (xad κ v0), some (.int v1), some (.int (-1 : Int32)), some (.int (-1 : Int32)), some (.int (0 : Int32)), none, none]) (q := 24) C (show decode cX12_planks 22 = .ok (.istore 4, 2) from by decide +kernel) (by decide) rfl rfl ?_
      exact slX12_planks_L24 C 4096 v0 v1 (-1 : Int32) (-1 : Int32) (0 : Int32) hv0
    · refine sr_bipush (v := (-2 : Int32)) (q := 16) C (show decode cX12_planks 14 = .ok (.bipush (-2), 2) from by decide +kernel) (by decide) rfl ?_
      exact sr_ireturn C _ rfl (show decode cX12_planks 16 = .ok (.ireturn, 1) from by decide +kernel)
theorem cnX12_planks (ω : sm_O) (v0 : Nat) (v1 : Int32) (hv0 : kd v0 = 12) : sm_Mt 6 yX12_planks cX12_planks 7 (some .int) ω [.ref (ω.1 + v0), .int v1] (fun a => some (.int a)) (fnX12_planks v0 v1) := by
  refine sm_conI (r := fun a => a) (by decide) (fun _ => rfl) (Nat.le_of_ble_eq_true rfl) ?_
  intro κ hκ C
  subst hκ
  exact slX12_planks C v0 v1 hv0
set_option maxRecDepth 100000 in
theorem yvX12_planks : sm_YV yX12_planks cX12_planks 7 (some .int) 1 := ⟨⟨lw_m (List.mem_of_getElem? (i := 2109) rfl) rfl, lw_m (List.mem_of_getElem? (i := 153) rfl) rfl, by decide +kernel, by decide +kernel, by decide +kernel⟩, lw_m (List.mem_of_getElem? (i := 2107) rfl) rfl, lw_m (List.mem_of_getElem? (i := 2108) rfl) rfl⟩
def fnX12_price (v0 : Nat) (v1 : Int32) (v2 : Int32) (v3 : Int32) : sm_M Int32 := m_bnd (fnX12_isAsked v0 v2 (1 : Int32) v3) fun x4 => m_br ((bI x4) = 0)
    (m_ret (-2 : Int32))
    (m_bnd (fnX12_isStride v1) fun x11 => m_br ((bI x11) = 0)
    (m_ret (-2 : Int32))
    (m_bnd (fnX12_priceOf v0 v1 v2 v3) fun x24 => m_br (x24 = (-1000000 : Int32))
    (m_ret (-1 : Int32))
    (m_ret x24)))
set_option maxHeartbeats 4000000 in
set_option maxRecDepth 100000 in
theorem slX12_price {κ : sm_X} (C : sm_C κ RX12 cX12_price 5 9) (v0 : Nat) (v1 : Int32) (v2 : Int32) (v3 : Int32) (hv0 : kd v0 = 12) : sm_S κ (fun r : Int32 => .inr (some (.int r))) (.inl (0, [some (xad κ v0), some (.int v1), some (.int v2), some (.int v3), none], [])) (fnX12_price v0 v1 v2 v3) := by
  unfold fnX12_price
  refine sr_aload_n (i := 0) (q := 1) C (show decode cX12_price 0 = .ok (.aload_n 0, 1) from by decide +kernel) rfl rfl rfl ?_
  refine sr_iload_n (i := 2) (q := 2) C (show decode cX12_price 1 = .ok (.iload_n 2, 1) from by decide +kernel) rfl rfl rfl ?_
  refine sr_iconst (v := (1 : Int32)) (q := 3) C (show decode cX12_price 2 = .ok (.iconst 1, 1) from by decide +kernel) (by decide) rfl ?_
  refine sr_iload_n (i := 3) (q := 4) C (show decode cX12_price 3 = .ok (.iload_n 3, 1) from by decide +kernel) rfl rfl rfl ?_
  refine sr_cVz (As := [.int v2, .int (1 : Int32), .int v3]) (st := []) (b := v0) (q := 7) C yvX12_isAsked ml_X12_310 (cnX12_isAsked (xo κ) v0 v2 (1 : Int32) v3 hv0) hv0 (by decide) rfl rfl rfl (by decide) (by decide) (Nat.le_of_ble_eq_true rfl) rfl (show decode cX12_price 4 = .ok (.invokevirtual 310, 3) from by decide +kernel) rfl (fun x4 => ?_)
  refine sr_if_eq (q := 10) C 17 (show decode cX12_price 7 = .ok (.ifCond .eq 10, 3) from by decide +kernel) (by decide) rfl ?_ ?_
  · refine sr_bipush (v := (-2 : Int32)) (q := 19) C (show decode cX12_price 17 = .ok (.bipush (-2), 2) from by decide +kernel) (by decide) rfl ?_
    exact sr_ireturn C _ rfl (show decode cX12_price 19 = .ok (.ireturn, 1) from by decide +kernel)
  · refine sr_iload_n (i := 1) (q := 11) C (show decode cX12_price 10 = .ok (.iload_n 1, 1) from by decide +kernel) rfl rfl rfl ?_
    refine sr_cSz (As := [.int v1]) (st := []) (q := 14) C ysX12_isStride ml_X12_267 (cnX12_isStride (xo κ) v1) rfl (by decide) (by decide) (Nat.le_of_ble_eq_true rfl) rfl (show decode cX12_price 11 = .ok (.invokestatic 267, 3) from by decide +kernel) rfl (fun x11 => ?_)
    refine sr_if_ne (q := 17) C 20 (show decode cX12_price 14 = .ok (.ifCond .ne 6, 3) from by decide +kernel) (by decide) rfl ?_ ?_
    · refine sr_aload_n (i := 0) (q := 21) C (show decode cX12_price 20 = .ok (.aload_n 0, 1) from by decide +kernel) rfl rfl rfl ?_
      refine sr_iload_n (i := 1) (q := 22) C (show decode cX12_price 21 = .ok (.iload_n 1, 1) from by decide +kernel) rfl rfl rfl ?_
      refine sr_iload_n (i := 2) (q := 23) C (show decode cX12_price 22 = .ok (.iload_n 2, 1) from by decide +kernel) rfl rfl rfl ?_
      refine sr_iload_n (i := 3) (q := 24) C (show decode cX12_price 23 = .ok (.iload_n 3, 1) from by decide +kernel) rfl rfl rfl ?_
      refine sr_cVi (As := [.int v1, .int v2, .int v3]) (st := []) (b := v0) (q := 27) C yvX12_priceOf ml_X12_500 (cnX12_priceOf (xo κ) v0 v1 v2 v3 hv0) hv0 (by decide) rfl rfl rfl (by decide) (by decide) (Nat.le_of_ble_eq_true rfl) rfl (show decode cX12_price 24 = .ok (.invokevirtual 500, 3) from by decide +kernel) rfl (fun x24 => ?_)
      refine sr_istore (i := 4) (L' := [some (xad κ v0), some (.int v1), some (.int v2), some (.int v3), some (.int x24)]) (q := 29) C (show decode cX12_price 27 = .ok (.istore 4, 2) from by decide +kernel) (by decide) rfl rfl ?_
      refine sr_iload (i := 4) (q := 31) C (show decode cX12_price 29 = .ok (.iload 4, 2) from by decide +kernel) rfl rfl ?_
      refine sr_ldcw (q := 34) C co_X12_428 (show decode cX12_price 31 = .ok (.ldc_w 428, 3) from by decide +kernel) rfl ?_
      refine sr_icmp_ne (q := 37) C 41 (show decode cX12_price 34 = .ok (.if_icmp .ne 7, 3) from by decide +kernel) (by decide) rfl ?_ ?_
      · refine sr_iload (i := 4) (q := 43) C (show decode cX12_price 41 = .ok (.iload 4, 2) from by decide +kernel) rfl rfl ?_
        exact sr_ireturn C _ rfl (show decode cX12_price 43 = .ok (.ireturn, 1) from by decide +kernel)
      · refine sr_iconst (v := (-1 : Int32)) (q := 38) C (show decode cX12_price 37 = .ok (.iconst (-1), 1) from by decide +kernel) (by decide) rfl ?_
        refine sr_goto (q := 43) C (show decode cX12_price 38 = .ok (.goto 5, 3) from by decide +kernel) (by decide) ?_
        exact sr_ireturn C _ rfl (show decode cX12_price 43 = .ok (.ireturn, 1) from by decide +kernel)
    · refine sr_bipush (v := (-2 : Int32)) (q := 19) C (show decode cX12_price 17 = .ok (.bipush (-2), 2) from by decide +kernel) (by decide) rfl ?_
      exact sr_ireturn C _ rfl (show decode cX12_price 19 = .ok (.ireturn, 1) from by decide +kernel)
theorem cnX12_price (ω : sm_O) (v0 : Nat) (v1 : Int32) (v2 : Int32) (v3 : Int32) (hv0 : kd v0 = 12) : sm_Mt 9 yX12_price cX12_price 5 (some .int) ω [.ref (ω.1 + v0), .int v1, .int v2, .int v3] (fun a => some (.int a)) (fnX12_price v0 v1 v2 v3) := by
  refine sm_conI (r := fun a => a) (by decide) (fun _ => rfl) (Nat.le_of_ble_eq_true rfl) ?_
  intro κ hκ C
  subst hκ
  exact slX12_price C v0 v1 v2 v3 hv0
set_option maxRecDepth 100000 in
theorem yvX12_price : sm_YV yX12_price cX12_price 5 (some .int) 3 := ⟨⟨lw_m (List.mem_of_getElem? (i := 2147) rfl) rfl, lw_m (List.mem_of_getElem? (i := 153) rfl) rfl, by decide +kernel, by decide +kernel, by decide +kernel⟩, lw_m (List.mem_of_getElem? (i := 2145) rfl) rfl, lw_m (List.mem_of_getElem? (i := 2146) rfl) rfl⟩
def fnX12_reach (v0 : Nat) (v1 : Int32) : sm_M Int32 := m_bnd (fnX12_isRiver v0) fun x1 => m_br ((bI x1) = 0)
    (m_ret (-2 : Int32))
    (m_bnd (fnX12_isStride v1) fun x8 => m_br ((bI x8) = 0)
    (m_ret (-2 : Int32))
    (m_bnd (fnX12_reachOf v0 v1) fun x16 => m_ret x16))
set_option maxHeartbeats 4000000 in
set_option maxRecDepth 100000 in
theorem slX12_reach {κ : sm_X} (C : sm_C κ RX12 cX12_reach 2 6) (v0 : Nat) (v1 : Int32) (hv0 : kd v0 = 12) : sm_S κ (fun r : Int32 => .inr (some (.int r))) (.inl (0, [some (xad κ v0), some (.int v1)], [])) (fnX12_reach v0 v1) := by
  unfold fnX12_reach
  refine sr_aload_n (i := 0) (q := 1) C (show decode cX12_reach 0 = .ok (.aload_n 0, 1) from by decide +kernel) rfl rfl rfl ?_
  refine sr_cVz (As := []) (st := []) (b := v0) (q := 4) C yvX12_isRiver ml_X12_107 (cnX12_isRiver (xo κ) v0 hv0) hv0 (by decide) rfl rfl rfl (by decide) (by decide) (Nat.le_of_ble_eq_true rfl) rfl (show decode cX12_reach 1 = .ok (.invokevirtual 107, 3) from by decide +kernel) rfl (fun x1 => ?_)
  refine sr_if_eq (q := 7) C 22 (show decode cX12_reach 4 = .ok (.ifCond .eq 18, 3) from by decide +kernel) (by decide) rfl ?_ ?_
  · refine sr_bipush (v := (-2 : Int32)) (q := 24) C (show decode cX12_reach 22 = .ok (.bipush (-2), 2) from by decide +kernel) (by decide) rfl ?_
    exact sr_ireturn C _ rfl (show decode cX12_reach 24 = .ok (.ireturn, 1) from by decide +kernel)
  · refine sr_iload_n (i := 1) (q := 8) C (show decode cX12_reach 7 = .ok (.iload_n 1, 1) from by decide +kernel) rfl rfl rfl ?_
    refine sr_cSz (As := [.int v1]) (st := []) (q := 11) C ysX12_isStride ml_X12_267 (cnX12_isStride (xo κ) v1) rfl (by decide) (by decide) (Nat.le_of_ble_eq_true rfl) rfl (show decode cX12_reach 8 = .ok (.invokestatic 267, 3) from by decide +kernel) rfl (fun x8 => ?_)
    refine sr_if_eq (q := 14) C 22 (show decode cX12_reach 11 = .ok (.ifCond .eq 11, 3) from by decide +kernel) (by decide) rfl ?_ ?_
    · refine sr_bipush (v := (-2 : Int32)) (q := 24) C (show decode cX12_reach 22 = .ok (.bipush (-2), 2) from by decide +kernel) (by decide) rfl ?_
      exact sr_ireturn C _ rfl (show decode cX12_reach 24 = .ok (.ireturn, 1) from by decide +kernel)
    · refine sr_aload_n (i := 0) (q := 15) C (show decode cX12_reach 14 = .ok (.aload_n 0, 1) from by decide +kernel) rfl rfl rfl ?_
      refine sr_iload_n (i := 1) (q := 16) C (show decode cX12_reach 15 = .ok (.iload_n 1, 1) from by decide +kernel) rfl rfl rfl ?_
      refine sr_cVi (As := [.int v1]) (st := []) (b := v0) (q := 19) C yvX12_reachOf ml_X12_274 (cnX12_reachOf (xo κ) v0 v1 hv0) hv0 (by decide) rfl rfl rfl (by decide) (by decide) (Nat.le_of_ble_eq_true rfl) rfl (show decode cX12_reach 16 = .ok (.invokevirtual 274, 3) from by decide +kernel) rfl (fun x16 => ?_)
      refine sr_goto (q := 24) C (show decode cX12_reach 19 = .ok (.goto 5, 3) from by decide +kernel) (by decide) ?_
      exact sr_ireturn C _ rfl (show decode cX12_reach 24 = .ok (.ireturn, 1) from by decide +kernel)
theorem cnX12_reach (ω : sm_O) (v0 : Nat) (v1 : Int32) (hv0 : kd v0 = 12) : sm_Mt 6 yX12_reach cX12_reach 2 (some .int) ω [.ref (ω.1 + v0), .int v1] (fun a => some (.int a)) (fnX12_reach v0 v1) := by
  refine sm_conI (r := fun a => a) (by decide) (fun _ => rfl) (Nat.le_of_ble_eq_true rfl) ?_
  intro κ hκ C
  subst hκ
  exact slX12_reach C v0 v1 hv0
set_option maxRecDepth 100000 in
theorem yvX12_reach : sm_YV yX12_reach cX12_reach 2 (some .int) 1 := ⟨⟨lw_m (List.mem_of_getElem? (i := 1792) rfl) rfl, lw_m (List.mem_of_getElem? (i := 153) rfl) rfl, by decide +kernel, by decide +kernel, by decide +kernel⟩, lw_m (List.mem_of_getElem? (i := 1790) rfl) rfl, lw_m (List.mem_of_getElem? (i := 1791) rfl) rfl⟩
def fnX12_row_L52 : Nat → Nat → Int32 → Int32 → sm_M Int32
  | 0, _, _, _ => m_fail
  | n + 1, v0, v1, v4 => m_br ((60 : Int32) ≤ v4)
    (m_ret (0 : Int32))
    (m_sal (lk v0 45) (((60 : Int32) * v1) + v4) (0 : Int64) <| (fnX12_row_L52 n) v0 v1 (v4 + (1 : Int32)))
set_option maxHeartbeats 4000000 in
set_option maxRecDepth 100000 in
theorem slX12_row_L52 {κ : sm_X} (C : sm_C κ RX12 cX12_row 5 3) : ∀ (n : Nat) (v0 : Nat) (v1 : Int32) (v4 : Int32) (hv0 : kd v0 = 12), sm_S κ (fun r : Int32 => .inr (some (.int r))) (.inl (52, [some (xad κ v0), some (.int v1), none, none, some (.int v4)], [])) (fnX12_row_L52 n v0 v1 v4) := by
  intro n
  induction n with
  | zero =>
    intros
    exact sr_fail
  | succ n K52 =>
    intro v0 v1 v4 hv0
    unfold fnX12_row_L52
    refine sr_iload (i := 4) (q := 54) C (show decode cX12_row 52 = .ok (.iload 4, 2) from by decide +kernel) rfl rfl ?_
    refine sr_bipush (v := (60 : Int32)) (q := 56) C (show decode cX12_row 54 = .ok (.bipush 60, 2) from by decide +kernel) (by decide) rfl ?_
    refine sr_icmp_ge (q := 59) C 78 (show decode cX12_row 56 = .ok (.if_icmp .ge 22, 3) from by decide +kernel) (by decide) rfl ?_ ?_
    · refine sr_iconst (v := (0 : Int32)) (q := 79) C (show decode cX12_row 78 = .ok (.iconst 0, 1) from by decide +kernel) (by decide) rfl ?_
      exact sr_ireturn C _ rfl (show decode cX12_row 79 = .ok (.ireturn, 1) from by decide +kernel)
    · refine sr_aload_n (i := 0) (q := 60) C (show decode cX12_row 59 = .ok (.aload_n 0, 1) from by decide +kernel) rfl rfl rfl ?_
      refine sr_getr (q := 63) C fl_X12_92 hv0 (show decode cX12_row 60 = .ok (.getfield 92, 3) from by decide +kernel) rfl ?_
      refine sr_bipush (v := (60 : Int32)) (q := 65) C (show decode cX12_row 63 = .ok (.bipush 60, 2) from by decide +kernel) (by decide) rfl ?_
      refine sr_iload_n (i := 1) (q := 66) C (show decode cX12_row 65 = .ok (.iload_n 1, 1) from by decide +kernel) rfl rfl rfl ?_
      refine sr_imul (q := 67) C (show decode cX12_row 66 = .ok (.imul, 1) from by decide +kernel) rfl ?_
      refine sr_iload (i := 4) (q := 69) C (show decode cX12_row 67 = .ok (.iload 4, 2) from by decide +kernel) rfl rfl ?_
      refine sr_iadd (q := 70) C (show decode cX12_row 69 = .ok (.iadd, 1) from by decide +kernel) rfl ?_
      refine sr_lconst (v := (0 : Int64)) (q := 71) C (show decode cX12_row 70 = .ok (.lconst 0, 1) from by decide +kernel) (by decide) rfl ?_
      refine sr_lastore (q := 72) C (kt hv0 kp_12_45) (show decode cX12_row 71 = .ok (.lastore, 1) from by decide +kernel) rfl ?_
      refine sr_iinc (v := v4 + (1 : Int32)) (L' := [some (xad κ v0), some (.int v1), none, none, some (.int (v4 + (1 : Int32)))]) (q := 75) C (show decode cX12_row 72 = .ok (.iinc 4 1, 3) from by decide +kernel) rfl rfl (by decide) rfl rfl ?_
      refine sr_goto (q := 52) C (show decode cX12_row 75 = .ok (.goto (-23), 3) from by decide +kernel) (by decide) ?_
      exact K52 v0 v1 (v4 + (1 : Int32)) hv0
def fnX12_row (v0 : Nat) (v1 : Int32) (v2 : Int32) (v3 : Int32) : sm_M Int32 := m_bnd (fnX12_isSlot v1) fun x1 => m_br ((bI x1) = 0)
    (m_ret (-2 : Int32))
    (m_bnd (fnX12_in v2.toInt64 (0 : Int64) (3 : Int64)) fun x13 => m_br ((bI x13) = 0)
    (m_ret (-2 : Int32))
    (m_br (v3 ≤ (60 : Int32))
    (m_br (0 ≤ v3)
    (m_sai (lk v0 43) v1 v3 <| m_sai (lk v0 44) v1 v2 <| fnX12_row_L52 4096 v0 v1 (0 : Int32))
    (m_ret (-3 : Int32)))
    (m_ret (-2 : Int32))))
set_option maxHeartbeats 4000000 in
set_option maxRecDepth 100000 in
theorem slX12_row {κ : sm_X} (C : sm_C κ RX12 cX12_row 5 3) (v0 : Nat) (v1 : Int32) (v2 : Int32) (v3 : Int32) (hv0 : kd v0 = 12) : sm_S κ (fun r : Int32 => .inr (some (.int r))) (.inl (0, [some (xad κ v0), some (.int v1), some (.int v2), some (.int v3), none], [])) (fnX12_row v0 v1 v2 v3) := by
  unfold fnX12_row
  refine sr_iload_n (i := 1) (q := 1) C (show decode cX12_row 0 = .ok (.iload_n 1, 1) from by decide +kernel) rfl rfl rfl ?_
  refine sr_cSz (As := [.int v1]) (st := []) (q := 4) C ysX12_isSlot ml_X12_336 (cnX12_isSlot (xo κ) v1) rfl (by decide) (by decide) (Nat.le_of_ble_eq_true rfl) rfl (show decode cX12_row 1 = .ok (.invokestatic 336, 3) from by decide +kernel) rfl (fun x1 => ?_)
  refine sr_if_eq (q := 7) C 25 (show decode cX12_row 4 = .ok (.ifCond .eq 21, 3) from by decide +kernel) (by decide) rfl ?_ ?_
  · refine sr_bipush (v := (-2 : Int32)) (q := 27) C (show decode cX12_row 25 = .ok (.bipush (-2), 2) from by decide +kernel) (by decide) rfl ?_
    exact sr_ireturn C _ rfl (show decode cX12_row 27 = .ok (.ireturn, 1) from by decide +kernel)
  · refine sr_iload_n (i := 2) (q := 8) C (show decode cX12_row 7 = .ok (.iload_n 2, 1) from by decide +kernel) rfl rfl rfl ?_
    refine sr_i2l (q := 9) C (show decode cX12_row 8 = .ok (.i2l, 1) from by decide +kernel) rfl ?_
    refine sr_lconst (v := (0 : Int64)) (q := 10) C (show decode cX12_row 9 = .ok (.lconst 0, 1) from by decide +kernel) (by decide) rfl ?_
    refine sr_ldc2 (q := 13) C co_X12_308 (show decode cX12_row 10 = .ok (.ldc2_w 308, 3) from by decide +kernel) rfl ?_
    refine sr_cSz (As := [.long v2.toInt64, .long (0 : Int64), .long (3 : Int64)]) (st := []) (q := 16) C ysX12_in ml_X12_103 (cnX12_in (xo κ) v2.toInt64 (0 : Int64) (3 : Int64)) rfl (by decide) (by decide) (Nat.le_of_ble_eq_true rfl) rfl (show decode cX12_row 13 = .ok (.invokestatic 103, 3) from by decide +kernel) rfl (fun x13 => ?_)
    refine sr_if_eq (q := 19) C 25 (show decode cX12_row 16 = .ok (.ifCond .eq 9, 3) from by decide +kernel) (by decide) rfl ?_ ?_
    · refine sr_bipush (v := (-2 : Int32)) (q := 27) C (show decode cX12_row 25 = .ok (.bipush (-2), 2) from by decide +kernel) (by decide) rfl ?_
      exact sr_ireturn C _ rfl (show decode cX12_row 27 = .ok (.ireturn, 1) from by decide +kernel)
    · refine sr_iload_n (i := 3) (q := 20) C (show decode cX12_row 19 = .ok (.iload_n 3, 1) from by decide +kernel) rfl rfl rfl ?_
      refine sr_bipush (v := (60 : Int32)) (q := 22) C (show decode cX12_row 20 = .ok (.bipush 60, 2) from by decide +kernel) (by decide) rfl ?_
      refine sr_icmp_le (q := 25) C 28 (show decode cX12_row 22 = .ok (.if_icmp .le 6, 3) from by decide +kernel) (by decide) rfl ?_ ?_
      · refine sr_iload_n (i := 3) (q := 29) C (show decode cX12_row 28 = .ok (.iload_n 3, 1) from by decide +kernel) rfl rfl rfl ?_
        refine sr_if_ge (q := 32) C 35 (show decode cX12_row 29 = .ok (.ifCond .ge 6, 3) from by decide +kernel) (by decide) rfl ?_ ?_
        · refine sr_aload_n (i := 0) (q := 36) C (show decode cX12_row 35 = .ok (.aload_n 0, 1) from by decide +kernel) rfl rfl rfl ?_
          refine sr_getr (q := 39) C fl_X12_86 hv0 (show decode cX12_row 36 = .ok (.getfield 86, 3) from by decide +kernel) rfl ?_
          refine sr_iload_n (i := 1) (q := 40) C (show decode cX12_row 39 = .ok (.iload_n 1, 1) from by decide +kernel) rfl rfl rfl ?_
          refine sr_iload_n (i := 3) (q := 41) C (show decode cX12_row 40 = .ok (.iload_n 3, 1) from by decide +kernel) rfl rfl rfl ?_
          refine sr_iastore (q := 42) C (kt hv0 kp_12_43) (show decode cX12_row 41 = .ok (.iastore, 1) from by decide +kernel) rfl ?_
          refine sr_aload_n (i := 0) (q := 43) C (show decode cX12_row 42 = .ok (.aload_n 0, 1) from by decide +kernel) rfl rfl rfl ?_
          refine sr_getr (q := 46) C fl_X12_89 hv0 (show decode cX12_row 43 = .ok (.getfield 89, 3) from by decide +kernel) rfl ?_
          refine sr_iload_n (i := 1) (q := 47) C (show decode cX12_row 46 = .ok (.iload_n 1, 1) from by decide +kernel) rfl rfl rfl ?_
          refine sr_iload_n (i := 2) (q := 48) C (show decode cX12_row 47 = .ok (.iload_n 2, 1) from by decide +kernel) rfl rfl rfl ?_
          refine sr_iastore (q := 49) C (kt hv0 kp_12_44) (show decode cX12_row 48 = .ok (.iastore, 1) from by decide +kernel) rfl ?_
          refine sr_iconst (v := (0 : Int32)) (q := 50) C (show decode cX12_row 49 = .ok (.iconst 0, 1) from by decide +kernel) (by decide) rfl ?_
          refine sr_istore (i := 4) (L' := [some (xad κ v0), some (.int v1), some (.int v2), some (.int v3), some (.int (0 : Int32))]) (q := 52) C (show decode cX12_row 50 = .ok (.istore 4, 2) from by decide +kernel) (by decide) rfl rfl ?_
          refine sr_weak (L' := [some (xad κ v0), some (.int v1), none, none, some (.int (0 : Int32))]) ⟨rfl, rfl, rfl, trivial⟩ ?_
          exact slX12_row_L52 C 4096 v0 v1 (0 : Int32) hv0
        · refine sr_bipush (v := (-3 : Int32)) (q := 34) C (show decode cX12_row 32 = .ok (.bipush (-3), 2) from by decide +kernel) (by decide) rfl ?_
          exact sr_ireturn C _ rfl (show decode cX12_row 34 = .ok (.ireturn, 1) from by decide +kernel)
      · refine sr_bipush (v := (-2 : Int32)) (q := 27) C (show decode cX12_row 25 = .ok (.bipush (-2), 2) from by decide +kernel) (by decide) rfl ?_
        exact sr_ireturn C _ rfl (show decode cX12_row 27 = .ok (.ireturn, 1) from by decide +kernel)
theorem cnX12_row (ω : sm_O) (v0 : Nat) (v1 : Int32) (v2 : Int32) (v3 : Int32) (hv0 : kd v0 = 12) : sm_Mt 3 yX12_row cX12_row 5 (some .int) ω [.ref (ω.1 + v0), .int v1, .int v2, .int v3] (fun a => some (.int a)) (fnX12_row v0 v1 v2 v3) := by
  refine sm_conI (r := fun a => a) (by decide) (fun _ => rfl) (Nat.le_of_ble_eq_true rfl) ?_
  intro κ hκ C
  subst hκ
  exact slX12_row C v0 v1 v2 v3 hv0
set_option maxRecDepth 100000 in
theorem yvX12_row : sm_YV yX12_row cX12_row 5 (some .int) 3 := ⟨⟨lw_m (List.mem_of_getElem? (i := 2233) rfl) rfl, lw_m (List.mem_of_getElem? (i := 153) rfl) rfl, by decide +kernel, by decide +kernel, by decide +kernel⟩, lw_m (List.mem_of_getElem? (i := 2231) rfl) rfl, lw_m (List.mem_of_getElem? (i := 2232) rfl) rfl⟩
def fnX12_ventures_J112 (v0 : Nat) (v1 : Int32) : sm_M Unit := m_bnd (fnX12_puts v0 v1 (99 : Int32)) fun _ => m_gi v0 22 fun x121 => m_bnd (fnX12_manyOf v0 v1) fun x126 => m_si v0 22 (x121 + x126) <| m_ret ()
set_option maxHeartbeats 4000000 in
set_option maxRecDepth 100000 in
theorem slX12_ventures_J112 {κ : sm_X} (C : sm_C κ RX12 cX12_ventures 7 8) (v0 : Nat) (v1 : Int32) (hv0 : kd v0 = 12) : sm_S κ (fun _ : Unit => .inr none) (.inl (112, [some (xad κ v0), some (.int v1), none, none, none, none, none], [])) (fnX12_ventures_J112 v0 v1) := by
  unfold fnX12_ventures_J112
  refine sr_aload_n (i := 0) (q := 113) C (show decode cX12_ventures 112 = .ok (.aload_n 0, 1) from by decide +kernel) rfl rfl rfl ?_
  refine sr_iload_n (i := 1) (q := 114) C (show decode cX12_ventures 113 = .ok (.iload_n 1, 1) from by decide +kernel) rfl rfl rfl ?_
  refine sr_bipush (v := (99 : Int32)) (q := 116) C (show decode cX12_ventures 114 = .ok (.bipush 99, 2) from by decide +kernel) (by decide) rfl ?_
  refine sr_cVv (As := [.int v1, .int (99 : Int32)]) (st := []) (b := v0) (q := 119) C yvX12_puts ml_X12_363 (cnX12_puts (xo κ) v0 v1 (99 : Int32) hv0) hv0 (by decide) rfl rfl rfl (by decide) (by decide) (Nat.le_of_ble_eq_true rfl) rfl (show decode cX12_ventures 116 = .ok (.invokevirtual 363, 3) from by decide +kernel) rfl (fun _ => ?_)
  refine sr_aload_n (i := 0) (q := 120) C (show decode cX12_ventures 119 = .ok (.aload_n 0, 1) from by decide +kernel) rfl rfl rfl ?_
  refine sr_dup (q := 121) C (show decode cX12_ventures 120 = .ok (.dup, 1) from by decide +kernel) rfl rfl ?_
  refine sr_geti (q := 124) C fl_X12_372 (Or.inl rfl) hv0 (show decode cX12_ventures 121 = .ok (.getfield 372, 3) from by decide +kernel) rfl (fun x121 => ?_)
  refine sr_aload_n (i := 0) (q := 125) C (show decode cX12_ventures 124 = .ok (.aload_n 0, 1) from by decide +kernel) rfl rfl rfl ?_
  refine sr_iload_n (i := 1) (q := 126) C (show decode cX12_ventures 125 = .ok (.iload_n 1, 1) from by decide +kernel) rfl rfl rfl ?_
  refine sr_cVi (As := [.int v1]) (st := [.int x121, xad κ v0]) (b := v0) (q := 129) C yvX12_manyOf ml_X12_384 (cnX12_manyOf (xo κ) v0 v1 hv0) hv0 (by decide) rfl rfl rfl (by decide) (by decide) (Nat.le_of_ble_eq_true rfl) rfl (show decode cX12_ventures 126 = .ok (.invokevirtual 384, 3) from by decide +kernel) rfl (fun x126 => ?_)
  refine sr_iadd (q := 130) C (show decode cX12_ventures 129 = .ok (.iadd, 1) from by decide +kernel) rfl ?_
  refine sr_puti (q := 133) C fp_X12_372 hv0 (show decode cX12_ventures 130 = .ok (.putfield 372, 3) from by decide +kernel) rfl ?_
  exact sr_vreturn C _ rfl (show decode cX12_ventures 133 = .ok (.return_, 1) from by decide +kernel)
def fnX12_ventures_J98 (k43 : Nat → Int32 → Int32 → Int32 → Int32 → sm_M Unit) (v0 : Nat) (v1 : Int32) (v3 : Int32) (v4 : Int32) (v5 : Int32) (v6 : Int32) : sm_M Unit := m_bnd (fnX12_bears v0 v6 v4) fun _ => k43 v0 v1 v3 v4 (v5 + (1 : Int32))
set_option maxHeartbeats 4000000 in
set_option maxRecDepth 100000 in
theorem slX12_ventures_J98 {κ : sm_X} (C : sm_C κ RX12 cX12_ventures 7 8) {k43 : Nat → Int32 → Int32 → Int32 → Int32 → sm_M Unit} (K43 : ∀ (v0 : Nat) (v1 : Int32) (v3 : Int32) (v4 : Int32) (v5 : Int32) (hv0 : kd v0 = 12), sm_S κ (fun _ : Unit => .inr none) (.inl (43, [some (xad κ v0), some (.int v1), none, some (.int v3), some (.int v4), some (.int v5), none], [])) (k43 v0 v1 v3 v4 v5)) (v0 : Nat) (v1 : Int32) (v3 : Int32) (v4 : Int32) (v5 : Int32) (v6 : Int32) (hv0 : kd v0 = 12) : sm_S κ (fun _ : Unit => .inr none) (.inl (98, [some (xad κ v0), some (.int v1), none, some (.int v3), some (.int v4), some (.int v5), some (.int v6)], [])) (fnX12_ventures_J98 k43 v0 v1 v3 v4 v5 v6) := by
  unfold fnX12_ventures_J98
  refine sr_aload_n (i := 0) (q := 99) C (show decode cX12_ventures 98 = .ok (.aload_n 0, 1) from by decide +kernel) rfl rfl rfl ?_
  refine sr_iload (i := 6) (q := 101) C (show decode cX12_ventures 99 = .ok (.iload 6, 2) from by decide +kernel) rfl rfl ?_
  refine sr_iload (i := 4) (q := 103) C (show decode cX12_ventures 101 = .ok (.iload 4, 2) from by decide +kernel) rfl rfl ?_
  refine sr_cVv (As := [.int v6, .int v4]) (st := []) (b := v0) (q := 106) C yvX12_bears ml_X12_316 (cnX12_bears (xo κ) v0 v6 v4 hv0) hv0 (by decide) rfl rfl rfl (by decide) (by decide) (Nat.le_of_ble_eq_true rfl) rfl (show decode cX12_ventures 103 = .ok (.invokevirtual 316, 3) from by decide +kernel) rfl (fun _ => ?_)
  refine sr_iinc (v := v5 + (1 : Int32)) (L' := [some (xad κ v0), some (.int v1), none, some (.int v3), some (.int v4), some (.int (v5 + (1 : Int32))), some (.int v6)]) (q := 109) C (show decode cX12_ventures 106 = .ok (.iinc 5 1, 3) from by decide +kernel) rfl rfl (by decide) rfl rfl ?_
  refine sr_goto (q := 43) C (show decode cX12_ventures 109 = .ok (.goto (-66), 3) from by decide +kernel) (by decide) ?_
  refine sr_weak (L' := [some (xad κ v0), some (.int v1), none, some (.int v3), some (.int v4), some (.int (v5 + (1 : Int32))), none]) ⟨rfl, rfl, rfl, rfl, rfl, trivial⟩ ?_
  exact K43 v0 v1 v3 v4 (v5 + (1 : Int32)) hv0
def fnX12_ventures_J86 (v0 : Nat) (v6 : Int32) : sm_M Unit := m_bnd (fnX12_setStone v0 v6 (6 : Int32) (1000 : Int32)) fun _ => m_ret ()
set_option maxHeartbeats 4000000 in
set_option maxRecDepth 100000 in
theorem slX12_ventures_J86 {κ : sm_X} (C : sm_C κ RX12 cX12_ventures 7 8) (v0 : Nat) (v6 : Int32) (hv0 : kd v0 = 12) : sm_S κ (fun _ : Unit => .inr none) (.inl (86, [some (xad κ v0), none, none, none, none, none, some (.int v6)], [])) (fnX12_ventures_J86 v0 v6) := by
  unfold fnX12_ventures_J86
  refine sr_aload_n (i := 0) (q := 87) C (show decode cX12_ventures 86 = .ok (.aload_n 0, 1) from by decide +kernel) rfl rfl rfl ?_
  refine sr_iload (i := 6) (q := 89) C (show decode cX12_ventures 87 = .ok (.iload 6, 2) from by decide +kernel) rfl rfl ?_
  refine sr_bipush (v := (6 : Int32)) (q := 91) C (show decode cX12_ventures 89 = .ok (.bipush 6, 2) from by decide +kernel) (by decide) rfl ?_
  refine sr_sipush (v := (1000 : Int32)) (q := 94) C (show decode cX12_ventures 91 = .ok (.sipush 1000, 3) from by decide +kernel) (by decide) rfl ?_
  refine sr_cVv (As := [.int v6, .int (6 : Int32), .int (1000 : Int32)]) (st := []) (b := v0) (q := 97) C yvX12_setStone ml_X12_279 (cnX12_setStone (xo κ) v0 v6 (6 : Int32) (1000 : Int32) hv0) hv0 (by decide) rfl rfl rfl (by decide) (by decide) (Nat.le_of_ble_eq_true rfl) rfl (show decode cX12_ventures 94 = .ok (.invokevirtual 279, 3) from by decide +kernel) rfl (fun _ => ?_)
  exact sr_vreturn C _ rfl (show decode cX12_ventures 97 = .ok (.return_, 1) from by decide +kernel)
def fnX12_ventures_L43 : Nat → Nat → Int32 → Int32 → Int32 → Int32 → sm_M Unit
  | 0, _, _, _, _, _ => m_fail
  | n + 1, v0, v1, v3, v4, v5 => m_gi v0 19 fun x46 => m_br (x46 ≤ v5)
    (fnX12_ventures_J112 v0 v1)
    (m_ai (lk v0 18) v5 fun x58 => m_br (((v3 >>> (x58 &&& 31)) &&& (1 : Int32)) = (1 : Int32))
    (m_bnd (fnX12_ofStone v0 x58 (6 : Int32)) fun x76 => m_br ((x76 + v4) ≤ (1 : Int32))
    (fnX12_ventures_J98 (fnX12_ventures_L43 n) v0 v1 v3 v4 v5 x58)
    (fnX12_ventures_J86 v0 x58))
    (fnX12_ventures_J98 (fnX12_ventures_L43 n) v0 v1 v3 v4 v5 x58))
set_option maxHeartbeats 4000000 in
set_option maxRecDepth 100000 in
theorem slX12_ventures_L43 {κ : sm_X} (C : sm_C κ RX12 cX12_ventures 7 8) : ∀ (n : Nat) (v0 : Nat) (v1 : Int32) (v3 : Int32) (v4 : Int32) (v5 : Int32) (hv0 : kd v0 = 12), sm_S κ (fun _ : Unit => .inr none) (.inl (43, [some (xad κ v0), some (.int v1), none, some (.int v3), some (.int v4), some (.int v5), none], [])) (fnX12_ventures_L43 n v0 v1 v3 v4 v5) := by
  intro n
  induction n with
  | zero =>
    intros
    exact sr_fail
  | succ n K43 =>
    intro v0 v1 v3 v4 v5 hv0
    unfold fnX12_ventures_L43
    refine sr_iload (i := 5) (q := 45) C (show decode cX12_ventures 43 = .ok (.iload 5, 2) from by decide +kernel) rfl rfl ?_
    refine sr_aload_n (i := 0) (q := 46) C (show decode cX12_ventures 45 = .ok (.aload_n 0, 1) from by decide +kernel) rfl rfl rfl ?_
    refine sr_geti (q := 49) C fl_X12_297 (Or.inl rfl) hv0 (show decode cX12_ventures 46 = .ok (.getfield 297, 3) from by decide +kernel) rfl (fun x46 => ?_)
    refine sr_icmp_ge (q := 52) C 112 (show decode cX12_ventures 49 = .ok (.if_icmp .ge 63, 3) from by decide +kernel) (by decide) rfl ?_ ?_
    · refine sr_weak (L' := [some (xad κ v0), some (.int v1), none, none, none, none, none]) ⟨rfl, rfl, trivial⟩ ?_
      exact slX12_ventures_J112 C v0 v1 hv0
    · refine sr_aload_n (i := 0) (q := 53) C (show decode cX12_ventures 52 = .ok (.aload_n 0, 1) from by decide +kernel) rfl rfl rfl ?_
      refine sr_getr (q := 56) C fl_X12_43 hv0 (show decode cX12_ventures 53 = .ok (.getfield 43, 3) from by decide +kernel) rfl ?_
      refine sr_iload (i := 5) (q := 58) C (show decode cX12_ventures 56 = .ok (.iload 5, 2) from by decide +kernel) rfl rfl ?_
      refine sr_iaload (q := 59) C (kt hv0 kp_12_18) (show decode cX12_ventures 58 = .ok (.iaload, 1) from by decide +kernel) rfl (fun x58 => ?_)
      refine sr_istore (i := 6) (L' := [some (xad κ v0), some (.int v1), none, some (.int v3), some (.int v4), some (.int v5), some (.int x58)]) (q := 61) C (show decode cX12_ventures 59 = .ok (.istore 6, 2) from by decide +kernel) (by decide) rfl rfl ?_
      refine sr_iload_n (i := 3) (q := 62) C (show decode cX12_ventures 61 = .ok (.iload_n 3, 1) from by decide +kernel) rfl rfl rfl ?_
      refine sr_iload (i := 6) (q := 64) C (show decode cX12_ventures 62 = .ok (.iload 6, 2) from by decide +kernel) rfl rfl ?_
      refine sr_ishr (q := 65) C (show decode cX12_ventures 64 = .ok (.ishr, 1) from by decide +kernel) rfl ?_
      refine sr_iconst (v := (1 : Int32)) (q := 66) C (show decode cX12_ventures 65 = .ok (.iconst 1, 1) from by decide +kernel) (by decide) rfl ?_
      refine sr_iand (q := 67) C (show decode cX12_ventures 66 = .ok (.iand, 1) from by decide +kernel) rfl ?_
      refine sr_iconst (v := (1 : Int32)) (q := 68) C (show decode cX12_ventures 67 = .ok (.iconst 1, 1) from by decide +kernel) (by decide) rfl ?_
      refine sr_icmp_ne (q := 71) C 98 (show decode cX12_ventures 68 = .ok (.if_icmp .ne 30, 3) from by decide +kernel) (by decide) rfl ?_ ?_
      · exact slX12_ventures_J98 C K43 v0 v1 v3 v4 v5 x58 hv0
      · refine sr_aload_n (i := 0) (q := 72) C (show decode cX12_ventures 71 = .ok (.aload_n 0, 1) from by decide +kernel) rfl rfl rfl ?_
        refine sr_iload (i := 6) (q := 74) C (show decode cX12_ventures 72 = .ok (.iload 6, 2) from by decide +kernel) rfl rfl ?_
        refine sr_bipush (v := (6 : Int32)) (q := 76) C (show decode cX12_ventures 74 = .ok (.bipush 6, 2) from by decide +kernel) (by decide) rfl ?_
        refine sr_cVi (As := [.int x58, .int (6 : Int32)]) (st := []) (b := v0) (q := 79) C yvX12_ofStone ml_X12_239 (cnX12_ofStone (xo κ) v0 x58 (6 : Int32) hv0) hv0 (by decide) rfl rfl rfl (by decide) (by decide) (Nat.le_of_ble_eq_true rfl) rfl (show decode cX12_ventures 76 = .ok (.invokevirtual 239, 3) from by decide +kernel) rfl (fun x76 => ?_)
        refine sr_iload (i := 4) (q := 81) C (show decode cX12_ventures 79 = .ok (.iload 4, 2) from by decide +kernel) rfl rfl ?_
        refine sr_iadd (q := 82) C (show decode cX12_ventures 81 = .ok (.iadd, 1) from by decide +kernel) rfl ?_
        refine sr_iconst (v := (1 : Int32)) (q := 83) C (show decode cX12_ventures 82 = .ok (.iconst 1, 1) from by decide +kernel) (by decide) rfl ?_
        refine sr_icmp_le (q := 86) C 98 (show decode cX12_ventures 83 = .ok (.if_icmp .le 15, 3) from by decide +kernel) (by decide) rfl ?_ ?_
        · exact slX12_ventures_J98 C K43 v0 v1 v3 v4 v5 x58 hv0
        · refine sr_weak (L' := [some (xad κ v0), none, none, none, none, none, some (.int x58)]) ⟨rfl, rfl, trivial⟩ ?_
          exact slX12_ventures_J86 C v0 x58 hv0
def fnX12_ventures (v0 : Nat) (v1 : Int32) (v2 : Int32) (v3 : Int32) : sm_M Unit := m_bnd (fnX12_isAt v0 v1 (98 : Int32)) fun x4 => m_br ((bI x4) = 0)
    (m_ret ())
    (m_bnd (fnX12_strideOf v0 v1) fun x13 => m_bnd (fnX12_sumOf v0 v1 (1 : Int32)) fun x19 => m_bnd (fnX12_finds v0 x13 x19 v2 (98 : Int32)) fun x25 => m_br ((bI x25) = 0)
    (m_ret ())
    (m_bnd (fnX12_sumOf v0 v1 (1 : Int32)) fun x35 => fnX12_ventures_L43 4096 v0 v1 v3 x35 (0 : Int32)))
set_option maxHeartbeats 4000000 in
set_option maxRecDepth 100000 in
theorem slX12_ventures {κ : sm_X} (C : sm_C κ RX12 cX12_ventures 7 8) (v0 : Nat) (v1 : Int32) (v2 : Int32) (v3 : Int32) (hv0 : kd v0 = 12) : sm_S κ (fun _ : Unit => .inr none) (.inl (0, [some (xad κ v0), some (.int v1), some (.int v2), some (.int v3), none, none, none], [])) (fnX12_ventures v0 v1 v2 v3) := by
  unfold fnX12_ventures
  refine sr_aload_n (i := 0) (q := 1) C (show decode cX12_ventures 0 = .ok (.aload_n 0, 1) from by decide +kernel) rfl rfl rfl ?_
  refine sr_iload_n (i := 1) (q := 2) C (show decode cX12_ventures 1 = .ok (.iload_n 1, 1) from by decide +kernel) rfl rfl rfl ?_
  refine sr_bipush (v := (98 : Int32)) (q := 4) C (show decode cX12_ventures 2 = .ok (.bipush 98, 2) from by decide +kernel) (by decide) rfl ?_
  refine sr_cVz (As := [.int v1, .int (98 : Int32)]) (st := []) (b := v0) (q := 7) C yvX12_isAt ml_X12_354 (cnX12_isAt (xo κ) v0 v1 (98 : Int32) hv0) hv0 (by decide) rfl rfl rfl (by decide) (by decide) (Nat.le_of_ble_eq_true rfl) rfl (show decode cX12_ventures 4 = .ok (.invokevirtual 354, 3) from by decide +kernel) rfl (fun x4 => ?_)
  refine sr_if_eq (q := 10) C 31 (show decode cX12_ventures 7 = .ok (.ifCond .eq 24, 3) from by decide +kernel) (by decide) rfl ?_ ?_
  · exact sr_vreturn C _ rfl (show decode cX12_ventures 31 = .ok (.return_, 1) from by decide +kernel)
  · refine sr_aload_n (i := 0) (q := 11) C (show decode cX12_ventures 10 = .ok (.aload_n 0, 1) from by decide +kernel) rfl rfl rfl ?_
    refine sr_aload_n (i := 0) (q := 12) C (show decode cX12_ventures 11 = .ok (.aload_n 0, 1) from by decide +kernel) rfl rfl rfl ?_
    refine sr_iload_n (i := 1) (q := 13) C (show decode cX12_ventures 12 = .ok (.iload_n 1, 1) from by decide +kernel) rfl rfl rfl ?_
    refine sr_cVi (As := [.int v1]) (st := [xad κ v0]) (b := v0) (q := 16) C yvX12_strideOf ml_X12_357 (cnX12_strideOf (xo κ) v0 v1 hv0) hv0 (by decide) rfl rfl rfl (by decide) (by decide) (Nat.le_of_ble_eq_true rfl) rfl (show decode cX12_ventures 13 = .ok (.invokevirtual 357, 3) from by decide +kernel) rfl (fun x13 => ?_)
    refine sr_aload_n (i := 0) (q := 17) C (show decode cX12_ventures 16 = .ok (.aload_n 0, 1) from by decide +kernel) rfl rfl rfl ?_
    refine sr_iload_n (i := 1) (q := 18) C (show decode cX12_ventures 17 = .ok (.iload_n 1, 1) from by decide +kernel) rfl rfl rfl ?_
    refine sr_iconst (v := (1 : Int32)) (q := 19) C (show decode cX12_ventures 18 = .ok (.iconst 1, 1) from by decide +kernel) (by decide) rfl ?_
    refine sr_cVi (As := [.int v1, .int (1 : Int32)]) (st := [.int x13, xad κ v0]) (b := v0) (q := 22) C yvX12_sumOf ml_X12_360 (cnX12_sumOf (xo κ) v0 v1 (1 : Int32) hv0) hv0 (by decide) rfl rfl rfl (by decide) (by decide) (Nat.le_of_ble_eq_true rfl) rfl (show decode cX12_ventures 19 = .ok (.invokevirtual 360, 3) from by decide +kernel) rfl (fun x19 => ?_)
    refine sr_iload_n (i := 2) (q := 23) C (show decode cX12_ventures 22 = .ok (.iload_n 2, 1) from by decide +kernel) rfl rfl rfl ?_
    refine sr_bipush (v := (98 : Int32)) (q := 25) C (show decode cX12_ventures 23 = .ok (.bipush 98, 2) from by decide +kernel) (by decide) rfl ?_
    refine sr_cVz (As := [.int x13, .int x19, .int v2, .int (98 : Int32)]) (st := []) (b := v0) (q := 28) C yvX12_finds ml_X12_313 (cnX12_finds (xo κ) v0 x13 x19 v2 (98 : Int32) hv0) hv0 (by decide) rfl rfl rfl (by decide) (by decide) (Nat.le_of_ble_eq_true rfl) rfl (show decode cX12_ventures 25 = .ok (.invokevirtual 313, 3) from by decide +kernel) rfl (fun x25 => ?_)
    refine sr_if_ne (q := 31) C 32 (show decode cX12_ventures 28 = .ok (.ifCond .ne 4, 3) from by decide +kernel) (by decide) rfl ?_ ?_
    · refine sr_aload_n (i := 0) (q := 33) C (show decode cX12_ventures 32 = .ok (.aload_n 0, 1) from by decide +kernel) rfl rfl rfl ?_
      refine sr_iload_n (i := 1) (q := 34) C (show decode cX12_ventures 33 = .ok (.iload_n 1, 1) from by decide +kernel) rfl rfl rfl ?_
      refine sr_iconst (v := (1 : Int32)) (q := 35) C (show decode cX12_ventures 34 = .ok (.iconst 1, 1) from by decide +kernel) (by decide) rfl ?_
      refine sr_cVi (As := [.int v1, .int (1 : Int32)]) (st := []) (b := v0) (q := 38) C yvX12_sumOf ml_X12_360 (cnX12_sumOf (xo κ) v0 v1 (1 : Int32) hv0) hv0 (by decide) rfl rfl rfl (by decide) (by decide) (Nat.le_of_ble_eq_true rfl) rfl (show decode cX12_ventures 35 = .ok (.invokevirtual 360, 3) from by decide +kernel) rfl (fun x35 => ?_)
      refine sr_istore (i := 4) (L' := [some (xad κ v0), some (.int v1), some (.int v2), some (.int v3), some (.int x35), none, none]) (q := 40) C (show decode cX12_ventures 38 = .ok (.istore 4, 2) from by decide +kernel) (by decide) rfl rfl ?_
      refine sr_iconst (v := (0 : Int32)) (q := 41) C (show decode cX12_ventures 40 = .ok (.iconst 0, 1) from by decide +kernel) (by decide) rfl ?_
      refine sr_istore (i := 5) (L' := [some (xad κ v0), some (.int v1), some (.int v2), some (.int v3), some (.int x35), some (.int (0 : Int32)), none]) (q := 43) C (show decode cX12_ventures 41 = .ok (.istore 5, 2) from by decide +kernel) (by decide) rfl rfl ?_
      refine sr_weak (L' := [some (xad κ v0), some (.int v1), none, some (.int v3), some (.int x35), some (.int (0 : Int32)), none]) ⟨rfl, rfl, rfl, rfl, rfl, trivial⟩ ?_
      exact slX12_ventures_L43 C 4096 v0 v1 v3 x35 (0 : Int32) hv0
    · exact sr_vreturn C _ rfl (show decode cX12_ventures 31 = .ok (.return_, 1) from by decide +kernel)
theorem cnX12_ventures (ω : sm_O) (v0 : Nat) (v1 : Int32) (v2 : Int32) (v3 : Int32) (hv0 : kd v0 = 12) : sm_Mt 8 yX12_ventures cX12_ventures 7 none ω [.ref (ω.1 + v0), .int v1, .int v2, .int v3] (fun _ => none) (fnX12_ventures v0 v1 v2 v3) := by
  refine sm_conV (by decide) (Nat.le_of_ble_eq_true rfl) ?_
  intro κ hκ C
  subst hκ
  exact slX12_ventures C v0 v1 v2 v3 hv0
set_option maxRecDepth 100000 in
theorem yvX12_ventures : sm_YV yX12_ventures cX12_ventures 7 none 3 := ⟨⟨lw_m (List.mem_of_getElem? (i := 2216) rfl) rfl, lw_m (List.mem_of_getElem? (i := 153) rfl) rfl, by decide +kernel, by decide +kernel, by decide +kernel⟩, lw_m (List.mem_of_getElem? (i := 2215) rfl) rfl, lw_m (List.mem_of_getElem? (i := 137) rfl) rfl⟩
