def fnX12_walks_J127 (k4 : Nat → Int32 → Int32 → Int32 → sm_M Int32) (v0 : Nat) (v1 : Int32) (v3 : Int32) (s0 : Int32) (s1 : Int32) : sm_M Int32 := m_nm (s1 + s0) fun y128 => k4 v0 v1 y128 v3
set_option maxHeartbeats 4000000 in
set_option maxRecDepth 100000 in
theorem slX12_walks_J127 {κ : sm_X} (C : sm_C κ RX12 cX12_walks 8 6) {k4 : Nat → Int32 → Int32 → Int32 → sm_M Int32} (K4 : ∀ (v0 : Nat) (v1 : Int32) (v2 : Int32) (v3 : Int32) (hv0 : kd v0 = 12), sm_S κ (fun r : Int32 => .inr (some (.int r))) (.inl (4, [some (xad κ v0), some (.int v1), some (.int v2), some (.int v3), none, none, none, none], [])) (k4 v0 v1 v2 v3)) (v0 : Nat) (v1 : Int32) (v3 : Int32) (s0 : Int32) (s1 : Int32) (hv0 : kd v0 = 12) : sm_S κ (fun r : Int32 => .inr (some (.int r))) (.inl (127, [some (xad κ v0), some (.int v1), none, some (.int v3), none, none, none, none], [.int s0, .int s1])) (fnX12_walks_J127 k4 v0 v1 v3 s0 s1) := by
  unfold fnX12_walks_J127
  refine sr_iadd (q := 128) C (show decode cX12_walks 127 = .ok (.iadd, 1) from by decide +kernel) rfl ?_
  refine sr_nmi (fun y128 => ?_)
  refine sr_istore_n (i := 2) (L' := [some (xad κ v0), some (.int v1), some (.int y128), some (.int v3), none, none, none, none]) (q := 129) C (show decode cX12_walks 128 = .ok (.istore_n 2, 1) from by decide +kernel) rfl (by decide) rfl rfl ?_
  refine sr_goto (q := 4) C (show decode cX12_walks 129 = .ok (.goto (-125), 3) from by decide +kernel) (by decide) ?_
  exact K4 v0 v1 y128 v3 hv0
def fnX12_walks_J116 (k4 : Nat → Int32 → Int32 → Int32 → sm_M Int32) (v0 : Nat) (v1 : Int32) (v2 : Int32) (s0 : Int32) : sm_M Int32 := m_br (s0 = 0)
    (fnX12_walks_J127 k4 v0 v1 s0 (0 : Int32) v2)
    (fnX12_walks_J127 k4 v0 v1 s0 (1 : Int32) v2)
set_option maxHeartbeats 4000000 in
set_option maxRecDepth 100000 in
theorem slX12_walks_J116 {κ : sm_X} (C : sm_C κ RX12 cX12_walks 8 6) {k4 : Nat → Int32 → Int32 → Int32 → sm_M Int32} (K4 : ∀ (v0 : Nat) (v1 : Int32) (v2 : Int32) (v3 : Int32) (hv0 : kd v0 = 12), sm_S κ (fun r : Int32 => .inr (some (.int r))) (.inl (4, [some (xad κ v0), some (.int v1), some (.int v2), some (.int v3), none, none, none, none], [])) (k4 v0 v1 v2 v3)) (v0 : Nat) (v1 : Int32) (v2 : Int32) (s0 : Int32) (hv0 : kd v0 = 12) : sm_S κ (fun r : Int32 => .inr (some (.int r))) (.inl (116, [some (xad κ v0), some (.int v1), some (.int v2), none, none, none, none, none], [.int s0])) (fnX12_walks_J116 k4 v0 v1 v2 s0) := by
  unfold fnX12_walks_J116
  refine sr_istore_n (i := 3) (L' := [some (xad κ v0), some (.int v1), some (.int v2), some (.int s0), none, none, none, none]) (q := 117) C (show decode cX12_walks 116 = .ok (.istore_n 3, 1) from by decide +kernel) rfl (by decide) rfl rfl ?_
  refine sr_iload_n (i := 2) (q := 118) C (show decode cX12_walks 117 = .ok (.iload_n 2, 1) from by decide +kernel) rfl rfl rfl ?_
  refine sr_iload_n (i := 3) (q := 119) C (show decode cX12_walks 118 = .ok (.iload_n 3, 1) from by decide +kernel) rfl rfl rfl ?_
  refine sr_if_eq (q := 122) C 126 (show decode cX12_walks 119 = .ok (.ifCond .eq 7, 3) from by decide +kernel) (by decide) rfl ?_ ?_
  · refine sr_iconst (v := (0 : Int32)) (q := 127) C (show decode cX12_walks 126 = .ok (.iconst 0, 1) from by decide +kernel) (by decide) rfl ?_
    refine sr_weak (L' := [some (xad κ v0), some (.int v1), none, some (.int s0), none, none, none, none]) ⟨rfl, rfl, rfl, trivial⟩ ?_
    exact slX12_walks_J127 C K4 v0 v1 s0 (0 : Int32) v2 hv0
  · refine sr_iconst (v := (1 : Int32)) (q := 123) C (show decode cX12_walks 122 = .ok (.iconst 1, 1) from by decide +kernel) (by decide) rfl ?_
    refine sr_goto (q := 127) C (show decode cX12_walks 123 = .ok (.goto 4, 3) from by decide +kernel) (by decide) ?_
    refine sr_weak (L' := [some (xad κ v0), some (.int v1), none, some (.int s0), none, none, none, none]) ⟨rfl, rfl, rfl, trivial⟩ ?_
    exact slX12_walks_J127 C K4 v0 v1 s0 (1 : Int32) v2 hv0
def fnX12_walks_J115 (k4 : Nat → Int32 → Int32 → Int32 → sm_M Int32) (v0 : Nat) (v1 : Int32) (v2 : Int32) : sm_M Int32 := fnX12_walks_J116 k4 v0 v1 v2 (0 : Int32)
set_option maxHeartbeats 4000000 in
set_option maxRecDepth 100000 in
theorem slX12_walks_J115 {κ : sm_X} (C : sm_C κ RX12 cX12_walks 8 6) {k4 : Nat → Int32 → Int32 → Int32 → sm_M Int32} (K4 : ∀ (v0 : Nat) (v1 : Int32) (v2 : Int32) (v3 : Int32) (hv0 : kd v0 = 12), sm_S κ (fun r : Int32 => .inr (some (.int r))) (.inl (4, [some (xad κ v0), some (.int v1), some (.int v2), some (.int v3), none, none, none, none], [])) (k4 v0 v1 v2 v3)) (v0 : Nat) (v1 : Int32) (v2 : Int32) (hv0 : kd v0 = 12) : sm_S κ (fun r : Int32 => .inr (some (.int r))) (.inl (115, [some (xad κ v0), some (.int v1), some (.int v2), none, none, none, none, none], [])) (fnX12_walks_J115 k4 v0 v1 v2) := by
  unfold fnX12_walks_J115
  refine sr_iconst (v := (0 : Int32)) (q := 116) C (show decode cX12_walks 115 = .ok (.iconst 0, 1) from by decide +kernel) (by decide) rfl ?_
  exact slX12_walks_J116 C K4 v0 v1 v2 (0 : Int32) hv0
def fnX12_walks_L4 : Nat → Nat → Int32 → Int32 → Int32 → sm_M Int32
  | 0, _, _, _, _ => m_fail
  | n + 1, v0, v1, v2, v3 => m_br (v3 = 0)
    (m_ret v2)
    (m_ai (lk v0 43) v1 fun x18 => m_br (x18 < (((2 : Int32) * v2) + (2 : Int32)))
    (m_ret v2)
    (m_al (lk v0 45) (((60 : Int32) * v1) + ((2 : Int32) * v2)) fun x34 => m_al (lk v0 45) ((((60 : Int32) * v1) + ((2 : Int32) * v2)) + (1 : Int32)) fun x51 => m_bnd (fnX12_in x34 (0 : Int64) (8 : Int64)) fun x60 => m_br ((bI x60) = 0)
    (fnX12_walks_J115 (fnX12_walks_L4 n) v0 v1 v2)
    (m_bnd (fnX12_in x51 (0 : Int64) (99 : Int64)) fun x72 => m_br ((bI x72) = 0)
    (fnX12_walks_J115 (fnX12_walks_L4 n) v0 v1 v2)
    (m_bnd (fnX12_isPerson v0 x34.toInt32) fun x82 => m_br ((bI x82) = 0)
    (fnX12_walks_J115 (fnX12_walks_L4 n) v0 v1 v2)
    (m_bnd (fnX12_isPlace v0 x51.toInt32) fun x92 => m_br ((bI x92) = 0)
    (fnX12_walks_J115 (fnX12_walks_L4 n) v0 v1 v2)
    (m_bnd (fnX12_steps v0 x34.toInt32 x51.toInt32) fun x105 => m_br ((bI x105) = 0)
    (fnX12_walks_J115 (fnX12_walks_L4 n) v0 v1 v2)
    (fnX12_walks_J116 (fnX12_walks_L4 n) v0 v1 v2 (1 : Int32))))))))
set_option maxHeartbeats 4000000 in
set_option maxRecDepth 100000 in
theorem slX12_walks_L4 {κ : sm_X} (C : sm_C κ RX12 cX12_walks 8 6) : ∀ (n : Nat) (v0 : Nat) (v1 : Int32) (v2 : Int32) (v3 : Int32) (hv0 : kd v0 = 12), sm_S κ (fun r : Int32 => .inr (some (.int r))) (.inl (4, [some (xad κ v0), some (.int v1), some (.int v2), some (.int v3), none, none, none, none], [])) (fnX12_walks_L4 n v0 v1 v2 v3) := by
  intro n
  induction n with
  | zero =>
    intros
    exact sr_fail
  | succ n K4 =>
    intro v0 v1 v2 v3 hv0
    unfold fnX12_walks_L4
    refine sr_iload_n (i := 3) (q := 5) C (show decode cX12_walks 4 = .ok (.iload_n 3, 1) from by decide +kernel) rfl rfl rfl ?_
    refine sr_if_eq (q := 8) C 132 (show decode cX12_walks 5 = .ok (.ifCond .eq 127, 3) from by decide +kernel) (by decide) rfl ?_ ?_
    · refine sr_iload_n (i := 2) (q := 133) C (show decode cX12_walks 132 = .ok (.iload_n 2, 1) from by decide +kernel) rfl rfl rfl ?_
      exact sr_ireturn C _ rfl (show decode cX12_walks 133 = .ok (.ireturn, 1) from by decide +kernel)
    · refine sr_iconst (v := (2 : Int32)) (q := 9) C (show decode cX12_walks 8 = .ok (.iconst 2, 1) from by decide +kernel) (by decide) rfl ?_
      refine sr_iload_n (i := 2) (q := 10) C (show decode cX12_walks 9 = .ok (.iload_n 2, 1) from by decide +kernel) rfl rfl rfl ?_
      refine sr_imul (q := 11) C (show decode cX12_walks 10 = .ok (.imul, 1) from by decide +kernel) rfl ?_
      refine sr_iconst (v := (2 : Int32)) (q := 12) C (show decode cX12_walks 11 = .ok (.iconst 2, 1) from by decide +kernel) (by decide) rfl ?_
      refine sr_iadd (q := 13) C (show decode cX12_walks 12 = .ok (.iadd, 1) from by decide +kernel) rfl ?_
      refine sr_aload_n (i := 0) (q := 14) C (show decode cX12_walks 13 = .ok (.aload_n 0, 1) from by decide +kernel) rfl rfl rfl ?_
      refine sr_getr (q := 17) C fl_X12_86 hv0 (show decode cX12_walks 14 = .ok (.getfield 86, 3) from by decide +kernel) rfl ?_
      refine sr_iload_n (i := 1) (q := 18) C (show decode cX12_walks 17 = .ok (.iload_n 1, 1) from by decide +kernel) rfl rfl rfl ?_
      refine sr_iaload (q := 19) C (kt hv0 kp_12_43) (show decode cX12_walks 18 = .ok (.iaload, 1) from by decide +kernel) rfl (fun x18 => ?_)
      refine sr_icmp_gt (q := 22) C 132 (show decode cX12_walks 19 = .ok (.if_icmp .gt 113, 3) from by decide +kernel) (by decide) rfl ?_ ?_
      · refine sr_iload_n (i := 2) (q := 133) C (show decode cX12_walks 132 = .ok (.iload_n 2, 1) from by decide +kernel) rfl rfl rfl ?_
        exact sr_ireturn C _ rfl (show decode cX12_walks 133 = .ok (.ireturn, 1) from by decide +kernel)
      · refine sr_aload_n (i := 0) (q := 23) C (show decode cX12_walks 22 = .ok (.aload_n 0, 1) from by decide +kernel) rfl rfl rfl ?_
        refine sr_getr (q := 26) C fl_X12_92 hv0 (show decode cX12_walks 23 = .ok (.getfield 92, 3) from by decide +kernel) rfl ?_
        refine sr_bipush (v := (60 : Int32)) (q := 28) C (show decode cX12_walks 26 = .ok (.bipush 60, 2) from by decide +kernel) (by decide) rfl ?_
        refine sr_iload_n (i := 1) (q := 29) C (show decode cX12_walks 28 = .ok (.iload_n 1, 1) from by decide +kernel) rfl rfl rfl ?_
        refine sr_imul (q := 30) C (show decode cX12_walks 29 = .ok (.imul, 1) from by decide +kernel) rfl ?_
        refine sr_iconst (v := (2 : Int32)) (q := 31) C (show decode cX12_walks 30 = .ok (.iconst 2, 1) from by decide +kernel) (by decide) rfl ?_
        refine sr_iload_n (i := 2) (q := 32) C (show decode cX12_walks 31 = .ok (.iload_n 2, 1) from by decide +kernel) rfl rfl rfl ?_
        refine sr_imul (q := 33) C (show decode cX12_walks 32 = .ok (.imul, 1) from by decide +kernel) rfl ?_
        refine sr_iadd (q := 34) C (show decode cX12_walks 33 = .ok (.iadd, 1) from by decide +kernel) rfl ?_
        refine sr_laload (q := 35) C (kt hv0 kp_12_45) (show decode cX12_walks 34 = .ok (.laload, 1) from by decide +kernel) rfl (fun x34 => ?_)
        refine sr_lstore (i := 4) (L' := [some (xad κ v0), some (.int v1), some (.int v2), some (.int v3), some (.long x34), none, none, none]) (q := 37) C (show decode cX12_walks 35 = .ok (.lstore 4, 2) from by decide +kernel) (by decide) rfl rfl ?_
        refine sr_aload_n (i := 0) (q := 38) C (show decode cX12_walks 37 = .ok (.aload_n 0, 1) from by decide +kernel) rfl rfl rfl ?_
        refine sr_getr (q := 41) C fl_X12_92 hv0 (show decode cX12_walks 38 = .ok (.getfield 92, 3) from by decide +kernel) rfl ?_
        refine sr_bipush (v := (60 : Int32)) (q := 43) C (show decode cX12_walks 41 = .ok (.bipush 60, 2) from by decide +kernel) (by decide) rfl ?_
        refine sr_iload_n (i := 1) (q := 44) C (show decode cX12_walks 43 = .ok (.iload_n 1, 1) from by decide +kernel) rfl rfl rfl ?_
        refine sr_imul (q := 45) C (show decode cX12_walks 44 = .ok (.imul, 1) from by decide +kernel) rfl ?_
        refine sr_iconst (v := (2 : Int32)) (q := 46) C (show decode cX12_walks 45 = .ok (.iconst 2, 1) from by decide +kernel) (by decide) rfl ?_
        refine sr_iload_n (i := 2) (q := 47) C (show decode cX12_walks 46 = .ok (.iload_n 2, 1) from by decide +kernel) rfl rfl rfl ?_
        refine sr_imul (q := 48) C (show decode cX12_walks 47 = .ok (.imul, 1) from by decide +kernel) rfl ?_
        refine sr_iadd (q := 49) C (show decode cX12_walks 48 = .ok (.iadd, 1) from by decide +kernel) rfl ?_
        refine sr_iconst (v := (1 : Int32)) (q := 50) C (show decode cX12_walks 49 = .ok (.iconst 1, 1) from by decide +kernel) (by decide) rfl ?_
        refine sr_iadd (q := 51) C (show decode cX12_walks 50 = .ok (.iadd, 1) from by decide +kernel) rfl ?_
        refine sr_laload (q := 52) C (kt hv0 kp_12_45) (show decode cX12_walks 51 = .ok (.laload, 1) from by decide +kernel) rfl (fun x51 => ?_)
        refine sr_lstore (i := 6) (L' := [some (xad κ v0), some (.int v1), some (.int v2), some (.int v3), some (.long x34), none, some (.long x51), none]) (q := 54) C (show decode cX12_walks 52 = .ok (.lstore 6, 2) from by decide +kernel) (by decide) rfl rfl ?_
        refine sr_lload (i := 4) (q := 56) C (show decode cX12_walks 54 = .ok (.lload 4, 2) from by decide +kernel) rfl rfl ?_
        refine sr_lconst (v := (0 : Int64)) (q := 57) C (show decode cX12_walks 56 = .ok (.lconst 0, 1) from by decide +kernel) (by decide) rfl ?_
        refine sr_ldc2 (q := 60) C co_X12_332 (show decode cX12_walks 57 = .ok (.ldc2_w 332, 3) from by decide +kernel) rfl ?_
        refine sr_cSz (As := [.long x34, .long (0 : Int64), .long (8 : Int64)]) (st := []) (q := 63) C ysX12_in ml_X12_103 (cnX12_in (xo κ) x34 (0 : Int64) (8 : Int64)) rfl (by decide) (by decide) (Nat.le_of_ble_eq_true rfl) rfl (show decode cX12_walks 60 = .ok (.invokestatic 103, 3) from by decide +kernel) rfl (fun x60 => ?_)
        refine sr_if_eq (q := 66) C 115 (show decode cX12_walks 63 = .ok (.ifCond .eq 52, 3) from by decide +kernel) (by decide) rfl ?_ ?_
        · refine sr_weak (L' := [some (xad κ v0), some (.int v1), some (.int v2), none, none, none, none, none]) ⟨rfl, rfl, rfl, trivial⟩ ?_
          exact slX12_walks_J115 C K4 v0 v1 v2 hv0
        · refine sr_lload (i := 6) (q := 68) C (show decode cX12_walks 66 = .ok (.lload 6, 2) from by decide +kernel) rfl rfl ?_
          refine sr_lconst (v := (0 : Int64)) (q := 69) C (show decode cX12_walks 68 = .ok (.lconst 0, 1) from by decide +kernel) (by decide) rfl ?_
          refine sr_ldc2 (q := 72) C co_X12_334 (show decode cX12_walks 69 = .ok (.ldc2_w 334, 3) from by decide +kernel) rfl ?_
          refine sr_cSz (As := [.long x51, .long (0 : Int64), .long (99 : Int64)]) (st := []) (q := 75) C ysX12_in ml_X12_103 (cnX12_in (xo κ) x51 (0 : Int64) (99 : Int64)) rfl (by decide) (by decide) (Nat.le_of_ble_eq_true rfl) rfl (show decode cX12_walks 72 = .ok (.invokestatic 103, 3) from by decide +kernel) rfl (fun x72 => ?_)
          refine sr_if_eq (q := 78) C 115 (show decode cX12_walks 75 = .ok (.ifCond .eq 40, 3) from by decide +kernel) (by decide) rfl ?_ ?_
          · refine sr_weak (L' := [some (xad κ v0), some (.int v1), some (.int v2), none, none, none, none, none]) ⟨rfl, rfl, rfl, trivial⟩ ?_
            exact slX12_walks_J115 C K4 v0 v1 v2 hv0
          · refine sr_aload_n (i := 0) (q := 79) C (show decode cX12_walks 78 = .ok (.aload_n 0, 1) from by decide +kernel) rfl rfl rfl ?_
            refine sr_lload (i := 4) (q := 81) C (show decode cX12_walks 79 = .ok (.lload 4, 2) from by decide +kernel) rfl rfl ?_
            refine sr_l2i (q := 82) C (show decode cX12_walks 81 = .ok (.l2i, 1) from by decide +kernel) rfl ?_
            refine sr_cVz (As := [.int x34.toInt32]) (st := []) (b := v0) (q := 85) C yvX12_isPerson ml_X12_322 (cnX12_isPerson (xo κ) v0 x34.toInt32 hv0) hv0 (by decide) rfl rfl rfl (by decide) (by decide) (Nat.le_of_ble_eq_true rfl) rfl (show decode cX12_walks 82 = .ok (.invokevirtual 322, 3) from by decide +kernel) rfl (fun x82 => ?_)
            refine sr_if_eq (q := 88) C 115 (show decode cX12_walks 85 = .ok (.ifCond .eq 30, 3) from by decide +kernel) (by decide) rfl ?_ ?_
            · refine sr_weak (L' := [some (xad κ v0), some (.int v1), some (.int v2), none, none, none, none, none]) ⟨rfl, rfl, rfl, trivial⟩ ?_
              exact slX12_walks_J115 C K4 v0 v1 v2 hv0
            · refine sr_aload_n (i := 0) (q := 89) C (show decode cX12_walks 88 = .ok (.aload_n 0, 1) from by decide +kernel) rfl rfl rfl ?_
              refine sr_lload (i := 6) (q := 91) C (show decode cX12_walks 89 = .ok (.lload 6, 2) from by decide +kernel) rfl rfl ?_
              refine sr_l2i (q := 92) C (show decode cX12_walks 91 = .ok (.l2i, 1) from by decide +kernel) rfl ?_
              refine sr_cVz (As := [.int x51.toInt32]) (st := []) (b := v0) (q := 95) C yvX12_isPlace ml_X12_264 (cnX12_isPlace (xo κ) v0 x51.toInt32 hv0) hv0 (by decide) rfl rfl rfl (by decide) (by decide) (Nat.le_of_ble_eq_true rfl) rfl (show decode cX12_walks 92 = .ok (.invokevirtual 264, 3) from by decide +kernel) rfl (fun x92 => ?_)
              refine sr_if_eq (q := 98) C 115 (show decode cX12_walks 95 = .ok (.ifCond .eq 20, 3) from by decide +kernel) (by decide) rfl ?_ ?_
              · refine sr_weak (L' := [some (xad κ v0), some (.int v1), some (.int v2), none, none, none, none, none]) ⟨rfl, rfl, rfl, trivial⟩ ?_
                exact slX12_walks_J115 C K4 v0 v1 v2 hv0
              · refine sr_aload_n (i := 0) (q := 99) C (show decode cX12_walks 98 = .ok (.aload_n 0, 1) from by decide +kernel) rfl rfl rfl ?_
                refine sr_lload (i := 4) (q := 101) C (show decode cX12_walks 99 = .ok (.lload 4, 2) from by decide +kernel) rfl rfl ?_
                refine sr_l2i (q := 102) C (show decode cX12_walks 101 = .ok (.l2i, 1) from by decide +kernel) rfl ?_
                refine sr_lload (i := 6) (q := 104) C (show decode cX12_walks 102 = .ok (.lload 6, 2) from by decide +kernel) rfl rfl ?_
                refine sr_l2i (q := 105) C (show decode cX12_walks 104 = .ok (.l2i, 1) from by decide +kernel) rfl ?_
                refine sr_cVz (As := [.int x34.toInt32, .int x51.toInt32]) (st := []) (b := v0) (q := 108) C yvX12_steps ml_X12_325 (cnX12_steps (xo κ) v0 x34.toInt32 x51.toInt32 hv0) hv0 (by decide) rfl rfl rfl (by decide) (by decide) (Nat.le_of_ble_eq_true rfl) rfl (show decode cX12_walks 105 = .ok (.invokevirtual 325, 3) from by decide +kernel) rfl (fun x105 => ?_)
                refine sr_if_eq (q := 111) C 115 (show decode cX12_walks 108 = .ok (.ifCond .eq 7, 3) from by decide +kernel) (by decide) rfl ?_ ?_
                · refine sr_weak (L' := [some (xad κ v0), some (.int v1), some (.int v2), none, none, none, none, none]) ⟨rfl, rfl, rfl, trivial⟩ ?_
                  exact slX12_walks_J115 C K4 v0 v1 v2 hv0
                · refine sr_iconst (v := (1 : Int32)) (q := 112) C (show decode cX12_walks 111 = .ok (.iconst 1, 1) from by decide +kernel) (by decide) rfl ?_
                  refine sr_goto (q := 116) C (show decode cX12_walks 112 = .ok (.goto 4, 3) from by decide +kernel) (by decide) ?_
                  refine sr_weak (L' := [some (xad κ v0), some (.int v1), some (.int v2), none, none, none, none, none]) ⟨rfl, rfl, rfl, trivial⟩ ?_
                  exact slX12_walks_J116 C K4 v0 v1 v2 (1 : Int32) hv0
def fnX12_walks (v0 : Nat) (v1 : Int32) : sm_M Int32 := fnX12_walks_L4 4096 v0 v1 (0 : Int32) (1 : Int32)
set_option maxHeartbeats 4000000 in
set_option maxRecDepth 100000 in
theorem slX12_walks {κ : sm_X} (C : sm_C κ RX12 cX12_walks 8 6) (v0 : Nat) (v1 : Int32) (hv0 : kd v0 = 12) : sm_S κ (fun r : Int32 => .inr (some (.int r))) (.inl (0, [some (xad κ v0), some (.int v1), none, none, none, none, none, none], [])) (fnX12_walks v0 v1) := by
  unfold fnX12_walks
  refine sr_iconst (v := (0 : Int32)) (q := 1) C (show decode cX12_walks 0 = .ok (.iconst 0, 1) from by decide +kernel) (by decide) rfl ?_
  refine sr_istore_n (i := 2) (L' := [some (xad κ v0), some (.int v1), some (.int (0 : Int32)), none, none, none, none, none]) (q := 2) C (show decode cX12_walks 1 = .ok (.istore_n 2, 1) from by decide +kernel) rfl (by decide) rfl rfl ?_
  refine sr_iconst (v := (1 : Int32)) (q := 3) C (show decode cX12_walks 2 = .ok (.iconst 1, 1) from by decide +kernel) (by decide) rfl ?_
  refine sr_istore_n (i := 3) (L' := [some (xad κ v0), some (.int v1), some (.int (0 : Int32)), some (.int (1 : Int32)), none, none, none, none]) (q := 4) C (show decode cX12_walks 3 = .ok (.istore_n 3, 1) from by decide +kernel) rfl (by decide) rfl rfl ?_
  exact slX12_walks_L4 C 4096 v0 v1 (0 : Int32) (1 : Int32) hv0
theorem cnX12_walks (ω : sm_O) (v0 : Nat) (v1 : Int32) (hv0 : kd v0 = 12) : sm_Mt 6 yX12_walks cX12_walks 8 (some .int) ω [.ref (ω.1 + v0), .int v1] (fun a => some (.int a)) (fnX12_walks v0 v1) := by
  refine sm_conI (r := fun a => a) (by decide) (fun _ => rfl) (Nat.le_of_ble_eq_true rfl) ?_
  intro κ hκ C
  subst hκ
  exact slX12_walks C v0 v1 hv0
def fnX12_ends_J56 (v0 : Nat) (s0 : Int32) : sm_M Int32 := m_bnd (fnX12_wakes v0) fun _ => m_ret s0
set_option maxHeartbeats 4000000 in
set_option maxRecDepth 100000 in
theorem slX12_ends_J56 {κ : sm_X} (C : sm_C κ RX12 cX12_ends 5 7) (v0 : Nat) (s0 : Int32) (hv0 : kd v0 = 12) : sm_S κ (fun r : Int32 => .inr (some (.int r))) (.inl (56, [some (xad κ v0), none, none, none, none], [.int s0])) (fnX12_ends_J56 v0 s0) := by
  unfold fnX12_ends_J56
  refine sr_istore (i := 4) (L' := [some (xad κ v0), none, none, none, some (.int s0)]) (q := 58) C (show decode cX12_ends 56 = .ok (.istore 4, 2) from by decide +kernel) (by decide) rfl rfl ?_
  refine sr_aload_n (i := 0) (q := 59) C (show decode cX12_ends 58 = .ok (.aload_n 0, 1) from by decide +kernel) rfl rfl rfl ?_
  refine sr_cVv (As := []) (st := []) (b := v0) (q := 62) C yvX12_wakes ml_X12_345 (cnX12_wakes (xo κ) v0 hv0) hv0 (by decide) rfl rfl rfl (by decide) (by decide) (Nat.le_of_ble_eq_true rfl) rfl (show decode cX12_ends 59 = .ok (.invokevirtual 345, 3) from by decide +kernel) rfl (fun _ => ?_)
  refine sr_iload (i := 4) (q := 64) C (show decode cX12_ends 62 = .ok (.iload 4, 2) from by decide +kernel) rfl rfl ?_
  exact sr_ireturn C _ rfl (show decode cX12_ends 64 = .ok (.ireturn, 1) from by decide +kernel)
def fnX12_ends (v0 : Nat) (v1 : Int32) (v2 : Int32) : sm_M Int32 := m_bnd (fnX12_isSlot v1) fun x1 => m_br ((bI x1) = 0)
    (m_ret (-2 : Int32))
    (m_bnd (fnX12_isPerson v0 v2) fun x9 => m_br ((bI x9) = 0)
    (m_ret (-2 : Int32))
    (m_ai (lk v0 43) v1 fun x23 => m_br (x23 = (-1 : Int32))
    (m_ret (-6 : Int32))
    (m_bnd (fnX12_thinks v0) fun _ => m_bnd (fnX12_walks v0 v1) fun x37 => m_br (0 ≤ x37)
    (m_bnd (fnX12_of v0 v2 (6 : Int32)) fun x53 => fnX12_ends_J56 v0 x53)
    (fnX12_ends_J56 v0 (-1 : Int32)))))
set_option maxHeartbeats 4000000 in
set_option maxRecDepth 100000 in
theorem slX12_ends {κ : sm_X} (C : sm_C κ RX12 cX12_ends 5 7) (v0 : Nat) (v1 : Int32) (v2 : Int32) (hv0 : kd v0 = 12) : sm_S κ (fun r : Int32 => .inr (some (.int r))) (.inl (0, [some (xad κ v0), some (.int v1), some (.int v2), none, none], [])) (fnX12_ends v0 v1 v2) := by
  unfold fnX12_ends
  refine sr_iload_n (i := 1) (q := 1) C (show decode cX12_ends 0 = .ok (.iload_n 1, 1) from by decide +kernel) rfl rfl rfl ?_
  refine sr_cSz (As := [.int v1]) (st := []) (q := 4) C ysX12_isSlot ml_X12_336 (cnX12_isSlot (xo κ) v1) rfl (by decide) (by decide) (Nat.le_of_ble_eq_true rfl) rfl (show decode cX12_ends 1 = .ok (.invokestatic 336, 3) from by decide +kernel) rfl (fun x1 => ?_)
  refine sr_if_eq (q := 7) C 15 (show decode cX12_ends 4 = .ok (.ifCond .eq 11, 3) from by decide +kernel) (by decide) rfl ?_ ?_
  · refine sr_bipush (v := (-2 : Int32)) (q := 17) C (show decode cX12_ends 15 = .ok (.bipush (-2), 2) from by decide +kernel) (by decide) rfl ?_
    exact sr_ireturn C _ rfl (show decode cX12_ends 17 = .ok (.ireturn, 1) from by decide +kernel)
  · refine sr_aload_n (i := 0) (q := 8) C (show decode cX12_ends 7 = .ok (.aload_n 0, 1) from by decide +kernel) rfl rfl rfl ?_
    refine sr_iload_n (i := 2) (q := 9) C (show decode cX12_ends 8 = .ok (.iload_n 2, 1) from by decide +kernel) rfl rfl rfl ?_
    refine sr_cVz (As := [.int v2]) (st := []) (b := v0) (q := 12) C yvX12_isPerson ml_X12_322 (cnX12_isPerson (xo κ) v0 v2 hv0) hv0 (by decide) rfl rfl rfl (by decide) (by decide) (Nat.le_of_ble_eq_true rfl) rfl (show decode cX12_ends 9 = .ok (.invokevirtual 322, 3) from by decide +kernel) rfl (fun x9 => ?_)
    refine sr_if_ne (q := 15) C 18 (show decode cX12_ends 12 = .ok (.ifCond .ne 6, 3) from by decide +kernel) (by decide) rfl ?_ ?_
    · refine sr_aload_n (i := 0) (q := 19) C (show decode cX12_ends 18 = .ok (.aload_n 0, 1) from by decide +kernel) rfl rfl rfl ?_
      refine sr_getr (q := 22) C fl_X12_86 hv0 (show decode cX12_ends 19 = .ok (.getfield 86, 3) from by decide +kernel) rfl ?_
      refine sr_iload_n (i := 1) (q := 23) C (show decode cX12_ends 22 = .ok (.iload_n 1, 1) from by decide +kernel) rfl rfl rfl ?_
      refine sr_iaload (q := 24) C (kt hv0 kp_12_43) (show decode cX12_ends 23 = .ok (.iaload, 1) from by decide +kernel) rfl (fun x23 => ?_)
      refine sr_iconst (v := (-1 : Int32)) (q := 25) C (show decode cX12_ends 24 = .ok (.iconst (-1), 1) from by decide +kernel) (by decide) rfl ?_
      refine sr_icmp_ne (q := 28) C 31 (show decode cX12_ends 25 = .ok (.if_icmp .ne 6, 3) from by decide +kernel) (by decide) rfl ?_ ?_
      · refine sr_aload_n (i := 0) (q := 32) C (show decode cX12_ends 31 = .ok (.aload_n 0, 1) from by decide +kernel) rfl rfl rfl ?_
        refine sr_cVv (As := []) (st := []) (b := v0) (q := 35) C yvX12_thinks ml_X12_339 (cnX12_thinks (xo κ) v0 hv0) hv0 (by decide) rfl rfl rfl (by decide) (by decide) (Nat.le_of_ble_eq_true rfl) rfl (show decode cX12_ends 32 = .ok (.invokevirtual 339, 3) from by decide +kernel) rfl (fun _ => ?_)
        refine sr_aload_n (i := 0) (q := 36) C (show decode cX12_ends 35 = .ok (.aload_n 0, 1) from by decide +kernel) rfl rfl rfl ?_
        refine sr_iload_n (i := 1) (q := 37) C (show decode cX12_ends 36 = .ok (.iload_n 1, 1) from by decide +kernel) rfl rfl rfl ?_
        refine sr_cVi (As := [.int v1]) (st := []) (b := v0) (q := 40) C yvX12_walks ml_X12_342 (cnX12_walks (xo κ) v0 v1 hv0) hv0 (by decide) rfl rfl rfl (by decide) (by decide) (Nat.le_of_ble_eq_true rfl) rfl (show decode cX12_ends 37 = .ok (.invokevirtual 342, 3) from by decide +kernel) rfl (fun x37 => ?_)
        refine sr_istore_n (i := 3) (L' := [some (xad κ v0), some (.int v1), some (.int v2), some (.int x37), none]) (q := 41) C (show decode cX12_ends 40 = .ok (.istore_n 3, 1) from by decide +kernel) rfl (by decide) rfl rfl ?_
        refine sr_iload_n (i := 3) (q := 42) C (show decode cX12_ends 41 = .ok (.iload_n 3, 1) from by decide +kernel) rfl rfl rfl ?_
        refine sr_if_ge (q := 45) C 49 (show decode cX12_ends 42 = .ok (.ifCond .ge 7, 3) from by decide +kernel) (by decide) rfl ?_ ?_
        · refine sr_aload_n (i := 0) (q := 50) C (show decode cX12_ends 49 = .ok (.aload_n 0, 1) from by decide +kernel) rfl rfl rfl ?_
          refine sr_iload_n (i := 2) (q := 51) C (show decode cX12_ends 50 = .ok (.iload_n 2, 1) from by decide +kernel) rfl rfl rfl ?_
          refine sr_bipush (v := (6 : Int32)) (q := 53) C (show decode cX12_ends 51 = .ok (.bipush 6, 2) from by decide +kernel) (by decide) rfl ?_
          refine sr_cVi (As := [.int v2, .int (6 : Int32)]) (st := []) (b := v0) (q := 56) C yvX12_of ml_X12_289 (cnX12_of (xo κ) v0 v2 (6 : Int32) hv0) hv0 (by decide) rfl rfl rfl (by decide) (by decide) (Nat.le_of_ble_eq_true rfl) rfl (show decode cX12_ends 53 = .ok (.invokevirtual 289, 3) from by decide +kernel) rfl (fun x53 => ?_)
          refine sr_weak (L' := [some (xad κ v0), none, none, none, none]) ⟨rfl, trivial⟩ ?_
          exact slX12_ends_J56 C v0 x53 hv0
        · refine sr_iconst (v := (-1 : Int32)) (q := 46) C (show decode cX12_ends 45 = .ok (.iconst (-1), 1) from by decide +kernel) (by decide) rfl ?_
          refine sr_goto (q := 56) C (show decode cX12_ends 46 = .ok (.goto 10, 3) from by decide +kernel) (by decide) ?_
          refine sr_weak (L' := [some (xad κ v0), none, none, none, none]) ⟨rfl, trivial⟩ ?_
          exact slX12_ends_J56 C v0 (-1 : Int32) hv0
      · refine sr_bipush (v := (-6 : Int32)) (q := 30) C (show decode cX12_ends 28 = .ok (.bipush (-6), 2) from by decide +kernel) (by decide) rfl ?_
        exact sr_ireturn C _ rfl (show decode cX12_ends 30 = .ok (.ireturn, 1) from by decide +kernel)
    · refine sr_bipush (v := (-2 : Int32)) (q := 17) C (show decode cX12_ends 15 = .ok (.bipush (-2), 2) from by decide +kernel) (by decide) rfl ?_
      exact sr_ireturn C _ rfl (show decode cX12_ends 17 = .ok (.ireturn, 1) from by decide +kernel)
theorem cnX12_ends (ω : sm_O) (v0 : Nat) (v1 : Int32) (v2 : Int32) (hv0 : kd v0 = 12) : sm_Mt 7 yX12_ends cX12_ends 5 (some .int) ω [.ref (ω.1 + v0), .int v1, .int v2] (fun a => some (.int a)) (fnX12_ends v0 v1 v2) := by
  refine sm_conI (r := fun a => a) (by decide) (fun _ => rfl) (Nat.le_of_ble_eq_true rfl) ?_
  intro κ hκ C
  subst hκ
  exact slX12_ends C v0 v1 v2 hv0
def fnX12_good (v0 : Nat) : sm_M Bool := m_gi v0 12 fun x1 => m_br (x1 = 0)
    (m_ret true)
    (m_ret false)
set_option maxHeartbeats 4000000 in
set_option maxRecDepth 100000 in
theorem slX12_good {κ : sm_X} (C : sm_C κ RX12 cX12_good 1 1) (v0 : Nat) (hv0 : kd v0 = 12) : sm_S κ (fun r : Bool => .inr (some (.int (bI r)))) (.inl (0, [some (xad κ v0)], [])) (fnX12_good v0) := by
  unfold fnX12_good
  refine sr_aload_n (i := 0) (q := 1) C (show decode cX12_good 0 = .ok (.aload_n 0, 1) from by decide +kernel) rfl rfl rfl ?_
  refine sr_geti (q := 4) C fl_X12_152 (Or.inl rfl) hv0 (show decode cX12_good 1 = .ok (.getfield 152, 3) from by decide +kernel) rfl (fun x1 => ?_)
  refine sr_if_ne (q := 7) C 11 (show decode cX12_good 4 = .ok (.ifCond .ne 7, 3) from by decide +kernel) (by decide) rfl ?_ ?_
  · refine sr_iconst (v := (0 : Int32)) (q := 12) C (show decode cX12_good 11 = .ok (.iconst 0, 1) from by decide +kernel) (by decide) rfl ?_
    exact sr_ireturn C false rfl (show decode cX12_good 12 = .ok (.ireturn, 1) from by decide +kernel)
  · refine sr_iconst (v := (1 : Int32)) (q := 8) C (show decode cX12_good 7 = .ok (.iconst 1, 1) from by decide +kernel) (by decide) rfl ?_
    refine sr_goto (q := 12) C (show decode cX12_good 8 = .ok (.goto 4, 3) from by decide +kernel) (by decide) ?_
    exact sr_ireturn C true rfl (show decode cX12_good 12 = .ok (.ireturn, 1) from by decide +kernel)
theorem cnX12_good (ω : sm_O) (v0 : Nat) (hv0 : kd v0 = 12) : sm_Mt 1 yX12_good cX12_good 1 (some .boolean) ω [.ref (ω.1 + v0)] (fun a => some (.int (bI a))) (fnX12_good v0) := by
  refine sm_conI (r := bI) (by decide) bI_nar (Nat.le_of_ble_eq_true rfl) ?_
  intro κ hκ C
  subst hκ
  exact slX12_good C v0 hv0
def fnX12_errs (v0 : Nat) (v1 : Int32) : sm_M Unit := m_bnd (fnX12_good v0) fun x1 => m_br ((bI x1) = 0)
    (m_ret ())
    (m_si v0 12 v1 <| m_gi v0 9 fun x15 => m_si v0 13 x15 <| m_ret ())
set_option maxHeartbeats 4000000 in
set_option maxRecDepth 100000 in
theorem slX12_errs {κ : sm_X} (C : sm_C κ RX12 cX12_errs 2 2) (v0 : Nat) (v1 : Int32) (hv0 : kd v0 = 12) : sm_S κ (fun _ : Unit => .inr none) (.inl (0, [some (xad κ v0), some (.int v1)], [])) (fnX12_errs v0 v1) := by
  unfold fnX12_errs
  refine sr_aload_n (i := 0) (q := 1) C (show decode cX12_errs 0 = .ok (.aload_n 0, 1) from by decide +kernel) rfl rfl rfl ?_
  refine sr_cVz (As := []) (st := []) (b := v0) (q := 4) C yvX12_good ml_X12_155 (cnX12_good (xo κ) v0 hv0) hv0 (by decide) rfl rfl rfl (by decide) (by decide) (Nat.le_of_ble_eq_true rfl) rfl (show decode cX12_errs 1 = .ok (.invokevirtual 155, 3) from by decide +kernel) rfl (fun x1 => ?_)
  refine sr_if_ne (q := 7) C 8 (show decode cX12_errs 4 = .ok (.ifCond .ne 4, 3) from by decide +kernel) (by decide) rfl ?_ ?_
  · refine sr_aload_n (i := 0) (q := 9) C (show decode cX12_errs 8 = .ok (.aload_n 0, 1) from by decide +kernel) rfl rfl rfl ?_
    refine sr_iload_n (i := 1) (q := 10) C (show decode cX12_errs 9 = .ok (.iload_n 1, 1) from by decide +kernel) rfl rfl rfl ?_
    refine sr_puti (q := 13) C fp_X12_152 hv0 (show decode cX12_errs 10 = .ok (.putfield 152, 3) from by decide +kernel) rfl ?_
    refine sr_aload_n (i := 0) (q := 14) C (show decode cX12_errs 13 = .ok (.aload_n 0, 1) from by decide +kernel) rfl rfl rfl ?_
    refine sr_aload_n (i := 0) (q := 15) C (show decode cX12_errs 14 = .ok (.aload_n 0, 1) from by decide +kernel) rfl rfl rfl ?_
    refine sr_geti (q := 18) C fl_X12_128 (Or.inl rfl) hv0 (show decode cX12_errs 15 = .ok (.getfield 128, 3) from by decide +kernel) rfl (fun x15 => ?_)
    refine sr_puti (q := 21) C fp_X12_27 hv0 (show decode cX12_errs 18 = .ok (.putfield 27, 3) from by decide +kernel) rfl ?_
    exact sr_vreturn C _ rfl (show decode cX12_errs 21 = .ok (.return_, 1) from by decide +kernel)
  · exact sr_vreturn C _ rfl (show decode cX12_errs 7 = .ok (.return_, 1) from by decide +kernel)
theorem cnX12_errs (ω : sm_O) (v0 : Nat) (v1 : Int32) (hv0 : kd v0 = 12) : sm_Mt 2 yX12_errs cX12_errs 2 none ω [.ref (ω.1 + v0), .int v1] (fun _ => none) (fnX12_errs v0 v1) := by
  refine sm_conV (by decide) (Nat.le_of_ble_eq_true rfl) ?_
  intro κ hκ C
  subst hκ
  exact slX12_errs C v0 v1 hv0
def fnX12_fault (v0 : Nat) (v1 : Int32) : sm_M Int32 := m_br (v1 = 0)
    (m_gi v0 12 fun x5 => m_ret x5)
    (m_br (v1 = (1 : Int32))
    (m_gi v0 13 fun x17 => m_ret x17)
    (m_ret (-1 : Int32)))
set_option maxHeartbeats 4000000 in
set_option maxRecDepth 100000 in
theorem slX12_fault {κ : sm_X} (C : sm_C κ RX12 cX12_fault 2 1) (v0 : Nat) (v1 : Int32) (hv0 : kd v0 = 12) : sm_S κ (fun r : Int32 => .inr (some (.int r))) (.inl (0, [some (xad κ v0), some (.int v1)], [])) (fnX12_fault v0 v1) := by
  unfold fnX12_fault
  refine sr_iload_n (i := 1) (q := 1) C (show decode cX12_fault 0 = .ok (.iload_n 1, 1) from by decide +kernel) rfl rfl rfl ?_
  refine sr_if_ne (q := 4) C 11 (show decode cX12_fault 1 = .ok (.ifCond .ne 10, 3) from by decide +kernel) (by decide) rfl ?_ ?_
  · refine sr_iload_n (i := 1) (q := 12) C (show decode cX12_fault 11 = .ok (.iload_n 1, 1) from by decide +kernel) rfl rfl rfl ?_
    refine sr_iconst (v := (1 : Int32)) (q := 13) C (show decode cX12_fault 12 = .ok (.iconst 1, 1) from by decide +kernel) (by decide) rfl ?_
    refine sr_icmp_ne (q := 16) C 23 (show decode cX12_fault 13 = .ok (.if_icmp .ne 10, 3) from by decide +kernel) (by decide) rfl ?_ ?_
    · refine sr_iconst (v := (-1 : Int32)) (q := 24) C (show decode cX12_fault 23 = .ok (.iconst (-1), 1) from by decide +kernel) (by decide) rfl ?_
      exact sr_ireturn C _ rfl (show decode cX12_fault 24 = .ok (.ireturn, 1) from by decide +kernel)
    · refine sr_aload_n (i := 0) (q := 17) C (show decode cX12_fault 16 = .ok (.aload_n 0, 1) from by decide +kernel) rfl rfl rfl ?_
      refine sr_geti (q := 20) C fl_X12_27 (Or.inl rfl) hv0 (show decode cX12_fault 17 = .ok (.getfield 27, 3) from by decide +kernel) rfl (fun x17 => ?_)
      refine sr_goto (q := 24) C (show decode cX12_fault 20 = .ok (.goto 4, 3) from by decide +kernel) (by decide) ?_
      exact sr_ireturn C _ rfl (show decode cX12_fault 24 = .ok (.ireturn, 1) from by decide +kernel)
  · refine sr_aload_n (i := 0) (q := 5) C (show decode cX12_fault 4 = .ok (.aload_n 0, 1) from by decide +kernel) rfl rfl rfl ?_
    refine sr_geti (q := 8) C fl_X12_152 (Or.inl rfl) hv0 (show decode cX12_fault 5 = .ok (.getfield 152, 3) from by decide +kernel) rfl (fun x5 => ?_)
    refine sr_goto (q := 24) C (show decode cX12_fault 8 = .ok (.goto 16, 3) from by decide +kernel) (by decide) ?_
    exact sr_ireturn C _ rfl (show decode cX12_fault 24 = .ok (.ireturn, 1) from by decide +kernel)
theorem cnX12_fault (ω : sm_O) (v0 : Nat) (v1 : Int32) (hv0 : kd v0 = 12) : sm_Mt 1 yX12_fault cX12_fault 2 (some .int) ω [.ref (ω.1 + v0), .int v1] (fun a => some (.int a)) (fnX12_fault v0 v1) := by
  refine sm_conI (r := fun a => a) (by decide) (fun _ => rfl) (Nat.le_of_ble_eq_true rfl) ?_
  intro κ hκ C
  subst hκ
  exact slX12_fault C v0 v1 hv0
def fnX12_feed_J101 (v0 : Nat) : sm_M Int32 := m_gi v0 5 fun x103 => m_si v0 5 (x103 + (20 : Int32)) <| m_gi v0 5 fun x113 => m_ret x113
set_option maxHeartbeats 4000000 in
set_option maxRecDepth 100000 in
theorem slX12_feed_J101 {κ : sm_X} (C : sm_C κ RX12 cX12_feed 7 1) (v0 : Nat) (hv0 : kd v0 = 12) : sm_S κ (fun r : Int32 => .inr (some (.int r))) (.inl (101, [some (xad κ v0), none, none, none, none, none, none], [])) (fnX12_feed_J101 v0) := by
  unfold fnX12_feed_J101
  refine sr_aload_n (i := 0) (q := 102) C (show decode cX12_feed 101 = .ok (.aload_n 0, 1) from by decide +kernel) rfl rfl rfl ?_
  refine sr_dup (q := 103) C (show decode cX12_feed 102 = .ok (.dup, 1) from by decide +kernel) rfl rfl ?_
  refine sr_geti (q := 106) C fl_X12_115 (Or.inl rfl) hv0 (show decode cX12_feed 103 = .ok (.getfield 115, 3) from by decide +kernel) rfl (fun x103 => ?_)
  refine sr_bipush (v := (20 : Int32)) (q := 108) C (show decode cX12_feed 106 = .ok (.bipush 20, 2) from by decide +kernel) (by decide) rfl ?_
  refine sr_iadd (q := 109) C (show decode cX12_feed 108 = .ok (.iadd, 1) from by decide +kernel) rfl ?_
  refine sr_puti (q := 112) C fp_X12_115 hv0 (show decode cX12_feed 109 = .ok (.putfield 115, 3) from by decide +kernel) rfl ?_
  refine sr_aload_n (i := 0) (q := 113) C (show decode cX12_feed 112 = .ok (.aload_n 0, 1) from by decide +kernel) rfl rfl rfl ?_
  refine sr_geti (q := 116) C fl_X12_115 (Or.inl rfl) hv0 (show decode cX12_feed 113 = .ok (.getfield 115, 3) from by decide +kernel) rfl (fun x113 => ?_)
  exact sr_ireturn C _ rfl (show decode cX12_feed 116 = .ok (.ireturn, 1) from by decide +kernel)
def fnX12_feed_L55 : Nat → Nat → Int32 → sm_M Int32
  | 0, _, _ => m_fail
  | n + 1, v0, v6 => m_br ((20 : Int32) ≤ v6)
    (fnX12_feed_J101 v0)
    (m_gi v0 5 fun x67 => m_gd (¬ (4 : Int32) = 0) <| m_ai (lk v0 6) (v6 / (4 : Int32)) fun x81 => m_gd (¬ (4 : Int32) = 0) <| m_sai (lk v0 4) (x67 + v6) (vp_nar .byte ((x81 >>> (((24 : Int32) - ((8 : Int32) * (v6 - v6 / (4 : Int32) * (4 : Int32)))) &&& 31)).toInt8.toInt32)) <| (fnX12_feed_L55 n) v0 (v6 + (1 : Int32)))
set_option maxHeartbeats 4000000 in
set_option maxRecDepth 100000 in
theorem slX12_feed_L55 {κ : sm_X} (C : sm_C κ RX12 cX12_feed 7 1) : ∀ (n : Nat) (v0 : Nat) (v6 : Int32) (hv0 : kd v0 = 12), sm_S κ (fun r : Int32 => .inr (some (.int r))) (.inl (55, [some (xad κ v0), none, none, none, none, none, some (.int v6)], [])) (fnX12_feed_L55 n v0 v6) := by
  intro n
  induction n with
  | zero =>
    intros
    exact sr_fail
  | succ n K55 =>
    intro v0 v6 hv0
    unfold fnX12_feed_L55
    refine sr_iload (i := 6) (q := 57) C (show decode cX12_feed 55 = .ok (.iload 6, 2) from by decide +kernel) rfl rfl ?_
    refine sr_bipush (v := (20 : Int32)) (q := 59) C (show decode cX12_feed 57 = .ok (.bipush 20, 2) from by decide +kernel) (by decide) rfl ?_
    refine sr_icmp_ge (q := 62) C 101 (show decode cX12_feed 59 = .ok (.if_icmp .ge 42, 3) from by decide +kernel) (by decide) rfl ?_ ?_
    · refine sr_weak (L' := [some (xad κ v0), none, none, none, none, none, none]) ⟨rfl, trivial⟩ ?_
      exact slX12_feed_J101 C v0 hv0
    · refine sr_aload_n (i := 0) (q := 63) C (show decode cX12_feed 62 = .ok (.aload_n 0, 1) from by decide +kernel) rfl rfl rfl ?_
      refine sr_getr (q := 66) C fl_X12_20 hv0 (show decode cX12_feed 63 = .ok (.getfield 20, 3) from by decide +kernel) rfl ?_
      refine sr_aload_n (i := 0) (q := 67) C (show decode cX12_feed 66 = .ok (.aload_n 0, 1) from by decide +kernel) rfl rfl rfl ?_
      refine sr_geti (q := 70) C fl_X12_115 (Or.inl rfl) hv0 (show decode cX12_feed 67 = .ok (.getfield 115, 3) from by decide +kernel) rfl (fun x67 => ?_)
      refine sr_iload (i := 6) (q := 72) C (show decode cX12_feed 70 = .ok (.iload 6, 2) from by decide +kernel) rfl rfl ?_
      refine sr_iadd (q := 73) C (show decode cX12_feed 72 = .ok (.iadd, 1) from by decide +kernel) rfl ?_
      refine sr_aload_n (i := 0) (q := 74) C (show decode cX12_feed 73 = .ok (.aload_n 0, 1) from by decide +kernel) rfl rfl rfl ?_
      refine sr_getr (q := 77) C fl_X12_24 hv0 (show decode cX12_feed 74 = .ok (.getfield 24, 3) from by decide +kernel) rfl ?_
      refine sr_iload (i := 6) (q := 79) C (show decode cX12_feed 77 = .ok (.iload 6, 2) from by decide +kernel) rfl rfl ?_
      refine sr_iconst (v := (4 : Int32)) (q := 80) C (show decode cX12_feed 79 = .ok (.iconst 4, 1) from by decide +kernel) (by decide) rfl ?_
      refine sr_idiv (q := 81) C (show decode cX12_feed 80 = .ok (.idiv, 1) from by decide +kernel) rfl ?_
      refine sr_iaload (q := 82) C (kt hv0 kp_12_6) (show decode cX12_feed 81 = .ok (.iaload, 1) from by decide +kernel) rfl (fun x81 => ?_)
      refine sr_bipush (v := (24 : Int32)) (q := 84) C (show decode cX12_feed 82 = .ok (.bipush 24, 2) from by decide +kernel) (by decide) rfl ?_
      refine sr_bipush (v := (8 : Int32)) (q := 86) C (show decode cX12_feed 84 = .ok (.bipush 8, 2) from by decide +kernel) (by decide) rfl ?_
      refine sr_iload (i := 6) (q := 88) C (show decode cX12_feed 86 = .ok (.iload 6, 2) from by decide +kernel) rfl rfl ?_
      refine sr_iconst (v := (4 : Int32)) (q := 89) C (show decode cX12_feed 88 = .ok (.iconst 4, 1) from by decide +kernel) (by decide) rfl ?_
      refine sr_irem (q := 90) C (show decode cX12_feed 89 = .ok (.irem, 1) from by decide +kernel) rfl ?_
      refine sr_imul (q := 91) C (show decode cX12_feed 90 = .ok (.imul, 1) from by decide +kernel) rfl ?_
      refine sr_isub (q := 92) C (show decode cX12_feed 91 = .ok (.isub, 1) from by decide +kernel) rfl ?_
      refine sr_ishr (q := 93) C (show decode cX12_feed 92 = .ok (.ishr, 1) from by decide +kernel) rfl ?_
      refine sr_i2b (q := 94) C (show decode cX12_feed 93 = .ok (.i2b, 1) from by decide +kernel) rfl ?_
      refine sr_bastore (q := 95) C (kt hv0 kp_12_4) (show decode cX12_feed 94 = .ok (.bastore, 1) from by decide +kernel) rfl ?_
      refine sr_iinc (v := v6 + (1 : Int32)) (L' := [some (xad κ v0), none, none, none, none, none, some (.int (v6 + (1 : Int32)))]) (q := 98) C (show decode cX12_feed 95 = .ok (.iinc 6 1, 3) from by decide +kernel) rfl rfl (by decide) rfl rfl ?_
      refine sr_goto (q := 55) C (show decode cX12_feed 98 = .ok (.goto (-43), 3) from by decide +kernel) (by decide) ?_
      exact K55 v0 (v6 + (1 : Int32)) hv0
def fnX12_feed (v0 : Nat) (v1 : Int32) (v2 : Int32) (v3 : Int32) (v4 : Int32) (v5 : Int32) : sm_M Int32 := m_gi v0 5 fun x1 => m_br ((x1 + (20 : Int32)) ≤ (1600 : Int32))
    (m_sai (lk v0 6) (0 : Int32) v1 <| m_sai (lk v0 6) (1 : Int32) v2 <| m_sai (lk v0 6) (2 : Int32) v3 <| m_sai (lk v0 6) (3 : Int32) v4 <| m_sai (lk v0 6) (4 : Int32) v5 <| fnX12_feed_L55 4096 v0 (0 : Int32))
    (m_ret (-1 : Int32))
set_option maxHeartbeats 4000000 in
set_option maxRecDepth 100000 in
theorem slX12_feed {κ : sm_X} (C : sm_C κ RX12 cX12_feed 7 1) (v0 : Nat) (v1 : Int32) (v2 : Int32) (v3 : Int32) (v4 : Int32) (v5 : Int32) (hv0 : kd v0 = 12) : sm_S κ (fun r : Int32 => .inr (some (.int r))) (.inl (0, [some (xad κ v0), some (.int v1), some (.int v2), some (.int v3), some (.int v4), some (.int v5), none], [])) (fnX12_feed v0 v1 v2 v3 v4 v5) := by
  unfold fnX12_feed
  refine sr_aload_n (i := 0) (q := 1) C (show decode cX12_feed 0 = .ok (.aload_n 0, 1) from by decide +kernel) rfl rfl rfl ?_
  refine sr_geti (q := 4) C fl_X12_115 (Or.inl rfl) hv0 (show decode cX12_feed 1 = .ok (.getfield 115, 3) from by decide +kernel) rfl (fun x1 => ?_)
  refine sr_bipush (v := (20 : Int32)) (q := 6) C (show decode cX12_feed 4 = .ok (.bipush 20, 2) from by decide +kernel) (by decide) rfl ?_
  refine sr_iadd (q := 7) C (show decode cX12_feed 6 = .ok (.iadd, 1) from by decide +kernel) rfl ?_
  refine sr_sipush (v := (1600 : Int32)) (q := 10) C (show decode cX12_feed 7 = .ok (.sipush 1600, 3) from by decide +kernel) (by decide) rfl ?_
  refine sr_icmp_le (q := 13) C 15 (show decode cX12_feed 10 = .ok (.if_icmp .le 5, 3) from by decide +kernel) (by decide) rfl ?_ ?_
  · refine sr_aload_n (i := 0) (q := 16) C (show decode cX12_feed 15 = .ok (.aload_n 0, 1) from by decide +kernel) rfl rfl rfl ?_
    refine sr_getr (q := 19) C fl_X12_24 hv0 (show decode cX12_feed 16 = .ok (.getfield 24, 3) from by decide +kernel) rfl ?_
    refine sr_iconst (v := (0 : Int32)) (q := 20) C (show decode cX12_feed 19 = .ok (.iconst 0, 1) from by decide +kernel) (by decide) rfl ?_
    refine sr_iload_n (i := 1) (q := 21) C (show decode cX12_feed 20 = .ok (.iload_n 1, 1) from by decide +kernel) rfl rfl rfl ?_
    refine sr_iastore (q := 22) C (kt hv0 kp_12_6) (show decode cX12_feed 21 = .ok (.iastore, 1) from by decide +kernel) rfl ?_
    refine sr_aload_n (i := 0) (q := 23) C (show decode cX12_feed 22 = .ok (.aload_n 0, 1) from by decide +kernel) rfl rfl rfl ?_
    refine sr_getr (q := 26) C fl_X12_24 hv0 (show decode cX12_feed 23 = .ok (.getfield 24, 3) from by decide +kernel) rfl ?_
    refine sr_iconst (v := (1 : Int32)) (q := 27) C (show decode cX12_feed 26 = .ok (.iconst 1, 1) from by decide +kernel) (by decide) rfl ?_
    refine sr_iload_n (i := 2) (q := 28) C (show decode cX12_feed 27 = .ok (.iload_n 2, 1) from by decide +kernel) rfl rfl rfl ?_
    refine sr_iastore (q := 29) C (kt hv0 kp_12_6) (show decode cX12_feed 28 = .ok (.iastore, 1) from by decide +kernel) rfl ?_
    refine sr_aload_n (i := 0) (q := 30) C (show decode cX12_feed 29 = .ok (.aload_n 0, 1) from by decide +kernel) rfl rfl rfl ?_
    refine sr_getr (q := 33) C fl_X12_24 hv0 (show decode cX12_feed 30 = .ok (.getfield 24, 3) from by decide +kernel) rfl ?_
    refine sr_iconst (v := (2 : Int32)) (q := 34) C (show decode cX12_feed 33 = .ok (.iconst 2, 1) from by decide +kernel) (by decide) rfl ?_
    refine sr_iload_n (i := 3) (q := 35) C (show decode cX12_feed 34 = .ok (.iload_n 3, 1) from by decide +kernel) rfl rfl rfl ?_
    refine sr_iastore (q := 36) C (kt hv0 kp_12_6) (show decode cX12_feed 35 = .ok (.iastore, 1) from by decide +kernel) rfl ?_
    refine sr_aload_n (i := 0) (q := 37) C (show decode cX12_feed 36 = .ok (.aload_n 0, 1) from by decide +kernel) rfl rfl rfl ?_
    refine sr_getr (q := 40) C fl_X12_24 hv0 (show decode cX12_feed 37 = .ok (.getfield 24, 3) from by decide +kernel) rfl ?_
    refine sr_iconst (v := (3 : Int32)) (q := 41) C (show decode cX12_feed 40 = .ok (.iconst 3, 1) from by decide +kernel) (by decide) rfl ?_
    refine sr_iload (i := 4) (q := 43) C (show decode cX12_feed 41 = .ok (.iload 4, 2) from by decide +kernel) rfl rfl ?_
    refine sr_iastore (q := 44) C (kt hv0 kp_12_6) (show decode cX12_feed 43 = .ok (.iastore, 1) from by decide +kernel) rfl ?_
    refine sr_aload_n (i := 0) (q := 45) C (show decode cX12_feed 44 = .ok (.aload_n 0, 1) from by decide +kernel) rfl rfl rfl ?_
    refine sr_getr (q := 48) C fl_X12_24 hv0 (show decode cX12_feed 45 = .ok (.getfield 24, 3) from by decide +kernel) rfl ?_
    refine sr_iconst (v := (4 : Int32)) (q := 49) C (show decode cX12_feed 48 = .ok (.iconst 4, 1) from by decide +kernel) (by decide) rfl ?_
    refine sr_iload (i := 5) (q := 51) C (show decode cX12_feed 49 = .ok (.iload 5, 2) from by decide +kernel) rfl rfl ?_
    refine sr_iastore (q := 52) C (kt hv0 kp_12_6) (show decode cX12_feed 51 = .ok (.iastore, 1) from by decide +kernel) rfl ?_
    refine sr_iconst (v := (0 : Int32)) (q := 53) C (show decode cX12_feed 52 = .ok (.iconst 0, 1) from by decide +kernel) (by decide) rfl ?_
    refine sr_istore (i := 6) (L' := [some (xad κ v0), some (.int v1), some (.int v2), some (.int v3), some (.int v4), some (.int v5), some (.int (0 : Int32))]) (q := 55) C (show decode cX12_feed 53 = .ok (.istore 6, 2) from by decide +kernel) (by decide) rfl rfl ?_
    refine sr_weak (L' := [some (xad κ v0), none, none, none, none, none, some (.int (0 : Int32))]) ⟨rfl, rfl, trivial⟩ ?_
    exact slX12_feed_L55 C 4096 v0 (0 : Int32) hv0
  · refine sr_iconst (v := (-1 : Int32)) (q := 14) C (show decode cX12_feed 13 = .ok (.iconst (-1), 1) from by decide +kernel) (by decide) rfl ?_
    exact sr_ireturn C _ rfl (show decode cX12_feed 14 = .ok (.ireturn, 1) from by decide +kernel)
theorem cnX12_feed (ω : sm_O) (v0 : Nat) (v1 : Int32) (v2 : Int32) (v3 : Int32) (v4 : Int32) (v5 : Int32) (hv0 : kd v0 = 12) : sm_Mt 1 yX12_feed cX12_feed 7 (some .int) ω [.ref (ω.1 + v0), .int v1, .int v2, .int v3, .int v4, .int v5] (fun a => some (.int a)) (fnX12_feed v0 v1 v2 v3 v4 v5) := by
  refine sm_conI (r := fun a => a) (by decide) (fun _ => rfl) (Nat.le_of_ble_eq_true rfl) ?_
  intro κ hκ C
  subst hκ
  exact slX12_feed C v0 v1 v2 v3 v4 v5 hv0
def fnX12_fillWaiting_J48 (k7 : Nat → Int32 → sm_M Unit) (v0 : Nat) (v1 : Int32) : sm_M Unit := k7 v0 (v1 + (1 : Int32))
set_option maxHeartbeats 4000000 in
set_option maxRecDepth 100000 in
theorem slX12_fillWaiting_J48 {κ : sm_X} (C : sm_C κ RX12 cX12_fillWaiting 2 4) {k7 : Nat → Int32 → sm_M Unit} (K7 : ∀ (v0 : Nat) (v1 : Int32) (hv0 : kd v0 = 12), sm_S κ (fun _ : Unit => .inr none) (.inl (7, [some (xad κ v0), some (.int v1)], [])) (k7 v0 v1)) (v0 : Nat) (v1 : Int32) (hv0 : kd v0 = 12) : sm_S κ (fun _ : Unit => .inr none) (.inl (48, [some (xad κ v0), some (.int v1)], [])) (fnX12_fillWaiting_J48 k7 v0 v1) := by
  unfold fnX12_fillWaiting_J48
  refine sr_iinc (v := v1 + (1 : Int32)) (L' := [some (xad κ v0), some (.int (v1 + (1 : Int32)))]) (q := 51) C (show decode cX12_fillWaiting 48 = .ok (.iinc 1 1, 3) from by decide +kernel) rfl rfl (by decide) rfl rfl ?_
  refine sr_goto (q := 7) C (show decode cX12_fillWaiting 51 = .ok (.goto (-44), 3) from by decide +kernel) (by decide) ?_
  exact K7 v0 (v1 + (1 : Int32)) hv0
def fnX12_fillWaiting_L7 : Nat → Nat → Int32 → sm_M Unit
  | 0, _, _ => m_fail
  | n + 1, v0, v1 => m_bnd (fnX12_units v0) fun x9 => m_br (x9 ≤ v1)
    (m_ret ())
    (m_bnd (fnX12_isAt v0 v1 (98 : Int32)) fun x19 => m_br ((bI x19) = 0)
    (fnX12_fillWaiting_J48 (fnX12_fillWaiting_L7 n) v0 v1)
    (m_gi v0 27 fun x33 => m_sai (lk v0 26) x33 v1 <| m_gi v0 27 fun x40 => m_si v0 27 (x40 + (1 : Int32)) <| fnX12_fillWaiting_J48 (fnX12_fillWaiting_L7 n) v0 v1))
set_option maxHeartbeats 4000000 in
set_option maxRecDepth 100000 in
theorem slX12_fillWaiting_L7 {κ : sm_X} (C : sm_C κ RX12 cX12_fillWaiting 2 4) : ∀ (n : Nat) (v0 : Nat) (v1 : Int32) (hv0 : kd v0 = 12), sm_S κ (fun _ : Unit => .inr none) (.inl (7, [some (xad κ v0), some (.int v1)], [])) (fnX12_fillWaiting_L7 n v0 v1) := by
  intro n
  induction n with
  | zero =>
    intros
    exact sr_fail
  | succ n K7 =>
    intro v0 v1 hv0
    unfold fnX12_fillWaiting_L7
    refine sr_iload_n (i := 1) (q := 8) C (show decode cX12_fillWaiting 7 = .ok (.iload_n 1, 1) from by decide +kernel) rfl rfl rfl ?_
    refine sr_aload_n (i := 0) (q := 9) C (show decode cX12_fillWaiting 8 = .ok (.aload_n 0, 1) from by decide +kernel) rfl rfl rfl ?_
    refine sr_cVi (As := []) (st := [.int v1]) (b := v0) (q := 12) C yvX12_units ml_X12_393 (cnX12_units (xo κ) v0 hv0) hv0 (by decide) rfl rfl rfl (by decide) (by decide) (Nat.le_of_ble_eq_true rfl) rfl (show decode cX12_fillWaiting 9 = .ok (.invokevirtual 393, 3) from by decide +kernel) rfl (fun x9 => ?_)
    refine sr_icmp_ge (q := 15) C 54 (show decode cX12_fillWaiting 12 = .ok (.if_icmp .ge 42, 3) from by decide +kernel) (by decide) rfl ?_ ?_
    · exact sr_vreturn C _ rfl (show decode cX12_fillWaiting 54 = .ok (.return_, 1) from by decide +kernel)
    · refine sr_aload_n (i := 0) (q := 16) C (show decode cX12_fillWaiting 15 = .ok (.aload_n 0, 1) from by decide +kernel) rfl rfl rfl ?_
      refine sr_iload_n (i := 1) (q := 17) C (show decode cX12_fillWaiting 16 = .ok (.iload_n 1, 1) from by decide +kernel) rfl rfl rfl ?_
      refine sr_bipush (v := (98 : Int32)) (q := 19) C (show decode cX12_fillWaiting 17 = .ok (.bipush 98, 2) from by decide +kernel) (by decide) rfl ?_
      refine sr_cVz (As := [.int v1, .int (98 : Int32)]) (st := []) (b := v0) (q := 22) C yvX12_isAt ml_X12_354 (cnX12_isAt (xo κ) v0 v1 (98 : Int32) hv0) hv0 (by decide) rfl rfl rfl (by decide) (by decide) (Nat.le_of_ble_eq_true rfl) rfl (show decode cX12_fillWaiting 19 = .ok (.invokevirtual 354, 3) from by decide +kernel) rfl (fun x19 => ?_)
      refine sr_if_ne (q := 25) C 28 (show decode cX12_fillWaiting 22 = .ok (.ifCond .ne 6, 3) from by decide +kernel) (by decide) rfl ?_ ?_
      · refine sr_aload_n (i := 0) (q := 29) C (show decode cX12_fillWaiting 28 = .ok (.aload_n 0, 1) from by decide +kernel) rfl rfl rfl ?_
        refine sr_getr (q := 32) C fl_X12_49 hv0 (show decode cX12_fillWaiting 29 = .ok (.getfield 49, 3) from by decide +kernel) rfl ?_
        refine sr_aload_n (i := 0) (q := 33) C (show decode cX12_fillWaiting 32 = .ok (.aload_n 0, 1) from by decide +kernel) rfl rfl rfl ?_
        refine sr_geti (q := 36) C fl_X12_405 (Or.inl rfl) hv0 (show decode cX12_fillWaiting 33 = .ok (.getfield 405, 3) from by decide +kernel) rfl (fun x33 => ?_)
        refine sr_iload_n (i := 1) (q := 37) C (show decode cX12_fillWaiting 36 = .ok (.iload_n 1, 1) from by decide +kernel) rfl rfl rfl ?_
        refine sr_iastore (q := 38) C (kt hv0 kp_12_26) (show decode cX12_fillWaiting 37 = .ok (.iastore, 1) from by decide +kernel) rfl ?_
        refine sr_aload_n (i := 0) (q := 39) C (show decode cX12_fillWaiting 38 = .ok (.aload_n 0, 1) from by decide +kernel) rfl rfl rfl ?_
        refine sr_dup (q := 40) C (show decode cX12_fillWaiting 39 = .ok (.dup, 1) from by decide +kernel) rfl rfl ?_
        refine sr_geti (q := 43) C fl_X12_405 (Or.inl rfl) hv0 (show decode cX12_fillWaiting 40 = .ok (.getfield 405, 3) from by decide +kernel) rfl (fun x40 => ?_)
        refine sr_iconst (v := (1 : Int32)) (q := 44) C (show decode cX12_fillWaiting 43 = .ok (.iconst 1, 1) from by decide +kernel) (by decide) rfl ?_
        refine sr_iadd (q := 45) C (show decode cX12_fillWaiting 44 = .ok (.iadd, 1) from by decide +kernel) rfl ?_
        refine sr_puti (q := 48) C fp_X12_405 hv0 (show decode cX12_fillWaiting 45 = .ok (.putfield 405, 3) from by decide +kernel) rfl ?_
        exact slX12_fillWaiting_J48 C K7 v0 v1 hv0
      · refine sr_goto (q := 48) C (show decode cX12_fillWaiting 25 = .ok (.goto 23, 3) from by decide +kernel) (by decide) ?_
        exact slX12_fillWaiting_J48 C K7 v0 v1 hv0
def fnX12_fillWaiting (v0 : Nat) : sm_M Unit := m_si v0 27 (0 : Int32) <| fnX12_fillWaiting_L7 4096 v0 (0 : Int32)
set_option maxHeartbeats 4000000 in
set_option maxRecDepth 100000 in
theorem slX12_fillWaiting {κ : sm_X} (C : sm_C κ RX12 cX12_fillWaiting 2 4) (v0 : Nat) (hv0 : kd v0 = 12) : sm_S κ (fun _ : Unit => .inr none) (.inl (0, [some (xad κ v0), none], [])) (fnX12_fillWaiting v0) := by
  unfold fnX12_fillWaiting
  refine sr_aload_n (i := 0) (q := 1) C (show decode cX12_fillWaiting 0 = .ok (.aload_n 0, 1) from by decide +kernel) rfl rfl rfl ?_
  refine sr_iconst (v := (0 : Int32)) (q := 2) C (show decode cX12_fillWaiting 1 = .ok (.iconst 0, 1) from by decide +kernel) (by decide) rfl ?_
  refine sr_puti (q := 5) C fp_X12_405 hv0 (show decode cX12_fillWaiting 2 = .ok (.putfield 405, 3) from by decide +kernel) rfl ?_
  refine sr_iconst (v := (0 : Int32)) (q := 6) C (show decode cX12_fillWaiting 5 = .ok (.iconst 0, 1) from by decide +kernel) (by decide) rfl ?_
  refine sr_istore_n (i := 1) (L' := [some (xad κ v0), some (.int (0 : Int32))]) (q := 7) C (show decode cX12_fillWaiting 6 = .ok (.istore_n 1, 1) from by decide +kernel) rfl (by decide) rfl rfl ?_
  exact slX12_fillWaiting_L7 C 4096 v0 (0 : Int32) hv0
theorem cnX12_fillWaiting (ω : sm_O) (v0 : Nat) (hv0 : kd v0 = 12) : sm_Mt 4 yX12_fillWaiting cX12_fillWaiting 2 none ω [.ref (ω.1 + v0)] (fun _ => none) (fnX12_fillWaiting v0) := by
  refine sm_conV (by decide) (Nat.le_of_ble_eq_true rfl) ?_
  intro κ hκ C
  subst hκ
  exact slX12_fillWaiting C v0 hv0
def fnX12_swaps (v0 : Nat) (v1 : Int32) (v2 : Int32) : sm_M Unit := m_ai (lk v0 28) v1 fun x5 => m_ai (lk v0 28) v2 fun x17 => m_sai (lk v0 28) v1 x17 <| m_sai (lk v0 28) v2 x5 <| m_ret ()
set_option maxHeartbeats 4000000 in
set_option maxRecDepth 100000 in
theorem slX12_swaps {κ : sm_X} (C : sm_C κ RX12 cX12_swaps 4 1) (v0 : Nat) (v1 : Int32) (v2 : Int32) (hv0 : kd v0 = 12) : sm_S κ (fun _ : Unit => .inr none) (.inl (0, [some (xad κ v0), some (.int v1), some (.int v2), none], [])) (fnX12_swaps v0 v1 v2) := by
  unfold fnX12_swaps
  refine sr_aload_n (i := 0) (q := 1) C (show decode cX12_swaps 0 = .ok (.aload_n 0, 1) from by decide +kernel) rfl rfl rfl ?_
  refine sr_getr (q := 4) C fl_X12_52 hv0 (show decode cX12_swaps 1 = .ok (.getfield 52, 3) from by decide +kernel) rfl ?_
  refine sr_iload_n (i := 1) (q := 5) C (show decode cX12_swaps 4 = .ok (.iload_n 1, 1) from by decide +kernel) rfl rfl rfl ?_
  refine sr_iaload (q := 6) C (kt hv0 kp_12_28) (show decode cX12_swaps 5 = .ok (.iaload, 1) from by decide +kernel) rfl (fun x5 => ?_)
  refine sr_istore_n (i := 3) (L' := [some (xad κ v0), some (.int v1), some (.int v2), some (.int x5)]) (q := 7) C (show decode cX12_swaps 6 = .ok (.istore_n 3, 1) from by decide +kernel) rfl (by decide) rfl rfl ?_
  refine sr_aload_n (i := 0) (q := 8) C (show decode cX12_swaps 7 = .ok (.aload_n 0, 1) from by decide +kernel) rfl rfl rfl ?_
  refine sr_getr (q := 11) C fl_X12_52 hv0 (show decode cX12_swaps 8 = .ok (.getfield 52, 3) from by decide +kernel) rfl ?_
  refine sr_iload_n (i := 1) (q := 12) C (show decode cX12_swaps 11 = .ok (.iload_n 1, 1) from by decide +kernel) rfl rfl rfl ?_
  refine sr_aload_n (i := 0) (q := 13) C (show decode cX12_swaps 12 = .ok (.aload_n 0, 1) from by decide +kernel) rfl rfl rfl ?_
  refine sr_getr (q := 16) C fl_X12_52 hv0 (show decode cX12_swaps 13 = .ok (.getfield 52, 3) from by decide +kernel) rfl ?_
  refine sr_iload_n (i := 2) (q := 17) C (show decode cX12_swaps 16 = .ok (.iload_n 2, 1) from by decide +kernel) rfl rfl rfl ?_
  refine sr_iaload (q := 18) C (kt hv0 kp_12_28) (show decode cX12_swaps 17 = .ok (.iaload, 1) from by decide +kernel) rfl (fun x17 => ?_)
  refine sr_iastore (q := 19) C (kt hv0 kp_12_28) (show decode cX12_swaps 18 = .ok (.iastore, 1) from by decide +kernel) rfl ?_
  refine sr_aload_n (i := 0) (q := 20) C (show decode cX12_swaps 19 = .ok (.aload_n 0, 1) from by decide +kernel) rfl rfl rfl ?_
  refine sr_getr (q := 23) C fl_X12_52 hv0 (show decode cX12_swaps 20 = .ok (.getfield 52, 3) from by decide +kernel) rfl ?_
  refine sr_iload_n (i := 2) (q := 24) C (show decode cX12_swaps 23 = .ok (.iload_n 2, 1) from by decide +kernel) rfl rfl rfl ?_
  refine sr_iload_n (i := 3) (q := 25) C (show decode cX12_swaps 24 = .ok (.iload_n 3, 1) from by decide +kernel) rfl rfl rfl ?_
  refine sr_iastore (q := 26) C (kt hv0 kp_12_28) (show decode cX12_swaps 25 = .ok (.iastore, 1) from by decide +kernel) rfl ?_
  exact sr_vreturn C _ rfl (show decode cX12_swaps 26 = .ok (.return_, 1) from by decide +kernel)
theorem cnX12_swaps (ω : sm_O) (v0 : Nat) (v1 : Int32) (v2 : Int32) (hv0 : kd v0 = 12) : sm_Mt 1 yX12_swaps cX12_swaps 4 none ω [.ref (ω.1 + v0), .int v1, .int v2] (fun _ => none) (fnX12_swaps v0 v1 v2) := by
  refine sm_conV (by decide) (Nat.le_of_ble_eq_true rfl) ?_
  intro κ hκ C
  subst hκ
  exact slX12_swaps C v0 v1 v2 hv0
def fnX12_nextOrder_L86 : Nat → Nat → Int32 → Int32 → sm_M Bool
  | 0, _, _, _ => m_fail
  | n + 1, v0, v3, v4 => m_br (v4 ≤ v3)
    (m_ret true)
    (m_bnd (fnX12_swaps v0 v3 v4) fun _ => (fnX12_nextOrder_L86 n) v0 (v3 + (1 : Int32)) (v4 + (-1 : Int32)))
set_option maxHeartbeats 4000000 in
set_option maxRecDepth 100000 in
theorem slX12_nextOrder_L86 {κ : sm_X} (C : sm_C κ RX12 cX12_nextOrder 5 2) : ∀ (n : Nat) (v0 : Nat) (v3 : Int32) (v4 : Int32) (hv0 : kd v0 = 12), sm_S κ (fun r : Bool => .inr (some (.int (bI r)))) (.inl (86, [some (xad κ v0), none, none, some (.int v3), some (.int v4)], [])) (fnX12_nextOrder_L86 n v0 v3 v4) := by
  intro n
  induction n with
  | zero =>
    intros
    exact sr_fail
  | succ n K86 =>
    intro v0 v3 v4 hv0
    unfold fnX12_nextOrder_L86
    refine sr_iload_n (i := 3) (q := 87) C (show decode cX12_nextOrder 86 = .ok (.iload_n 3, 1) from by decide +kernel) rfl rfl rfl ?_
    refine sr_iload (i := 4) (q := 89) C (show decode cX12_nextOrder 87 = .ok (.iload 4, 2) from by decide +kernel) rfl rfl ?_
    refine sr_icmp_ge (q := 92) C 108 (show decode cX12_nextOrder 89 = .ok (.if_icmp .ge 19, 3) from by decide +kernel) (by decide) rfl ?_ ?_
    · refine sr_iconst (v := (1 : Int32)) (q := 109) C (show decode cX12_nextOrder 108 = .ok (.iconst 1, 1) from by decide +kernel) (by decide) rfl ?_
      exact sr_ireturn C true rfl (show decode cX12_nextOrder 109 = .ok (.ireturn, 1) from by decide +kernel)
    · refine sr_aload_n (i := 0) (q := 93) C (show decode cX12_nextOrder 92 = .ok (.aload_n 0, 1) from by decide +kernel) rfl rfl rfl ?_
      refine sr_iload_n (i := 3) (q := 94) C (show decode cX12_nextOrder 93 = .ok (.iload_n 3, 1) from by decide +kernel) rfl rfl rfl ?_
      refine sr_iload (i := 4) (q := 96) C (show decode cX12_nextOrder 94 = .ok (.iload 4, 2) from by decide +kernel) rfl rfl ?_
      refine sr_cVv (As := [.int v3, .int v4]) (st := []) (b := v0) (q := 99) C yvX12_swaps ml_X12_408 (cnX12_swaps (xo κ) v0 v3 v4 hv0) hv0 (by decide) rfl rfl rfl (by decide) (by decide) (Nat.le_of_ble_eq_true rfl) rfl (show decode cX12_nextOrder 96 = .ok (.invokevirtual 408, 3) from by decide +kernel) rfl (fun _ => ?_)
      refine sr_iinc (v := v3 + (1 : Int32)) (L' := [some (xad κ v0), none, none, some (.int (v3 + (1 : Int32))), some (.int v4)]) (q := 102) C (show decode cX12_nextOrder 99 = .ok (.iinc 3 1, 3) from by decide +kernel) rfl rfl (by decide) rfl rfl ?_
      refine sr_iinc (v := v4 + (-1 : Int32)) (L' := [some (xad κ v0), none, none, some (.int (v3 + (1 : Int32))), some (.int (v4 + (-1 : Int32)))]) (q := 105) C (show decode cX12_nextOrder 102 = .ok (.iinc 4 (-1), 3) from by decide +kernel) rfl rfl (by decide) rfl rfl ?_
      refine sr_goto (q := 86) C (show decode cX12_nextOrder 105 = .ok (.goto (-19), 3) from by decide +kernel) (by decide) ?_
      exact K86 v0 (v3 + (1 : Int32)) (v4 + (-1 : Int32)) hv0
def fnX12_nextOrder_J68 (v0 : Nat) (v1 : Int32) (v2 : Int32) : sm_M Bool := m_bnd (fnX12_swaps v0 v1 v2) fun _ => m_nm (v1 + (1 : Int32)) fun y77 => m_gi v0 27 fun x79 => m_nm (x79 - (1 : Int32)) fun y84 => fnX12_nextOrder_L86 4096 v0 y77 y84
set_option maxHeartbeats 4000000 in
set_option maxRecDepth 100000 in
theorem slX12_nextOrder_J68 {κ : sm_X} (C : sm_C κ RX12 cX12_nextOrder 5 2) (v0 : Nat) (v1 : Int32) (v2 : Int32) (hv0 : kd v0 = 12) : sm_S κ (fun r : Bool => .inr (some (.int (bI r)))) (.inl (68, [some (xad κ v0), some (.int v1), some (.int v2), none, none], [])) (fnX12_nextOrder_J68 v0 v1 v2) := by
  unfold fnX12_nextOrder_J68
  refine sr_aload_n (i := 0) (q := 69) C (show decode cX12_nextOrder 68 = .ok (.aload_n 0, 1) from by decide +kernel) rfl rfl rfl ?_
  refine sr_iload_n (i := 1) (q := 70) C (show decode cX12_nextOrder 69 = .ok (.iload_n 1, 1) from by decide +kernel) rfl rfl rfl ?_
  refine sr_iload_n (i := 2) (q := 71) C (show decode cX12_nextOrder 70 = .ok (.iload_n 2, 1) from by decide +kernel) rfl rfl rfl ?_
  refine sr_cVv (As := [.int v1, .int v2]) (st := []) (b := v0) (q := 74) C yvX12_swaps ml_X12_408 (cnX12_swaps (xo κ) v0 v1 v2 hv0) hv0 (by decide) rfl rfl rfl (by decide) (by decide) (Nat.le_of_ble_eq_true rfl) rfl (show decode cX12_nextOrder 71 = .ok (.invokevirtual 408, 3) from by decide +kernel) rfl (fun _ => ?_)
  refine sr_iload_n (i := 1) (q := 75) C (show decode cX12_nextOrder 74 = .ok (.iload_n 1, 1) from by decide +kernel) rfl rfl rfl ?_
  refine sr_iconst (v := (1 : Int32)) (q := 76) C (show decode cX12_nextOrder 75 = .ok (.iconst 1, 1) from by decide +kernel) (by decide) rfl ?_
  refine sr_iadd (q := 77) C (show decode cX12_nextOrder 76 = .ok (.iadd, 1) from by decide +kernel) rfl ?_
  refine sr_nmi (fun y77 => ?_)
  refine sr_istore_n (i := 3) (L' := [some (xad κ v0), some (.int v1), some (.int v2), some (.int y77), none]) (q := 78) C (show decode cX12_nextOrder 77 = .ok (.istore_n 3, 1) from by decide +kernel) rfl (by decide) rfl rfl ?_
  refine sr_aload_n (i := 0) (q := 79) C (show decode cX12_nextOrder 78 = .ok (.aload_n 0, 1) from by decide +kernel) rfl rfl rfl ?_
  refine sr_geti (q := 82) C fl_X12_405 (Or.inl rfl) hv0 (show decode cX12_nextOrder 79 = .ok (.getfield 405, 3) from by decide +kernel) rfl (fun x79 => ?_)
  refine sr_iconst (v := (1 : Int32)) (q := 83) C (show decode cX12_nextOrder 82 = .ok (.iconst 1, 1) from by decide +kernel) (by decide) rfl ?_
  refine sr_isub (q := 84) C (show decode cX12_nextOrder 83 = .ok (.isub, 1) from by decide +kernel) rfl ?_
  refine sr_nmi (fun y84 => ?_)
  refine sr_istore (i := 4) (L' := [some (xad κ v0), some (.int v1), some (.int v2), some (.int y77), some (.int y84)]) (q := 86) C (show decode cX12_nextOrder 84 = .ok (.istore 4, 2) from by decide +kernel) (by decide) rfl rfl ?_
  refine sr_weak (L' := [some (xad κ v0), none, none, some (.int y77), some (.int y84)]) ⟨rfl, rfl, rfl, trivial⟩ ?_
  exact slX12_nextOrder_L86 C 4096 v0 y77 y84 hv0
def fnX12_nextOrder_L47 : Nat → Nat → Int32 → Int32 → sm_M Bool
  | 0, _, _, _ => m_fail
  | n + 1, v0, v1, v2 => m_ai (lk v0 28) v2 fun x52 => m_ai (lk v0 28) v1 fun x58 => m_br (x58 ≤ x52)
    (fnX12_nextOrder_J68 v0 v1 v2)
    ((fnX12_nextOrder_L47 n) v0 v1 (v2 + (-1 : Int32)))
set_option maxHeartbeats 4000000 in
set_option maxRecDepth 100000 in
theorem slX12_nextOrder_L47 {κ : sm_X} (C : sm_C κ RX12 cX12_nextOrder 5 2) : ∀ (n : Nat) (v0 : Nat) (v1 : Int32) (v2 : Int32) (hv0 : kd v0 = 12), sm_S κ (fun r : Bool => .inr (some (.int (bI r)))) (.inl (47, [some (xad κ v0), some (.int v1), some (.int v2), none, none], [])) (fnX12_nextOrder_L47 n v0 v1 v2) := by
  intro n
  induction n with
  | zero =>
    intros
    exact sr_fail
  | succ n K47 =>
    intro v0 v1 v2 hv0
    unfold fnX12_nextOrder_L47
    refine sr_aload_n (i := 0) (q := 48) C (show decode cX12_nextOrder 47 = .ok (.aload_n 0, 1) from by decide +kernel) rfl rfl rfl ?_
    refine sr_getr (q := 51) C fl_X12_52 hv0 (show decode cX12_nextOrder 48 = .ok (.getfield 52, 3) from by decide +kernel) rfl ?_
    refine sr_iload_n (i := 2) (q := 52) C (show decode cX12_nextOrder 51 = .ok (.iload_n 2, 1) from by decide +kernel) rfl rfl rfl ?_
    refine sr_iaload (q := 53) C (kt hv0 kp_12_28) (show decode cX12_nextOrder 52 = .ok (.iaload, 1) from by decide +kernel) rfl (fun x52 => ?_)
    refine sr_aload_n (i := 0) (q := 54) C (show decode cX12_nextOrder 53 = .ok (.aload_n 0, 1) from by decide +kernel) rfl rfl rfl ?_
    refine sr_getr (q := 57) C fl_X12_52 hv0 (show decode cX12_nextOrder 54 = .ok (.getfield 52, 3) from by decide +kernel) rfl ?_
    refine sr_iload_n (i := 1) (q := 58) C (show decode cX12_nextOrder 57 = .ok (.iload_n 1, 1) from by decide +kernel) rfl rfl rfl ?_
    refine sr_iaload (q := 59) C (kt hv0 kp_12_28) (show decode cX12_nextOrder 58 = .ok (.iaload, 1) from by decide +kernel) rfl (fun x58 => ?_)
    refine sr_icmp_ge (q := 62) C 68 (show decode cX12_nextOrder 59 = .ok (.if_icmp .ge 9, 3) from by decide +kernel) (by decide) rfl ?_ ?_
    · exact slX12_nextOrder_J68 C v0 v1 v2 hv0
    · refine sr_iinc (v := v2 + (-1 : Int32)) (L' := [some (xad κ v0), some (.int v1), some (.int (v2 + (-1 : Int32))), none, none]) (q := 65) C (show decode cX12_nextOrder 62 = .ok (.iinc 2 (-1), 3) from by decide +kernel) rfl rfl (by decide) rfl rfl ?_
      refine sr_goto (q := 47) C (show decode cX12_nextOrder 65 = .ok (.goto (-18), 3) from by decide +kernel) (by decide) ?_
      exact K47 v0 v1 (v2 + (-1 : Int32)) hv0
def fnX12_nextOrder_J34 (v0 : Nat) (v1 : Int32) : sm_M Bool := m_br (0 ≤ v1)
    (m_gi v0 27 fun x41 => m_nm (x41 - (1 : Int32)) fun y46 => fnX12_nextOrder_L47 4096 v0 v1 y46)
    (m_ret false)
set_option maxHeartbeats 4000000 in
set_option maxRecDepth 100000 in
theorem slX12_nextOrder_J34 {κ : sm_X} (C : sm_C κ RX12 cX12_nextOrder 5 2) (v0 : Nat) (v1 : Int32) (hv0 : kd v0 = 12) : sm_S κ (fun r : Bool => .inr (some (.int (bI r)))) (.inl (34, [some (xad κ v0), some (.int v1), none, none, none], [])) (fnX12_nextOrder_J34 v0 v1) := by
  unfold fnX12_nextOrder_J34
  refine sr_iload_n (i := 1) (q := 35) C (show decode cX12_nextOrder 34 = .ok (.iload_n 1, 1) from by decide +kernel) rfl rfl rfl ?_
  refine sr_if_ge (q := 38) C 40 (show decode cX12_nextOrder 35 = .ok (.ifCond .ge 5, 3) from by decide +kernel) (by decide) rfl ?_ ?_
  · refine sr_aload_n (i := 0) (q := 41) C (show decode cX12_nextOrder 40 = .ok (.aload_n 0, 1) from by decide +kernel) rfl rfl rfl ?_
    refine sr_geti (q := 44) C fl_X12_405 (Or.inl rfl) hv0 (show decode cX12_nextOrder 41 = .ok (.getfield 405, 3) from by decide +kernel) rfl (fun x41 => ?_)
    refine sr_iconst (v := (1 : Int32)) (q := 45) C (show decode cX12_nextOrder 44 = .ok (.iconst 1, 1) from by decide +kernel) (by decide) rfl ?_
    refine sr_isub (q := 46) C (show decode cX12_nextOrder 45 = .ok (.isub, 1) from by decide +kernel) rfl ?_
    refine sr_nmi (fun y46 => ?_)
    refine sr_istore_n (i := 2) (L' := [some (xad κ v0), some (.int v1), some (.int y46), none, none]) (q := 47) C (show decode cX12_nextOrder 46 = .ok (.istore_n 2, 1) from by decide +kernel) rfl (by decide) rfl rfl ?_
    exact slX12_nextOrder_L47 C 4096 v0 v1 y46 hv0
  · refine sr_iconst (v := (0 : Int32)) (q := 39) C (show decode cX12_nextOrder 38 = .ok (.iconst 0, 1) from by decide +kernel) (by decide) rfl ?_
    exact sr_ireturn C false rfl (show decode cX12_nextOrder 39 = .ok (.ireturn, 1) from by decide +kernel)
def fnX12_nextOrder_L7 : Nat → Nat → Int32 → sm_M Bool
  | 0, _, _ => m_fail
  | n + 1, v0, v1 => m_br (v1 < 0)
    (fnX12_nextOrder_J34 v0 v1)
    (m_ai (lk v0 28) v1 fun x16 => m_ai (lk v0 28) (v1 + (1 : Int32)) fun x24 => m_br (x16 ≤ x24)
    (fnX12_nextOrder_J34 v0 v1)
    ((fnX12_nextOrder_L7 n) v0 (v1 + (-1 : Int32))))
set_option maxHeartbeats 4000000 in
set_option maxRecDepth 100000 in
theorem slX12_nextOrder_L7 {κ : sm_X} (C : sm_C κ RX12 cX12_nextOrder 5 2) : ∀ (n : Nat) (v0 : Nat) (v1 : Int32) (hv0 : kd v0 = 12), sm_S κ (fun r : Bool => .inr (some (.int (bI r)))) (.inl (7, [some (xad κ v0), some (.int v1), none, none, none], [])) (fnX12_nextOrder_L7 n v0 v1) := by
  intro n
  induction n with
  | zero =>
    intros
    exact sr_fail
  | succ n K7 =>
    intro v0 v1 hv0
    unfold fnX12_nextOrder_L7
    refine sr_iload_n (i := 1) (q := 8) C (show decode cX12_nextOrder 7 = .ok (.iload_n 1, 1) from by decide +kernel) rfl rfl rfl ?_
    refine sr_if_lt (q := 11) C 34 (show decode cX12_nextOrder 8 = .ok (.ifCond .lt 26, 3) from by decide +kernel) (by decide) rfl ?_ ?_
    · exact slX12_nextOrder_J34 C v0 v1 hv0
    · refine sr_aload_n (i := 0) (q := 12) C (show decode cX12_nextOrder 11 = .ok (.aload_n 0, 1) from by decide +kernel) rfl rfl rfl ?_
      refine sr_getr (q := 15) C fl_X12_52 hv0 (show decode cX12_nextOrder 12 = .ok (.getfield 52, 3) from by decide +kernel) rfl ?_
      refine sr_iload_n (i := 1) (q := 16) C (show decode cX12_nextOrder 15 = .ok (.iload_n 1, 1) from by decide +kernel) rfl rfl rfl ?_
      refine sr_iaload (q := 17) C (kt hv0 kp_12_28) (show decode cX12_nextOrder 16 = .ok (.iaload, 1) from by decide +kernel) rfl (fun x16 => ?_)
      refine sr_aload_n (i := 0) (q := 18) C (show decode cX12_nextOrder 17 = .ok (.aload_n 0, 1) from by decide +kernel) rfl rfl rfl ?_
      refine sr_getr (q := 21) C fl_X12_52 hv0 (show decode cX12_nextOrder 18 = .ok (.getfield 52, 3) from by decide +kernel) rfl ?_
      refine sr_iload_n (i := 1) (q := 22) C (show decode cX12_nextOrder 21 = .ok (.iload_n 1, 1) from by decide +kernel) rfl rfl rfl ?_
      refine sr_iconst (v := (1 : Int32)) (q := 23) C (show decode cX12_nextOrder 22 = .ok (.iconst 1, 1) from by decide +kernel) (by decide) rfl ?_
      refine sr_iadd (q := 24) C (show decode cX12_nextOrder 23 = .ok (.iadd, 1) from by decide +kernel) rfl ?_
      refine sr_iaload (q := 25) C (kt hv0 kp_12_28) (show decode cX12_nextOrder 24 = .ok (.iaload, 1) from by decide +kernel) rfl (fun x24 => ?_)
      refine sr_icmp_le (q := 28) C 34 (show decode cX12_nextOrder 25 = .ok (.if_icmp .le 9, 3) from by decide +kernel) (by decide) rfl ?_ ?_
      · exact slX12_nextOrder_J34 C v0 v1 hv0
      · refine sr_iinc (v := v1 + (-1 : Int32)) (L' := [some (xad κ v0), some (.int (v1 + (-1 : Int32))), none, none, none]) (q := 31) C (show decode cX12_nextOrder 28 = .ok (.iinc 1 (-1), 3) from by decide +kernel) rfl rfl (by decide) rfl rfl ?_
        refine sr_goto (q := 7) C (show decode cX12_nextOrder 31 = .ok (.goto (-24), 3) from by decide +kernel) (by decide) ?_
        exact K7 v0 (v1 + (-1 : Int32)) hv0
def fnX12_nextOrder (v0 : Nat) : sm_M Bool := m_gi v0 27 fun x1 => m_nm (x1 - (2 : Int32)) fun y6 => fnX12_nextOrder_L7 4096 v0 y6
set_option maxHeartbeats 4000000 in
set_option maxRecDepth 100000 in
theorem slX12_nextOrder {κ : sm_X} (C : sm_C κ RX12 cX12_nextOrder 5 2) (v0 : Nat) (hv0 : kd v0 = 12) : sm_S κ (fun r : Bool => .inr (some (.int (bI r)))) (.inl (0, [some (xad κ v0), none, none, none, none], [])) (fnX12_nextOrder v0) := by
  unfold fnX12_nextOrder
  refine sr_aload_n (i := 0) (q := 1) C (show decode cX12_nextOrder 0 = .ok (.aload_n 0, 1) from by decide +kernel) rfl rfl rfl ?_
  refine sr_geti (q := 4) C fl_X12_405 (Or.inl rfl) hv0 (show decode cX12_nextOrder 1 = .ok (.getfield 405, 3) from by decide +kernel) rfl (fun x1 => ?_)
  refine sr_iconst (v := (2 : Int32)) (q := 5) C (show decode cX12_nextOrder 4 = .ok (.iconst 2, 1) from by decide +kernel) (by decide) rfl ?_
  refine sr_isub (q := 6) C (show decode cX12_nextOrder 5 = .ok (.isub, 1) from by decide +kernel) rfl ?_
  refine sr_nmi (fun y6 => ?_)
  refine sr_istore_n (i := 1) (L' := [some (xad κ v0), some (.int y6), none, none, none]) (q := 7) C (show decode cX12_nextOrder 6 = .ok (.istore_n 1, 1) from by decide +kernel) rfl (by decide) rfl rfl ?_
  exact slX12_nextOrder_L7 C 4096 v0 y6 hv0
theorem cnX12_nextOrder (ω : sm_O) (v0 : Nat) (hv0 : kd v0 = 12) : sm_Mt 2 yX12_nextOrder cX12_nextOrder 5 (some .boolean) ω [.ref (ω.1 + v0)] (fun a => some (.int (bI a))) (fnX12_nextOrder v0) := by
  refine sm_conI (r := bI) (by decide) bI_nar (Nat.le_of_ble_eq_true rfl) ?_
  intro κ hκ C
  subst hκ
  exact slX12_nextOrder C v0 hv0
def fnX12_findsOrder_J160 (k40 : Nat → Int32 → Int32 → sm_M Unit) (v0 : Nat) (v1 : Int32) : sm_M Unit := m_bnd (fnX12_nextOrder v0) fun x161 => k40 v0 v1 (bI x161)
set_option maxHeartbeats 4000000 in
set_option maxRecDepth 100000 in
theorem slX12_findsOrder_J160 {κ : sm_X} (C : sm_C κ RX12 cX12_findsOrder 4 10) {k40 : Nat → Int32 → Int32 → sm_M Unit} (K40 : ∀ (v0 : Nat) (v1 : Int32) (v2 : Int32) (hv0 : kd v0 = 12), sm_S κ (fun _ : Unit => .inr none) (.inl (40, [some (xad κ v0), some (.int v1), some (.int v2), none], [])) (k40 v0 v1 v2)) (v0 : Nat) (v1 : Int32) (hv0 : kd v0 = 12) : sm_S κ (fun _ : Unit => .inr none) (.inl (160, [some (xad κ v0), some (.int v1), none, none], [])) (fnX12_findsOrder_J160 k40 v0 v1) := by
  unfold fnX12_findsOrder_J160
  refine sr_aload_n (i := 0) (q := 161) C (show decode cX12_findsOrder 160 = .ok (.aload_n 0, 1) from by decide +kernel) rfl rfl rfl ?_
  refine sr_cVz (As := []) (st := []) (b := v0) (q := 164) C yvX12_nextOrder ml_X12_417 (cnX12_nextOrder (xo κ) v0 hv0) hv0 (by decide) rfl rfl rfl (by decide) (by decide) (Nat.le_of_ble_eq_true rfl) rfl (show decode cX12_findsOrder 161 = .ok (.invokevirtual 417, 3) from by decide +kernel) rfl (fun x161 => ?_)
  refine sr_istore_n (i := 2) (L' := [some (xad κ v0), some (.int v1), some (.int (bI x161)), none]) (q := 165) C (show decode cX12_findsOrder 164 = .ok (.istore_n 2, 1) from by decide +kernel) rfl (by decide) rfl rfl ?_
  refine sr_goto (q := 40) C (show decode cX12_findsOrder 165 = .ok (.goto (-125), 3) from by decide +kernel) (by decide) ?_
  exact K40 v0 v1 (bI x161) hv0
def fnX12_findsOrder_L134 (k40 : Nat → Int32 → Int32 → sm_M Unit) : Nat → Nat → Int32 → Int32 → sm_M Unit
  | 0, _, _, _ => m_fail
  | n + 1, v0, v1, v3 => m_gi v0 27 fun x136 => m_br (x136 ≤ v3)
    (fnX12_findsOrder_J160 k40 v0 v1)
    (m_ai (lk v0 28) v3 fun x152 => m_sai (lk v0 29) v3 x152 <| (fnX12_findsOrder_L134 k40 n) v0 v1 (v3 + (1 : Int32)))
set_option maxHeartbeats 4000000 in
set_option maxRecDepth 100000 in
theorem slX12_findsOrder_L134 {κ : sm_X} (C : sm_C κ RX12 cX12_findsOrder 4 10) {k40 : Nat → Int32 → Int32 → sm_M Unit} (K40 : ∀ (v0 : Nat) (v1 : Int32) (v2 : Int32) (hv0 : kd v0 = 12), sm_S κ (fun _ : Unit => .inr none) (.inl (40, [some (xad κ v0), some (.int v1), some (.int v2), none], [])) (k40 v0 v1 v2)) : ∀ (n : Nat) (v0 : Nat) (v1 : Int32) (v3 : Int32) (hv0 : kd v0 = 12), sm_S κ (fun _ : Unit => .inr none) (.inl (134, [some (xad κ v0), some (.int v1), none, some (.int v3)], [])) (fnX12_findsOrder_L134 k40 n v0 v1 v3) := by
  intro n
  induction n with
  | zero =>
    intros
    exact sr_fail
  | succ n K134 =>
    intro v0 v1 v3 hv0
    unfold fnX12_findsOrder_L134
    refine sr_iload_n (i := 3) (q := 135) C (show decode cX12_findsOrder 134 = .ok (.iload_n 3, 1) from by decide +kernel) rfl rfl rfl ?_
    refine sr_aload_n (i := 0) (q := 136) C (show decode cX12_findsOrder 135 = .ok (.aload_n 0, 1) from by decide +kernel) rfl rfl rfl ?_
    refine sr_geti (q := 139) C fl_X12_405 (Or.inl rfl) hv0 (show decode cX12_findsOrder 136 = .ok (.getfield 405, 3) from by decide +kernel) rfl (fun x136 => ?_)
    refine sr_icmp_ge (q := 142) C 160 (show decode cX12_findsOrder 139 = .ok (.if_icmp .ge 21, 3) from by decide +kernel) (by decide) rfl ?_ ?_
    · refine sr_weak (L' := [some (xad κ v0), some (.int v1), none, none]) ⟨rfl, rfl, trivial⟩ ?_
      exact slX12_findsOrder_J160 C K40 v0 v1 hv0
    · refine sr_aload_n (i := 0) (q := 143) C (show decode cX12_findsOrder 142 = .ok (.aload_n 0, 1) from by decide +kernel) rfl rfl rfl ?_
      refine sr_getr (q := 146) C fl_X12_55 hv0 (show decode cX12_findsOrder 143 = .ok (.getfield 55, 3) from by decide +kernel) rfl ?_
      refine sr_iload_n (i := 3) (q := 147) C (show decode cX12_findsOrder 146 = .ok (.iload_n 3, 1) from by decide +kernel) rfl rfl rfl ?_
      refine sr_aload_n (i := 0) (q := 148) C (show decode cX12_findsOrder 147 = .ok (.aload_n 0, 1) from by decide +kernel) rfl rfl rfl ?_
      refine sr_getr (q := 151) C fl_X12_52 hv0 (show decode cX12_findsOrder 148 = .ok (.getfield 52, 3) from by decide +kernel) rfl ?_
      refine sr_iload_n (i := 3) (q := 152) C (show decode cX12_findsOrder 151 = .ok (.iload_n 3, 1) from by decide +kernel) rfl rfl rfl ?_
      refine sr_iaload (q := 153) C (kt hv0 kp_12_28) (show decode cX12_findsOrder 152 = .ok (.iaload, 1) from by decide +kernel) rfl (fun x152 => ?_)
      refine sr_iastore (q := 154) C (kt hv0 kp_12_29) (show decode cX12_findsOrder 153 = .ok (.iastore, 1) from by decide +kernel) rfl ?_
      refine sr_iinc (v := v3 + (1 : Int32)) (L' := [some (xad κ v0), some (.int v1), none, some (.int (v3 + (1 : Int32)))]) (q := 157) C (show decode cX12_findsOrder 154 = .ok (.iinc 3 1, 3) from by decide +kernel) rfl rfl (by decide) rfl rfl ?_
      refine sr_goto (q := 134) C (show decode cX12_findsOrder 157 = .ok (.goto (-23), 3) from by decide +kernel) (by decide) ?_
      exact K134 v0 v1 (v3 + (1 : Int32)) hv0
def fnX12_findsOrder_J116 (k40 : Nat → Int32 → Int32 → sm_M Unit) (v0 : Nat) (v1 : Int32) : sm_M Unit := m_gi v0 25 fun x118 => m_si v0 31 x118 <| m_gi v0 23 fun x126 => m_si v0 30 x126 <| fnX12_findsOrder_L134 k40 4096 v0 v1 (0 : Int32)
set_option maxHeartbeats 4000000 in
set_option maxRecDepth 100000 in
theorem slX12_findsOrder_J116 {κ : sm_X} (C : sm_C κ RX12 cX12_findsOrder 4 10) {k40 : Nat → Int32 → Int32 → sm_M Unit} (K40 : ∀ (v0 : Nat) (v1 : Int32) (v2 : Int32) (hv0 : kd v0 = 12), sm_S κ (fun _ : Unit => .inr none) (.inl (40, [some (xad κ v0), some (.int v1), some (.int v2), none], [])) (k40 v0 v1 v2)) (v0 : Nat) (v1 : Int32) (hv0 : kd v0 = 12) : sm_S κ (fun _ : Unit => .inr none) (.inl (116, [some (xad κ v0), some (.int v1), none, none], [])) (fnX12_findsOrder_J116 k40 v0 v1) := by
  unfold fnX12_findsOrder_J116
  refine sr_aload_n (i := 0) (q := 117) C (show decode cX12_findsOrder 116 = .ok (.aload_n 0, 1) from by decide +kernel) rfl rfl rfl ?_
  refine sr_aload_n (i := 0) (q := 118) C (show decode cX12_findsOrder 117 = .ok (.aload_n 0, 1) from by decide +kernel) rfl rfl rfl ?_
  refine sr_geti (q := 121) C fl_X12_381 (Or.inl rfl) hv0 (show decode cX12_findsOrder 118 = .ok (.getfield 381, 3) from by decide +kernel) rfl (fun x118 => ?_)
  refine sr_puti (q := 124) C fp_X12_411 hv0 (show decode cX12_findsOrder 121 = .ok (.putfield 411, 3) from by decide +kernel) rfl ?_
  refine sr_aload_n (i := 0) (q := 125) C (show decode cX12_findsOrder 124 = .ok (.aload_n 0, 1) from by decide +kernel) rfl rfl rfl ?_
  refine sr_aload_n (i := 0) (q := 126) C (show decode cX12_findsOrder 125 = .ok (.aload_n 0, 1) from by decide +kernel) rfl rfl rfl ?_
  refine sr_geti (q := 129) C fl_X12_375 (Or.inl rfl) hv0 (show decode cX12_findsOrder 126 = .ok (.getfield 375, 3) from by decide +kernel) rfl (fun x126 => ?_)
  refine sr_puti (q := 132) C fp_X12_414 hv0 (show decode cX12_findsOrder 129 = .ok (.putfield 414, 3) from by decide +kernel) rfl ?_
  refine sr_iconst (v := (0 : Int32)) (q := 133) C (show decode cX12_findsOrder 132 = .ok (.iconst 0, 1) from by decide +kernel) (by decide) rfl ?_
  refine sr_istore_n (i := 3) (L' := [some (xad κ v0), some (.int v1), none, some (.int (0 : Int32))]) (q := 134) C (show decode cX12_findsOrder 133 = .ok (.istore_n 3, 1) from by decide +kernel) rfl (by decide) rfl rfl ?_
  exact slX12_findsOrder_L134 C K40 4096 v0 v1 (0 : Int32) hv0
def fnX12_findsOrder_J79 (k40 : Nat → Int32 → Int32 → sm_M Unit) (v0 : Nat) (v1 : Int32) : sm_M Unit := m_bnd (fnX12_wakes v0) fun _ => m_gi v0 25 fun x84 => m_gi v0 31 fun x88 => m_br (x88 < x84)
    (fnX12_findsOrder_J116 k40 v0 v1)
    (m_gi v0 25 fun x95 => m_gi v0 31 fun x99 => m_br (x95 = x99)
    (m_gi v0 23 fun x106 => m_gi v0 30 fun x110 => m_br (x106 ≤ x110)
    (fnX12_findsOrder_J160 k40 v0 v1)
    (fnX12_findsOrder_J116 k40 v0 v1))
    (fnX12_findsOrder_J160 k40 v0 v1))
set_option maxHeartbeats 4000000 in
set_option maxRecDepth 100000 in
theorem slX12_findsOrder_J79 {κ : sm_X} (C : sm_C κ RX12 cX12_findsOrder 4 10) {k40 : Nat → Int32 → Int32 → sm_M Unit} (K40 : ∀ (v0 : Nat) (v1 : Int32) (v2 : Int32) (hv0 : kd v0 = 12), sm_S κ (fun _ : Unit => .inr none) (.inl (40, [some (xad κ v0), some (.int v1), some (.int v2), none], [])) (k40 v0 v1 v2)) (v0 : Nat) (v1 : Int32) (hv0 : kd v0 = 12) : sm_S κ (fun _ : Unit => .inr none) (.inl (79, [some (xad κ v0), some (.int v1), none, none], [])) (fnX12_findsOrder_J79 k40 v0 v1) := by
  unfold fnX12_findsOrder_J79
  refine sr_aload_n (i := 0) (q := 80) C (show decode cX12_findsOrder 79 = .ok (.aload_n 0, 1) from by decide +kernel) rfl rfl rfl ?_
  refine sr_cVv (As := []) (st := []) (b := v0) (q := 83) C yvX12_wakes ml_X12_345 (cnX12_wakes (xo κ) v0 hv0) hv0 (by decide) rfl rfl rfl (by decide) (by decide) (Nat.le_of_ble_eq_true rfl) rfl (show decode cX12_findsOrder 80 = .ok (.invokevirtual 345, 3) from by decide +kernel) rfl (fun _ => ?_)
  refine sr_aload_n (i := 0) (q := 84) C (show decode cX12_findsOrder 83 = .ok (.aload_n 0, 1) from by decide +kernel) rfl rfl rfl ?_
  refine sr_geti (q := 87) C fl_X12_381 (Or.inl rfl) hv0 (show decode cX12_findsOrder 84 = .ok (.getfield 381, 3) from by decide +kernel) rfl (fun x84 => ?_)
  refine sr_aload_n (i := 0) (q := 88) C (show decode cX12_findsOrder 87 = .ok (.aload_n 0, 1) from by decide +kernel) rfl rfl rfl ?_
  refine sr_geti (q := 91) C fl_X12_411 (Or.inl rfl) hv0 (show decode cX12_findsOrder 88 = .ok (.getfield 411, 3) from by decide +kernel) rfl (fun x88 => ?_)
  refine sr_icmp_gt (q := 94) C 116 (show decode cX12_findsOrder 91 = .ok (.if_icmp .gt 25, 3) from by decide +kernel) (by decide) rfl ?_ ?_
  · exact slX12_findsOrder_J116 C K40 v0 v1 hv0
  · refine sr_aload_n (i := 0) (q := 95) C (show decode cX12_findsOrder 94 = .ok (.aload_n 0, 1) from by decide +kernel) rfl rfl rfl ?_
    refine sr_geti (q := 98) C fl_X12_381 (Or.inl rfl) hv0 (show decode cX12_findsOrder 95 = .ok (.getfield 381, 3) from by decide +kernel) rfl (fun x95 => ?_)
    refine sr_aload_n (i := 0) (q := 99) C (show decode cX12_findsOrder 98 = .ok (.aload_n 0, 1) from by decide +kernel) rfl rfl rfl ?_
    refine sr_geti (q := 102) C fl_X12_411 (Or.inl rfl) hv0 (show decode cX12_findsOrder 99 = .ok (.getfield 411, 3) from by decide +kernel) rfl (fun x99 => ?_)
    refine sr_icmp_ne (q := 105) C 160 (show decode cX12_findsOrder 102 = .ok (.if_icmp .ne 58, 3) from by decide +kernel) (by decide) rfl ?_ ?_
    · exact slX12_findsOrder_J160 C K40 v0 v1 hv0
    · refine sr_aload_n (i := 0) (q := 106) C (show decode cX12_findsOrder 105 = .ok (.aload_n 0, 1) from by decide +kernel) rfl rfl rfl ?_
      refine sr_geti (q := 109) C fl_X12_375 (Or.inl rfl) hv0 (show decode cX12_findsOrder 106 = .ok (.getfield 375, 3) from by decide +kernel) rfl (fun x106 => ?_)
      refine sr_aload_n (i := 0) (q := 110) C (show decode cX12_findsOrder 109 = .ok (.aload_n 0, 1) from by decide +kernel) rfl rfl rfl ?_
      refine sr_geti (q := 113) C fl_X12_414 (Or.inl rfl) hv0 (show decode cX12_findsOrder 110 = .ok (.getfield 414, 3) from by decide +kernel) rfl (fun x110 => ?_)
      refine sr_icmp_le (q := 116) C 160 (show decode cX12_findsOrder 113 = .ok (.if_icmp .le 47, 3) from by decide +kernel) (by decide) rfl ?_ ?_
      · exact slX12_findsOrder_J160 C K40 v0 v1 hv0
      · exact slX12_findsOrder_J116 C K40 v0 v1 hv0
def fnX12_findsOrder_L54 (k40 : Nat → Int32 → Int32 → sm_M Unit) : Nat → Nat → Int32 → Int32 → sm_M Unit
  | 0, _, _, _ => m_fail
  | n + 1, v0, v1, v3 => m_gi v0 27 fun x56 => m_br (x56 ≤ v3)
    (fnX12_findsOrder_J79 k40 v0 v1)
    (m_ai (lk v0 28) v3 fun x68 => m_bnd (fnX12_goesOver v0 x68 v1) fun _ => (fnX12_findsOrder_L54 k40 n) v0 v1 (v3 + (1 : Int32)))
set_option maxHeartbeats 4000000 in
set_option maxRecDepth 100000 in
theorem slX12_findsOrder_L54 {κ : sm_X} (C : sm_C κ RX12 cX12_findsOrder 4 10) {k40 : Nat → Int32 → Int32 → sm_M Unit} (K40 : ∀ (v0 : Nat) (v1 : Int32) (v2 : Int32) (hv0 : kd v0 = 12), sm_S κ (fun _ : Unit => .inr none) (.inl (40, [some (xad κ v0), some (.int v1), some (.int v2), none], [])) (k40 v0 v1 v2)) : ∀ (n : Nat) (v0 : Nat) (v1 : Int32) (v3 : Int32) (hv0 : kd v0 = 12), sm_S κ (fun _ : Unit => .inr none) (.inl (54, [some (xad κ v0), some (.int v1), none, some (.int v3)], [])) (fnX12_findsOrder_L54 k40 n v0 v1 v3) := by
  intro n
  induction n with
  | zero =>
    intros
    exact sr_fail
  | succ n K54 =>
    intro v0 v1 v3 hv0
    unfold fnX12_findsOrder_L54
    refine sr_iload_n (i := 3) (q := 55) C (show decode cX12_findsOrder 54 = .ok (.iload_n 3, 1) from by decide +kernel) rfl rfl rfl ?_
    refine sr_aload_n (i := 0) (q := 56) C (show decode cX12_findsOrder 55 = .ok (.aload_n 0, 1) from by decide +kernel) rfl rfl rfl ?_
    refine sr_geti (q := 59) C fl_X12_405 (Or.inl rfl) hv0 (show decode cX12_findsOrder 56 = .ok (.getfield 405, 3) from by decide +kernel) rfl (fun x56 => ?_)
    refine sr_icmp_ge (q := 62) C 79 (show decode cX12_findsOrder 59 = .ok (.if_icmp .ge 20, 3) from by decide +kernel) (by decide) rfl ?_ ?_
    · refine sr_weak (L' := [some (xad κ v0), some (.int v1), none, none]) ⟨rfl, rfl, trivial⟩ ?_
      exact slX12_findsOrder_J79 C K40 v0 v1 hv0
    · refine sr_aload_n (i := 0) (q := 63) C (show decode cX12_findsOrder 62 = .ok (.aload_n 0, 1) from by decide +kernel) rfl rfl rfl ?_
      refine sr_aload_n (i := 0) (q := 64) C (show decode cX12_findsOrder 63 = .ok (.aload_n 0, 1) from by decide +kernel) rfl rfl rfl ?_
      refine sr_getr (q := 67) C fl_X12_52 hv0 (show decode cX12_findsOrder 64 = .ok (.getfield 52, 3) from by decide +kernel) rfl ?_
      refine sr_iload_n (i := 3) (q := 68) C (show decode cX12_findsOrder 67 = .ok (.iload_n 3, 1) from by decide +kernel) rfl rfl rfl ?_
      refine sr_iaload (q := 69) C (kt hv0 kp_12_28) (show decode cX12_findsOrder 68 = .ok (.iaload, 1) from by decide +kernel) rfl (fun x68 => ?_)
      refine sr_iload_n (i := 1) (q := 70) C (show decode cX12_findsOrder 69 = .ok (.iload_n 1, 1) from by decide +kernel) rfl rfl rfl ?_
      refine sr_cVv (As := [.int x68, .int v1]) (st := []) (b := v0) (q := 73) C yvX12_goesOver ml_X12_396 (cnX12_goesOver (xo κ) v0 x68 v1 hv0) hv0 (by decide) rfl rfl rfl (by decide) (by decide) (Nat.le_of_ble_eq_true rfl) rfl (show decode cX12_findsOrder 70 = .ok (.invokevirtual 396, 3) from by decide +kernel) rfl (fun _ => ?_)
      refine sr_iinc (v := v3 + (1 : Int32)) (L' := [some (xad κ v0), some (.int v1), none, some (.int (v3 + (1 : Int32)))]) (q := 76) C (show decode cX12_findsOrder 73 = .ok (.iinc 3 1, 3) from by decide +kernel) rfl rfl (by decide) rfl rfl ?_
      refine sr_goto (q := 54) C (show decode cX12_findsOrder 76 = .ok (.goto (-22), 3) from by decide +kernel) (by decide) ?_
      exact K54 v0 v1 (v3 + (1 : Int32)) hv0
def fnX12_findsOrder_L40 : Nat → Nat → Int32 → Int32 → sm_M Unit
  | 0, _, _, _ => m_fail
  | n + 1, v0, v1, v2 => m_br (v2 = 0)
    (m_ret ())
    (m_bnd (fnX12_thinks v0) fun _ => m_bnd (fnX12_clearsOver v0) fun _ => fnX12_findsOrder_L54 (fnX12_findsOrder_L40 n) 4096 v0 v1 (0 : Int32))
set_option maxHeartbeats 4000000 in
set_option maxRecDepth 100000 in
theorem slX12_findsOrder_L40 {κ : sm_X} (C : sm_C κ RX12 cX12_findsOrder 4 10) : ∀ (n : Nat) (v0 : Nat) (v1 : Int32) (v2 : Int32) (hv0 : kd v0 = 12), sm_S κ (fun _ : Unit => .inr none) (.inl (40, [some (xad κ v0), some (.int v1), some (.int v2), none], [])) (fnX12_findsOrder_L40 n v0 v1 v2) := by
  intro n
  induction n with
  | zero =>
    intros
    exact sr_fail
  | succ n K40 =>
    intro v0 v1 v2 hv0
    unfold fnX12_findsOrder_L40
    refine sr_iload_n (i := 2) (q := 41) C (show decode cX12_findsOrder 40 = .ok (.iload_n 2, 1) from by decide +kernel) rfl rfl rfl ?_
    refine sr_if_eq (q := 44) C 168 (show decode cX12_findsOrder 41 = .ok (.ifCond .eq 127, 3) from by decide +kernel) (by decide) rfl ?_ ?_
    · exact sr_vreturn C _ rfl (show decode cX12_findsOrder 168 = .ok (.return_, 1) from by decide +kernel)
    · refine sr_aload_n (i := 0) (q := 45) C (show decode cX12_findsOrder 44 = .ok (.aload_n 0, 1) from by decide +kernel) rfl rfl rfl ?_
      refine sr_cVv (As := []) (st := []) (b := v0) (q := 48) C yvX12_thinks ml_X12_339 (cnX12_thinks (xo κ) v0 hv0) hv0 (by decide) rfl rfl rfl (by decide) (by decide) (Nat.le_of_ble_eq_true rfl) rfl (show decode cX12_findsOrder 45 = .ok (.invokevirtual 339, 3) from by decide +kernel) rfl (fun _ => ?_)
      refine sr_aload_n (i := 0) (q := 49) C (show decode cX12_findsOrder 48 = .ok (.aload_n 0, 1) from by decide +kernel) rfl rfl rfl ?_
      refine sr_cVv (As := []) (st := []) (b := v0) (q := 52) C yvX12_clearsOver ml_X12_390 (cnX12_clearsOver (xo κ) v0 hv0) hv0 (by decide) rfl rfl rfl (by decide) (by decide) (Nat.le_of_ble_eq_true rfl) rfl (show decode cX12_findsOrder 49 = .ok (.invokevirtual 390, 3) from by decide +kernel) rfl (fun _ => ?_)
      refine sr_iconst (v := (0 : Int32)) (q := 53) C (show decode cX12_findsOrder 52 = .ok (.iconst 0, 1) from by decide +kernel) (by decide) rfl ?_
      refine sr_istore_n (i := 3) (L' := [some (xad κ v0), some (.int v1), some (.int v2), some (.int (0 : Int32))]) (q := 54) C (show decode cX12_findsOrder 53 = .ok (.istore_n 3, 1) from by decide +kernel) rfl (by decide) rfl rfl ?_
      refine sr_weak (L' := [some (xad κ v0), some (.int v1), none, some (.int (0 : Int32))]) ⟨rfl, rfl, rfl, trivial⟩ ?_
      exact slX12_findsOrder_L54 C K40 4096 v0 v1 (0 : Int32) hv0
def fnX12_findsOrder_J28 (v0 : Nat) (v1 : Int32) : sm_M Unit := m_si v0 31 (-1 : Int32) <| m_si v0 30 (0 : Int32) <| fnX12_findsOrder_L40 4096 v0 v1 (1 : Int32)
set_option maxHeartbeats 4000000 in
set_option maxRecDepth 100000 in
theorem slX12_findsOrder_J28 {κ : sm_X} (C : sm_C κ RX12 cX12_findsOrder 4 10) (v0 : Nat) (v1 : Int32) (hv0 : kd v0 = 12) : sm_S κ (fun _ : Unit => .inr none) (.inl (28, [some (xad κ v0), some (.int v1), none, none], [])) (fnX12_findsOrder_J28 v0 v1) := by
  unfold fnX12_findsOrder_J28
  refine sr_aload_n (i := 0) (q := 29) C (show decode cX12_findsOrder 28 = .ok (.aload_n 0, 1) from by decide +kernel) rfl rfl rfl ?_
  refine sr_iconst (v := (-1 : Int32)) (q := 30) C (show decode cX12_findsOrder 29 = .ok (.iconst (-1), 1) from by decide +kernel) (by decide) rfl ?_
  refine sr_puti (q := 33) C fp_X12_411 hv0 (show decode cX12_findsOrder 30 = .ok (.putfield 411, 3) from by decide +kernel) rfl ?_
  refine sr_aload_n (i := 0) (q := 34) C (show decode cX12_findsOrder 33 = .ok (.aload_n 0, 1) from by decide +kernel) rfl rfl rfl ?_
  refine sr_iconst (v := (0 : Int32)) (q := 35) C (show decode cX12_findsOrder 34 = .ok (.iconst 0, 1) from by decide +kernel) (by decide) rfl ?_
  refine sr_puti (q := 38) C fp_X12_414 hv0 (show decode cX12_findsOrder 35 = .ok (.putfield 414, 3) from by decide +kernel) rfl ?_
  refine sr_iconst (v := (1 : Int32)) (q := 39) C (show decode cX12_findsOrder 38 = .ok (.iconst 1, 1) from by decide +kernel) (by decide) rfl ?_
  refine sr_istore_n (i := 2) (L' := [some (xad κ v0), some (.int v1), some (.int (1 : Int32)), none]) (q := 40) C (show decode cX12_findsOrder 39 = .ok (.istore_n 2, 1) from by decide +kernel) rfl (by decide) rfl rfl ?_
  exact slX12_findsOrder_L40 C 4096 v0 v1 (1 : Int32) hv0
def fnX12_findsOrder_L2 : Nat → Nat → Int32 → Int32 → sm_M Unit
  | 0, _, _, _ => m_fail
  | n + 1, v0, v1, v2 => m_gi v0 27 fun x4 => m_br (x4 ≤ v2)
    (fnX12_findsOrder_J28 v0 v1)
    (m_ai (lk v0 26) v2 fun x20 => m_sai (lk v0 28) v2 x20 <| (fnX12_findsOrder_L2 n) v0 v1 (v2 + (1 : Int32)))
set_option maxHeartbeats 4000000 in
set_option maxRecDepth 100000 in
theorem slX12_findsOrder_L2 {κ : sm_X} (C : sm_C κ RX12 cX12_findsOrder 4 10) : ∀ (n : Nat) (v0 : Nat) (v1 : Int32) (v2 : Int32) (hv0 : kd v0 = 12), sm_S κ (fun _ : Unit => .inr none) (.inl (2, [some (xad κ v0), some (.int v1), some (.int v2), none], [])) (fnX12_findsOrder_L2 n v0 v1 v2) := by
  intro n
  induction n with
  | zero =>
    intros
    exact sr_fail
  | succ n K2 =>
    intro v0 v1 v2 hv0
    unfold fnX12_findsOrder_L2
    refine sr_iload_n (i := 2) (q := 3) C (show decode cX12_findsOrder 2 = .ok (.iload_n 2, 1) from by decide +kernel) rfl rfl rfl ?_
    refine sr_aload_n (i := 0) (q := 4) C (show decode cX12_findsOrder 3 = .ok (.aload_n 0, 1) from by decide +kernel) rfl rfl rfl ?_
    refine sr_geti (q := 7) C fl_X12_405 (Or.inl rfl) hv0 (show decode cX12_findsOrder 4 = .ok (.getfield 405, 3) from by decide +kernel) rfl (fun x4 => ?_)
    refine sr_icmp_ge (q := 10) C 28 (show decode cX12_findsOrder 7 = .ok (.if_icmp .ge 21, 3) from by decide +kernel) (by decide) rfl ?_ ?_
    · refine sr_weak (L' := [some (xad κ v0), some (.int v1), none, none]) ⟨rfl, rfl, trivial⟩ ?_
      exact slX12_findsOrder_J28 C v0 v1 hv0
    · refine sr_aload_n (i := 0) (q := 11) C (show decode cX12_findsOrder 10 = .ok (.aload_n 0, 1) from by decide +kernel) rfl rfl rfl ?_
      refine sr_getr (q := 14) C fl_X12_52 hv0 (show decode cX12_findsOrder 11 = .ok (.getfield 52, 3) from by decide +kernel) rfl ?_
      refine sr_iload_n (i := 2) (q := 15) C (show decode cX12_findsOrder 14 = .ok (.iload_n 2, 1) from by decide +kernel) rfl rfl rfl ?_
      refine sr_aload_n (i := 0) (q := 16) C (show decode cX12_findsOrder 15 = .ok (.aload_n 0, 1) from by decide +kernel) rfl rfl rfl ?_
      refine sr_getr (q := 19) C fl_X12_49 hv0 (show decode cX12_findsOrder 16 = .ok (.getfield 49, 3) from by decide +kernel) rfl ?_
      refine sr_iload_n (i := 2) (q := 20) C (show decode cX12_findsOrder 19 = .ok (.iload_n 2, 1) from by decide +kernel) rfl rfl rfl ?_
      refine sr_iaload (q := 21) C (kt hv0 kp_12_26) (show decode cX12_findsOrder 20 = .ok (.iaload, 1) from by decide +kernel) rfl (fun x20 => ?_)
      refine sr_iastore (q := 22) C (kt hv0 kp_12_28) (show decode cX12_findsOrder 21 = .ok (.iastore, 1) from by decide +kernel) rfl ?_
      refine sr_iinc (v := v2 + (1 : Int32)) (L' := [some (xad κ v0), some (.int v1), some (.int (v2 + (1 : Int32))), none]) (q := 25) C (show decode cX12_findsOrder 22 = .ok (.iinc 2 1, 3) from by decide +kernel) rfl rfl (by decide) rfl rfl ?_
      refine sr_goto (q := 2) C (show decode cX12_findsOrder 25 = .ok (.goto (-23), 3) from by decide +kernel) (by decide) ?_
      exact K2 v0 v1 (v2 + (1 : Int32)) hv0
def fnX12_findsOrder (v0 : Nat) (v1 : Int32) : sm_M Unit := fnX12_findsOrder_L2 4096 v0 v1 (0 : Int32)
set_option maxHeartbeats 4000000 in
set_option maxRecDepth 100000 in
theorem slX12_findsOrder {κ : sm_X} (C : sm_C κ RX12 cX12_findsOrder 4 10) (v0 : Nat) (v1 : Int32) (hv0 : kd v0 = 12) : sm_S κ (fun _ : Unit => .inr none) (.inl (0, [some (xad κ v0), some (.int v1), none, none], [])) (fnX12_findsOrder v0 v1) := by
  unfold fnX12_findsOrder
  refine sr_iconst (v := (0 : Int32)) (q := 1) C (show decode cX12_findsOrder 0 = .ok (.iconst 0, 1) from by decide +kernel) (by decide) rfl ?_
  refine sr_istore_n (i := 2) (L' := [some (xad κ v0), some (.int v1), some (.int (0 : Int32)), none]) (q := 2) C (show decode cX12_findsOrder 1 = .ok (.istore_n 2, 1) from by decide +kernel) rfl (by decide) rfl rfl ?_
  exact slX12_findsOrder_L2 C 4096 v0 v1 (0 : Int32) hv0
theorem cnX12_findsOrder (ω : sm_O) (v0 : Nat) (v1 : Int32) (hv0 : kd v0 = 12) : sm_Mt 10 yX12_findsOrder cX12_findsOrder 4 none ω [.ref (ω.1 + v0), .int v1] (fun _ => none) (fnX12_findsOrder v0 v1) := by
  refine sm_conV (by decide) (Nat.le_of_ble_eq_true rfl) ?_
  intro κ hκ C
  subst hκ
  exact slX12_findsOrder C v0 v1 hv0
def fnX12_on (v0 : Nat) (v1 : Int32) (v2 : Int32) (v3 : Int64) : sm_M Int64 := m_bnd (fnX12_isInDoubt v0 v1) fun x2 => m_br ((bI x2) = 0)
    (m_ret v3)
    (m_bnd (fnX12_ofStone v0 v1 (6 : Int32)) fun x12 => m_br ((x12 + v2) ≤ (1 : Int32))
    (m_ret v3)
    (m_bnd (fnX12_ofStone v0 v1 (4 : Int32)) fun x27 => m_gd (¬ (100 : Int64) = 0) <| m_ret ((v3 * (((100 : Int32) - x27).toInt64)) / (100 : Int64))))
set_option maxHeartbeats 4000000 in
set_option maxRecDepth 100000 in
theorem slX12_on {κ : sm_X} (C : sm_C κ RX12 cX12_on 5 3) (v0 : Nat) (v1 : Int32) (v2 : Int32) (v3 : Int64) (hv0 : kd v0 = 12) : sm_S κ (fun r : Int64 => .inr (some (.long r))) (.inl (0, [some (xad κ v0), some (.int v1), some (.int v2), some (.long v3), none], [])) (fnX12_on v0 v1 v2 v3) := by
  unfold fnX12_on
  refine sr_aload_n (i := 0) (q := 1) C (show decode cX12_on 0 = .ok (.aload_n 0, 1) from by decide +kernel) rfl rfl rfl ?_
  refine sr_iload_n (i := 1) (q := 2) C (show decode cX12_on 1 = .ok (.iload_n 1, 1) from by decide +kernel) rfl rfl rfl ?_
  refine sr_cVz (As := [.int v1]) (st := []) (b := v0) (q := 5) C yvX12_isInDoubt ml_X12_253 (cnX12_isInDoubt (xo κ) v0 v1 hv0) hv0 (by decide) rfl rfl rfl (by decide) (by decide) (Nat.le_of_ble_eq_true rfl) rfl (show decode cX12_on 2 = .ok (.invokevirtual 253, 3) from by decide +kernel) rfl (fun x2 => ?_)
  refine sr_if_eq (q := 8) C 40 (show decode cX12_on 5 = .ok (.ifCond .eq 35, 3) from by decide +kernel) (by decide) rfl ?_ ?_
  · refine sr_lload_n (i := 3) (q := 41) C (show decode cX12_on 40 = .ok (.lload_n 3, 1) from by decide +kernel) rfl rfl rfl ?_
    exact sr_lreturn C _ rfl (show decode cX12_on 41 = .ok (.lreturn, 1) from by decide +kernel)
  · refine sr_aload_n (i := 0) (q := 9) C (show decode cX12_on 8 = .ok (.aload_n 0, 1) from by decide +kernel) rfl rfl rfl ?_
    refine sr_iload_n (i := 1) (q := 10) C (show decode cX12_on 9 = .ok (.iload_n 1, 1) from by decide +kernel) rfl rfl rfl ?_
    refine sr_bipush (v := (6 : Int32)) (q := 12) C (show decode cX12_on 10 = .ok (.bipush 6, 2) from by decide +kernel) (by decide) rfl ?_
    refine sr_cVi (As := [.int v1, .int (6 : Int32)]) (st := []) (b := v0) (q := 15) C yvX12_ofStone ml_X12_239 (cnX12_ofStone (xo κ) v0 v1 (6 : Int32) hv0) hv0 (by decide) rfl rfl rfl (by decide) (by decide) (Nat.le_of_ble_eq_true rfl) rfl (show decode cX12_on 12 = .ok (.invokevirtual 239, 3) from by decide +kernel) rfl (fun x12 => ?_)
    refine sr_iload_n (i := 2) (q := 16) C (show decode cX12_on 15 = .ok (.iload_n 2, 1) from by decide +kernel) rfl rfl rfl ?_
    refine sr_iadd (q := 17) C (show decode cX12_on 16 = .ok (.iadd, 1) from by decide +kernel) rfl ?_
    refine sr_iconst (v := (1 : Int32)) (q := 18) C (show decode cX12_on 17 = .ok (.iconst 1, 1) from by decide +kernel) (by decide) rfl ?_
    refine sr_icmp_le (q := 21) C 40 (show decode cX12_on 18 = .ok (.if_icmp .le 22, 3) from by decide +kernel) (by decide) rfl ?_ ?_
    · refine sr_lload_n (i := 3) (q := 41) C (show decode cX12_on 40 = .ok (.lload_n 3, 1) from by decide +kernel) rfl rfl rfl ?_
      exact sr_lreturn C _ rfl (show decode cX12_on 41 = .ok (.lreturn, 1) from by decide +kernel)
    · refine sr_lload_n (i := 3) (q := 22) C (show decode cX12_on 21 = .ok (.lload_n 3, 1) from by decide +kernel) rfl rfl rfl ?_
      refine sr_bipush (v := (100 : Int32)) (q := 24) C (show decode cX12_on 22 = .ok (.bipush 100, 2) from by decide +kernel) (by decide) rfl ?_
      refine sr_aload_n (i := 0) (q := 25) C (show decode cX12_on 24 = .ok (.aload_n 0, 1) from by decide +kernel) rfl rfl rfl ?_
      refine sr_iload_n (i := 1) (q := 26) C (show decode cX12_on 25 = .ok (.iload_n 1, 1) from by decide +kernel) rfl rfl rfl ?_
      refine sr_iconst (v := (4 : Int32)) (q := 27) C (show decode cX12_on 26 = .ok (.iconst 4, 1) from by decide +kernel) (by decide) rfl ?_
      refine sr_cVi (As := [.int v1, .int (4 : Int32)]) (st := [.int (100 : Int32), .long v3]) (b := v0) (q := 30) C yvX12_ofStone ml_X12_239 (cnX12_ofStone (xo κ) v0 v1 (4 : Int32) hv0) hv0 (by decide) rfl rfl rfl (by decide) (by decide) (Nat.le_of_ble_eq_true rfl) rfl (show decode cX12_on 27 = .ok (.invokevirtual 239, 3) from by decide +kernel) rfl (fun x27 => ?_)
      refine sr_isub (q := 31) C (show decode cX12_on 30 = .ok (.isub, 1) from by decide +kernel) rfl ?_
      refine sr_i2l (q := 32) C (show decode cX12_on 31 = .ok (.i2l, 1) from by decide +kernel) rfl ?_
      refine sr_lmul (q := 33) C (show decode cX12_on 32 = .ok (.lmul, 1) from by decide +kernel) rfl ?_
      refine sr_ldc2 (q := 36) C co_X12_479 (show decode cX12_on 33 = .ok (.ldc2_w 479, 3) from by decide +kernel) rfl ?_
      refine sr_ldiv (q := 37) C (show decode cX12_on 36 = .ok (.ldiv, 1) from by decide +kernel) rfl ?_
      refine sr_goto (q := 41) C (show decode cX12_on 37 = .ok (.goto 4, 3) from by decide +kernel) (by decide) ?_
      exact sr_lreturn C _ rfl (show decode cX12_on 41 = .ok (.lreturn, 1) from by decide +kernel)
theorem cnX12_on (ω : sm_O) (v0 : Nat) (v1 : Int32) (v2 : Int32) (v3 : Int64) (hv0 : kd v0 = 12) : sm_Mt 3 yX12_on cX12_on 5 (some .long) ω [.ref (ω.1 + v0), .int v1, .int v2, .long v3] (fun a => some (.long a)) (fnX12_on v0 v1 v2 v3) := by
  refine sm_conL (r := fun a => a) (by decide) (Nat.le_of_ble_eq_true rfl) ?_
  intro κ hκ C
  subst hκ
  exact slX12_on C v0 v1 v2 v3 hv0
