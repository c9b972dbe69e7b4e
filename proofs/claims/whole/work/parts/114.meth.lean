def fnX12_fillCosts_J118 (k56 : Nat → Int32 → Int32 → sm_M Unit) (v0 : Nat) (v1 : Int32) (v2 : Int32) : sm_M Unit := k56 v0 v1 (v2 + (1 : Int32))
set_option maxHeartbeats 4000000 in
set_option maxRecDepth 100000 in
theorem slX12_fillCosts_J118 {κ : sm_X} (C : sm_C κ RX12 cX12_fillCosts 5 6) {k56 : Nat → Int32 → Int32 → sm_M Unit} (K56 : ∀ (v0 : Nat) (v1 : Int32) (v2 : Int32) (hv0 : kd v0 = 12), sm_S κ (fun _ : Unit => .inr none) (.inl (56, [some (xad κ v0), some (.int v1), some (.int v2), none, none], [])) (k56 v0 v1 v2)) (v0 : Nat) (v1 : Int32) (v2 : Int32) (hv0 : kd v0 = 12) : sm_S κ (fun _ : Unit => .inr none) (.inl (118, [some (xad κ v0), some (.int v1), some (.int v2), none, none], [])) (fnX12_fillCosts_J118 k56 v0 v1 v2) := by
  unfold fnX12_fillCosts_J118
  refine sr_iinc (v := v2 + (1 : Int32)) (L' := [some (xad κ v0), some (.int v1), some (.int (v2 + (1 : Int32))), none, none]) (q := 121) C (show decode cX12_fillCosts 118 = .ok (.iinc 2 1, 3) from by decide +kernel) rfl rfl (by decide) rfl rfl ?_
  refine sr_goto (q := 56) C (show decode cX12_fillCosts 121 = .ok (.goto (-65), 3) from by decide +kernel) (by decide) ?_
  exact K56 v0 v1 (v2 + (1 : Int32)) hv0
def fnX12_fillCosts_L85 (k56 : Nat → Int32 → Int32 → sm_M Unit) : Nat → Nat → Int32 → Int32 → Int32 → Int32 → sm_M Unit
  | 0, _, _, _, _, _ => m_fail
  | n + 1, v0, v1, v2, v3, v4 => m_ai (lk v0 1) (3 : Int32) fun x92 => m_br (x92 ≤ v4)
    (fnX12_fillCosts_J118 k56 v0 v1 v2)
    (m_ai (lk v0 15) v4 fun x103 => m_sai (lk v0 15) v4 (x103 + ((v3 >>> (v4 &&& 31)) &&& (1 : Int32))) <| (fnX12_fillCosts_L85 k56 n) v0 v1 v2 v3 (v4 + (1 : Int32)))
set_option maxHeartbeats 4000000 in
set_option maxRecDepth 100000 in
theorem slX12_fillCosts_L85 {κ : sm_X} (C : sm_C κ RX12 cX12_fillCosts 5 6) {k56 : Nat → Int32 → Int32 → sm_M Unit} (K56 : ∀ (v0 : Nat) (v1 : Int32) (v2 : Int32) (hv0 : kd v0 = 12), sm_S κ (fun _ : Unit => .inr none) (.inl (56, [some (xad κ v0), some (.int v1), some (.int v2), none, none], [])) (k56 v0 v1 v2)) : ∀ (n : Nat) (v0 : Nat) (v1 : Int32) (v2 : Int32) (v3 : Int32) (v4 : Int32) (hv0 : kd v0 = 12), sm_S κ (fun _ : Unit => .inr none) (.inl (85, [some (xad κ v0), some (.int v1), some (.int v2), some (.int v3), some (.int v4)], [])) (fnX12_fillCosts_L85 k56 n v0 v1 v2 v3 v4) := by
  intro n
  induction n with
  | zero =>
    intros
    exact sr_fail
  | succ n K85 =>
    intro v0 v1 v2 v3 v4 hv0
    unfold fnX12_fillCosts_L85
    refine sr_iload (i := 4) (q := 87) C (show decode cX12_fillCosts 85 = .ok (.iload 4, 2) from by decide +kernel) rfl rfl ?_
    refine sr_aload_n (i := 0) (q := 88) C (show decode cX12_fillCosts 87 = .ok (.aload_n 0, 1) from by decide +kernel) rfl rfl rfl ?_
    refine sr_getr (q := 91) C fl_X12_9 hv0 (show decode cX12_fillCosts 88 = .ok (.getfield 9, 3) from by decide +kernel) rfl ?_
    refine sr_iconst (v := (3 : Int32)) (q := 92) C (show decode cX12_fillCosts 91 = .ok (.iconst 3, 1) from by decide +kernel) (by decide) rfl ?_
    refine sr_iaload (q := 93) C (kt hv0 kp_12_1) (show decode cX12_fillCosts 92 = .ok (.iaload, 1) from by decide +kernel) rfl (fun x92 => ?_)
    refine sr_icmp_ge (q := 96) C 118 (show decode cX12_fillCosts 93 = .ok (.if_icmp .ge 25, 3) from by decide +kernel) (by decide) rfl ?_ ?_
    · refine sr_weak (L' := [some (xad κ v0), some (.int v1), some (.int v2), none, none]) ⟨rfl, rfl, rfl, trivial⟩ ?_
      exact slX12_fillCosts_J118 C K56 v0 v1 v2 hv0
    · refine sr_aload_n (i := 0) (q := 97) C (show decode cX12_fillCosts 96 = .ok (.aload_n 0, 1) from by decide +kernel) rfl rfl rfl ?_
      refine sr_getr (q := 100) C fl_X12_34 hv0 (show decode cX12_fillCosts 97 = .ok (.getfield 34, 3) from by decide +kernel) rfl ?_
      refine sr_iload (i := 4) (q := 102) C (show decode cX12_fillCosts 100 = .ok (.iload 4, 2) from by decide +kernel) rfl rfl ?_
      refine sr_dup2 (q := 103) C (show decode cX12_fillCosts 102 = .ok (.dup2, 1) from by decide +kernel) rfl rfl rfl ?_
      refine sr_iaload (q := 104) C (kt hv0 kp_12_15) (show decode cX12_fillCosts 103 = .ok (.iaload, 1) from by decide +kernel) rfl (fun x103 => ?_)
      refine sr_iload_n (i := 3) (q := 105) C (show decode cX12_fillCosts 104 = .ok (.iload_n 3, 1) from by decide +kernel) rfl rfl rfl ?_
      refine sr_iload (i := 4) (q := 107) C (show decode cX12_fillCosts 105 = .ok (.iload 4, 2) from by decide +kernel) rfl rfl ?_
      refine sr_ishr (q := 108) C (show decode cX12_fillCosts 107 = .ok (.ishr, 1) from by decide +kernel) rfl ?_
      refine sr_iconst (v := (1 : Int32)) (q := 109) C (show decode cX12_fillCosts 108 = .ok (.iconst 1, 1) from by decide +kernel) (by decide) rfl ?_
      refine sr_iand (q := 110) C (show decode cX12_fillCosts 109 = .ok (.iand, 1) from by decide +kernel) rfl ?_
      refine sr_iadd (q := 111) C (show decode cX12_fillCosts 110 = .ok (.iadd, 1) from by decide +kernel) rfl ?_
      refine sr_iastore (q := 112) C (kt hv0 kp_12_15) (show decode cX12_fillCosts 111 = .ok (.iastore, 1) from by decide +kernel) rfl ?_
      refine sr_iinc (v := v4 + (1 : Int32)) (L' := [some (xad κ v0), some (.int v1), some (.int v2), some (.int v3), some (.int (v4 + (1 : Int32)))]) (q := 115) C (show decode cX12_fillCosts 112 = .ok (.iinc 4 1, 3) from by decide +kernel) rfl rfl (by decide) rfl rfl ?_
      refine sr_goto (q := 85) C (show decode cX12_fillCosts 115 = .ok (.goto (-30), 3) from by decide +kernel) (by decide) ?_
      exact K85 v0 v1 v2 v3 (v4 + (1 : Int32)) hv0
def fnX12_fillCosts_L56 : Nat → Nat → Int32 → Int32 → sm_M Unit
  | 0, _, _, _ => m_fail
  | n + 1, v0, v1, v2 => m_ai (lk v0 1) (4 : Int32) fun x62 => m_br (x62 ≤ v2)
    (m_ret ())
    (m_br (v1 = (1 : Int32))
    (m_bnd (fnX12_of v0 v2 (0 : Int32)) fun x75 => m_bnd (fnX12_reachOf v0 x75) fun x78 => fnX12_fillCosts_L85 (fnX12_fillCosts_L56 n) 4096 v0 v1 v2 x78 (0 : Int32))
    (m_ret ()))
set_option maxHeartbeats 4000000 in
set_option maxRecDepth 100000 in
theorem slX12_fillCosts_L56 {κ : sm_X} (C : sm_C κ RX12 cX12_fillCosts 5 6) : ∀ (n : Nat) (v0 : Nat) (v1 : Int32) (v2 : Int32) (hv0 : kd v0 = 12), sm_S κ (fun _ : Unit => .inr none) (.inl (56, [some (xad κ v0), some (.int v1), some (.int v2), none, none], [])) (fnX12_fillCosts_L56 n v0 v1 v2) := by
  intro n
  induction n with
  | zero =>
    intros
    exact sr_fail
  | succ n K56 =>
    intro v0 v1 v2 hv0
    unfold fnX12_fillCosts_L56
    refine sr_iload_n (i := 2) (q := 57) C (show decode cX12_fillCosts 56 = .ok (.iload_n 2, 1) from by decide +kernel) rfl rfl rfl ?_
    refine sr_aload_n (i := 0) (q := 58) C (show decode cX12_fillCosts 57 = .ok (.aload_n 0, 1) from by decide +kernel) rfl rfl rfl ?_
    refine sr_getr (q := 61) C fl_X12_9 hv0 (show decode cX12_fillCosts 58 = .ok (.getfield 9, 3) from by decide +kernel) rfl ?_
    refine sr_iconst (v := (4 : Int32)) (q := 62) C (show decode cX12_fillCosts 61 = .ok (.iconst 4, 1) from by decide +kernel) (by decide) rfl ?_
    refine sr_iaload (q := 63) C (kt hv0 kp_12_1) (show decode cX12_fillCosts 62 = .ok (.iaload, 1) from by decide +kernel) rfl (fun x62 => ?_)
    refine sr_icmp_ge (q := 66) C 124 (show decode cX12_fillCosts 63 = .ok (.if_icmp .ge 61, 3) from by decide +kernel) (by decide) rfl ?_ ?_
    · exact sr_vreturn C _ rfl (show decode cX12_fillCosts 124 = .ok (.return_, 1) from by decide +kernel)
    · refine sr_iload_n (i := 1) (q := 67) C (show decode cX12_fillCosts 66 = .ok (.iload_n 1, 1) from by decide +kernel) rfl rfl rfl ?_
      refine sr_iconst (v := (1 : Int32)) (q := 68) C (show decode cX12_fillCosts 67 = .ok (.iconst 1, 1) from by decide +kernel) (by decide) rfl ?_
      refine sr_icmp_ne (q := 71) C 124 (show decode cX12_fillCosts 68 = .ok (.if_icmp .ne 56, 3) from by decide +kernel) (by decide) rfl ?_ ?_
      · exact sr_vreturn C _ rfl (show decode cX12_fillCosts 124 = .ok (.return_, 1) from by decide +kernel)
      · refine sr_aload_n (i := 0) (q := 72) C (show decode cX12_fillCosts 71 = .ok (.aload_n 0, 1) from by decide +kernel) rfl rfl rfl ?_
        refine sr_aload_n (i := 0) (q := 73) C (show decode cX12_fillCosts 72 = .ok (.aload_n 0, 1) from by decide +kernel) rfl rfl rfl ?_
        refine sr_iload_n (i := 2) (q := 74) C (show decode cX12_fillCosts 73 = .ok (.iload_n 2, 1) from by decide +kernel) rfl rfl rfl ?_
        refine sr_iconst (v := (0 : Int32)) (q := 75) C (show decode cX12_fillCosts 74 = .ok (.iconst 0, 1) from by decide +kernel) (by decide) rfl ?_
        refine sr_cVi (As := [.int v2, .int (0 : Int32)]) (st := [xad κ v0]) (b := v0) (q := 78) C yvX12_of ml_X12_289 (cnX12_of (xo κ) v0 v2 (0 : Int32) hv0) hv0 (by decide) rfl rfl rfl (by decide) (by decide) (Nat.le_of_ble_eq_true rfl) rfl (show decode cX12_fillCosts 75 = .ok (.invokevirtual 289, 3) from by decide +kernel) rfl (fun x75 => ?_)
        refine sr_cVi (As := [.int x75]) (st := []) (b := v0) (q := 81) C yvX12_reachOf ml_X12_274 (cnX12_reachOf (xo κ) v0 x75 hv0) hv0 (by decide) rfl rfl rfl (by decide) (by decide) (Nat.le_of_ble_eq_true rfl) rfl (show decode cX12_fillCosts 78 = .ok (.invokevirtual 274, 3) from by decide +kernel) rfl (fun x78 => ?_)
        refine sr_istore_n (i := 3) (L' := [some (xad κ v0), some (.int v1), some (.int v2), some (.int x78), none]) (q := 82) C (show decode cX12_fillCosts 81 = .ok (.istore_n 3, 1) from by decide +kernel) rfl (by decide) rfl rfl ?_
        refine sr_iconst (v := (0 : Int32)) (q := 83) C (show decode cX12_fillCosts 82 = .ok (.iconst 0, 1) from by decide +kernel) (by decide) rfl ?_
        refine sr_istore (i := 4) (L' := [some (xad κ v0), some (.int v1), some (.int v2), some (.int x78), some (.int (0 : Int32))]) (q := 85) C (show decode cX12_fillCosts 83 = .ok (.istore 4, 2) from by decide +kernel) (by decide) rfl rfl ?_
        exact slX12_fillCosts_L85 C K56 4096 v0 v1 v2 x78 (0 : Int32) hv0
def fnX12_fillCosts_J54 (v0 : Nat) (v1 : Int32) : sm_M Unit := fnX12_fillCosts_L56 4096 v0 v1 (0 : Int32)
set_option maxHeartbeats 4000000 in
set_option maxRecDepth 100000 in
theorem slX12_fillCosts_J54 {κ : sm_X} (C : sm_C κ RX12 cX12_fillCosts 5 6) (v0 : Nat) (v1 : Int32) (hv0 : kd v0 = 12) : sm_S κ (fun _ : Unit => .inr none) (.inl (54, [some (xad κ v0), some (.int v1), none, none, none], [])) (fnX12_fillCosts_J54 v0 v1) := by
  unfold fnX12_fillCosts_J54
  refine sr_iconst (v := (0 : Int32)) (q := 55) C (show decode cX12_fillCosts 54 = .ok (.iconst 0, 1) from by decide +kernel) (by decide) rfl ?_
  refine sr_istore_n (i := 2) (L' := [some (xad κ v0), some (.int v1), some (.int (0 : Int32)), none, none]) (q := 56) C (show decode cX12_fillCosts 55 = .ok (.istore_n 2, 1) from by decide +kernel) rfl (by decide) rfl rfl ?_
  exact slX12_fillCosts_L56 C 4096 v0 v1 (0 : Int32) hv0
def fnX12_fillCosts_J47 (k2 : Nat → Int32 → Int32 → sm_M Unit) (v0 : Nat) (v1 : Int32) (v2 : Int32) (s0 : Int32) (s1 : Int32) (s2 : Nat) : sm_M Unit := m_sai s2 s1 s0 <| k2 v0 v1 (v2 + (1 : Int32))
set_option maxHeartbeats 4000000 in
set_option maxRecDepth 100000 in
theorem slX12_fillCosts_J47 {κ : sm_X} (C : sm_C κ RX12 cX12_fillCosts 5 6) {k2 : Nat → Int32 → Int32 → sm_M Unit} (K2 : ∀ (v0 : Nat) (v1 : Int32) (v2 : Int32) (hv0 : kd v0 = 12), sm_S κ (fun _ : Unit => .inr none) (.inl (2, [some (xad κ v0), some (.int v1), some (.int v2), none, none], [])) (k2 v0 v1 v2)) (v0 : Nat) (v1 : Int32) (v2 : Int32) (s0 : Int32) (s1 : Int32) (s2 : Nat) (hv0 : kd v0 = 12) (hs2 : kd s2 = 20) : sm_S κ (fun _ : Unit => .inr none) (.inl (47, [some (xad κ v0), some (.int v1), some (.int v2), none, none], [.int s0, .int s1, xad κ s2])) (fnX12_fillCosts_J47 k2 v0 v1 v2 s0 s1 s2) := by
  unfold fnX12_fillCosts_J47
  refine sr_iastore (q := 48) C hs2 (show decode cX12_fillCosts 47 = .ok (.iastore, 1) from by decide +kernel) rfl ?_
  refine sr_iinc (v := v2 + (1 : Int32)) (L' := [some (xad κ v0), some (.int v1), some (.int (v2 + (1 : Int32))), none, none]) (q := 51) C (show decode cX12_fillCosts 48 = .ok (.iinc 2 1, 3) from by decide +kernel) rfl rfl (by decide) rfl rfl ?_
  refine sr_goto (q := 2) C (show decode cX12_fillCosts 51 = .ok (.goto (-49), 3) from by decide +kernel) (by decide) ?_
  exact K2 v0 v1 (v2 + (1 : Int32)) hv0
def fnX12_fillCosts_L2 : Nat → Nat → Int32 → Int32 → sm_M Unit
  | 0, _, _, _ => m_fail
  | n + 1, v0, v1, v2 => m_ai (lk v0 1) (3 : Int32) fun x8 => m_br (x8 ≤ v2)
    (fnX12_fillCosts_J54 v0 v1)
    (m_br (v1 = (2 : Int32))
    (m_bnd (fnX12_left v0 v2) fun x24 => fnX12_fillCosts_J47 (fnX12_fillCosts_L2 n) v0 v1 v2 x24 v2 (lk v0 15))
    (m_br (v1 = (3 : Int32))
    (m_bnd (fnX12_left v0 v2) fun x39 => fnX12_fillCosts_J47 (fnX12_fillCosts_L2 n) v0 v1 v2 ((10 : Int32) - x39) v2 (lk v0 15))
    (fnX12_fillCosts_J47 (fnX12_fillCosts_L2 n) v0 v1 v2 (1 : Int32) v2 (lk v0 15))))
set_option maxHeartbeats 4000000 in
set_option maxRecDepth 100000 in
theorem slX12_fillCosts_L2 {κ : sm_X} (C : sm_C κ RX12 cX12_fillCosts 5 6) : ∀ (n : Nat) (v0 : Nat) (v1 : Int32) (v2 : Int32) (hv0 : kd v0 = 12), sm_S κ (fun _ : Unit => .inr none) (.inl (2, [some (xad κ v0), some (.int v1), some (.int v2), none, none], [])) (fnX12_fillCosts_L2 n v0 v1 v2) := by
  intro n
  induction n with
  | zero =>
    intros
    exact sr_fail
  | succ n K2 =>
    intro v0 v1 v2 hv0
    unfold fnX12_fillCosts_L2
    refine sr_iload_n (i := 2) (q := 3) C (show decode cX12_fillCosts 2 = .ok (.iload_n 2, 1) from by decide +kernel) rfl rfl rfl ?_
    refine sr_aload_n (i := 0) (q := 4) C (show decode cX12_fillCosts 3 = .ok (.aload_n 0, 1) from by decide +kernel) rfl rfl rfl ?_
    refine sr_getr (q := 7) C fl_X12_9 hv0 (show decode cX12_fillCosts 4 = .ok (.getfield 9, 3) from by decide +kernel) rfl ?_
    refine sr_iconst (v := (3 : Int32)) (q := 8) C (show decode cX12_fillCosts 7 = .ok (.iconst 3, 1) from by decide +kernel) (by decide) rfl ?_
    refine sr_iaload (q := 9) C (kt hv0 kp_12_1) (show decode cX12_fillCosts 8 = .ok (.iaload, 1) from by decide +kernel) rfl (fun x8 => ?_)
    refine sr_icmp_ge (q := 12) C 54 (show decode cX12_fillCosts 9 = .ok (.if_icmp .ge 45, 3) from by decide +kernel) (by decide) rfl ?_ ?_
    · refine sr_weak (L' := [some (xad κ v0), some (.int v1), none, none, none]) ⟨rfl, rfl, trivial⟩ ?_
      exact slX12_fillCosts_J54 C v0 v1 hv0
    · refine sr_aload_n (i := 0) (q := 13) C (show decode cX12_fillCosts 12 = .ok (.aload_n 0, 1) from by decide +kernel) rfl rfl rfl ?_
      refine sr_getr (q := 16) C fl_X12_34 hv0 (show decode cX12_fillCosts 13 = .ok (.getfield 34, 3) from by decide +kernel) rfl ?_
      refine sr_iload_n (i := 2) (q := 17) C (show decode cX12_fillCosts 16 = .ok (.iload_n 2, 1) from by decide +kernel) rfl rfl rfl ?_
      refine sr_iload_n (i := 1) (q := 18) C (show decode cX12_fillCosts 17 = .ok (.iload_n 1, 1) from by decide +kernel) rfl rfl rfl ?_
      refine sr_iconst (v := (2 : Int32)) (q := 19) C (show decode cX12_fillCosts 18 = .ok (.iconst 2, 1) from by decide +kernel) (by decide) rfl ?_
      refine sr_icmp_ne (q := 22) C 30 (show decode cX12_fillCosts 19 = .ok (.if_icmp .ne 11, 3) from by decide +kernel) (by decide) rfl ?_ ?_
      · refine sr_iload_n (i := 1) (q := 31) C (show decode cX12_fillCosts 30 = .ok (.iload_n 1, 1) from by decide +kernel) rfl rfl rfl ?_
        refine sr_iconst (v := (3 : Int32)) (q := 32) C (show decode cX12_fillCosts 31 = .ok (.iconst 3, 1) from by decide +kernel) (by decide) rfl ?_
        refine sr_icmp_ne (q := 35) C 46 (show decode cX12_fillCosts 32 = .ok (.if_icmp .ne 14, 3) from by decide +kernel) (by decide) rfl ?_ ?_
        · refine sr_iconst (v := (1 : Int32)) (q := 47) C (show decode cX12_fillCosts 46 = .ok (.iconst 1, 1) from by decide +kernel) (by decide) rfl ?_
          exact slX12_fillCosts_J47 C K2 v0 v1 v2 (1 : Int32) v2 (lk v0 15) hv0 (kt hv0 kp_12_15)
        · refine sr_bipush (v := (10 : Int32)) (q := 37) C (show decode cX12_fillCosts 35 = .ok (.bipush 10, 2) from by decide +kernel) (by decide) rfl ?_
          refine sr_aload_n (i := 0) (q := 38) C (show decode cX12_fillCosts 37 = .ok (.aload_n 0, 1) from by decide +kernel) rfl rfl rfl ?_
          refine sr_iload_n (i := 2) (q := 39) C (show decode cX12_fillCosts 38 = .ok (.iload_n 2, 1) from by decide +kernel) rfl rfl rfl ?_
          refine sr_cVi (As := [.int v2]) (st := [.int (10 : Int32), .int v2, xad κ (lk v0 15)]) (b := v0) (q := 42) C yvX12_left ml_X12_250 (cnX12_left (xo κ) v0 v2 hv0) hv0 (by decide) rfl rfl rfl (by decide) (by decide) (Nat.le_of_ble_eq_true rfl) rfl (show decode cX12_fillCosts 39 = .ok (.invokevirtual 250, 3) from by decide +kernel) rfl (fun x39 => ?_)
          refine sr_isub (q := 43) C (show decode cX12_fillCosts 42 = .ok (.isub, 1) from by decide +kernel) rfl ?_
          refine sr_goto (q := 47) C (show decode cX12_fillCosts 43 = .ok (.goto 4, 3) from by decide +kernel) (by decide) ?_
          exact slX12_fillCosts_J47 C K2 v0 v1 v2 ((10 : Int32) - x39) v2 (lk v0 15) hv0 (kt hv0 kp_12_15)
      · refine sr_aload_n (i := 0) (q := 23) C (show decode cX12_fillCosts 22 = .ok (.aload_n 0, 1) from by decide +kernel) rfl rfl rfl ?_
        refine sr_iload_n (i := 2) (q := 24) C (show decode cX12_fillCosts 23 = .ok (.iload_n 2, 1) from by decide +kernel) rfl rfl rfl ?_
        refine sr_cVi (As := [.int v2]) (st := [.int v2, xad κ (lk v0 15)]) (b := v0) (q := 27) C yvX12_left ml_X12_250 (cnX12_left (xo κ) v0 v2 hv0) hv0 (by decide) rfl rfl rfl (by decide) (by decide) (Nat.le_of_ble_eq_true rfl) rfl (show decode cX12_fillCosts 24 = .ok (.invokevirtual 250, 3) from by decide +kernel) rfl (fun x24 => ?_)
        refine sr_goto (q := 47) C (show decode cX12_fillCosts 27 = .ok (.goto 20, 3) from by decide +kernel) (by decide) ?_
        exact slX12_fillCosts_J47 C K2 v0 v1 v2 x24 v2 (lk v0 15) hv0 (kt hv0 kp_12_15)
def fnX12_fillCosts (v0 : Nat) (v1 : Int32) : sm_M Unit := fnX12_fillCosts_L2 4096 v0 v1 (0 : Int32)
set_option maxHeartbeats 4000000 in
set_option maxRecDepth 100000 in
theorem slX12_fillCosts {κ : sm_X} (C : sm_C κ RX12 cX12_fillCosts 5 6) (v0 : Nat) (v1 : Int32) (hv0 : kd v0 = 12) : sm_S κ (fun _ : Unit => .inr none) (.inl (0, [some (xad κ v0), some (.int v1), none, none, none], [])) (fnX12_fillCosts v0 v1) := by
  unfold fnX12_fillCosts
  refine sr_iconst (v := (0 : Int32)) (q := 1) C (show decode cX12_fillCosts 0 = .ok (.iconst 0, 1) from by decide +kernel) (by decide) rfl ?_
  refine sr_istore_n (i := 2) (L' := [some (xad κ v0), some (.int v1), some (.int (0 : Int32)), none, none]) (q := 2) C (show decode cX12_fillCosts 1 = .ok (.istore_n 2, 1) from by decide +kernel) rfl (by decide) rfl rfl ?_
  exact slX12_fillCosts_L2 C 4096 v0 v1 (0 : Int32) hv0
theorem cnX12_fillCosts (ω : sm_O) (v0 : Nat) (v1 : Int32) (hv0 : kd v0 = 12) : sm_Mt 6 yX12_fillCosts cX12_fillCosts 5 none ω [.ref (ω.1 + v0), .int v1] (fun _ => none) (fnX12_fillCosts v0 v1) := by
  refine sm_conV (by decide) (Nat.le_of_ble_eq_true rfl) ?_
  intro κ hκ C
  subst hκ
  exact slX12_fillCosts C v0 v1 hv0
def fnX12_isLess (v0 : Int32) (v1 : Int32) (v2 : Int32) (v3 : Int32) : sm_M Bool := m_br (v0 < v2)
    (m_ret true)
    (m_br (v0 = v2)
    (m_br (v3 ≤ v1)
    (m_ret false)
    (m_ret true))
    (m_ret false))
set_option maxHeartbeats 4000000 in
set_option maxRecDepth 100000 in
theorem slX12_isLess {κ : sm_X} (C : sm_C κ RX12 cX12_isLess 4 1) (v0 : Int32) (v1 : Int32) (v2 : Int32) (v3 : Int32)  : sm_S κ (fun r : Bool => .inr (some (.int (bI r)))) (.inl (0, [some (.int v0), some (.int v1), some (.int v2), some (.int v3)], [])) (fnX12_isLess v0 v1 v2 v3) := by
  unfold fnX12_isLess
  refine sr_iload_n (i := 0) (q := 1) C (show decode cX12_isLess 0 = .ok (.iload_n 0, 1) from by decide +kernel) rfl rfl rfl ?_
  refine sr_iload_n (i := 2) (q := 2) C (show decode cX12_isLess 1 = .ok (.iload_n 2, 1) from by decide +kernel) rfl rfl rfl ?_
  refine sr_icmp_lt (q := 5) C 15 (show decode cX12_isLess 2 = .ok (.if_icmp .lt 13, 3) from by decide +kernel) (by decide) rfl ?_ ?_
  · refine sr_iconst (v := (1 : Int32)) (q := 16) C (show decode cX12_isLess 15 = .ok (.iconst 1, 1) from by decide +kernel) (by decide) rfl ?_
    refine sr_goto (q := 20) C (show decode cX12_isLess 16 = .ok (.goto 4, 3) from by decide +kernel) (by decide) ?_
    exact sr_ireturn C true rfl (show decode cX12_isLess 20 = .ok (.ireturn, 1) from by decide +kernel)
  · refine sr_iload_n (i := 0) (q := 6) C (show decode cX12_isLess 5 = .ok (.iload_n 0, 1) from by decide +kernel) rfl rfl rfl ?_
    refine sr_iload_n (i := 2) (q := 7) C (show decode cX12_isLess 6 = .ok (.iload_n 2, 1) from by decide +kernel) rfl rfl rfl ?_
    refine sr_icmp_ne (q := 10) C 19 (show decode cX12_isLess 7 = .ok (.if_icmp .ne 12, 3) from by decide +kernel) (by decide) rfl ?_ ?_
    · refine sr_iconst (v := (0 : Int32)) (q := 20) C (show decode cX12_isLess 19 = .ok (.iconst 0, 1) from by decide +kernel) (by decide) rfl ?_
      exact sr_ireturn C false rfl (show decode cX12_isLess 20 = .ok (.ireturn, 1) from by decide +kernel)
    · refine sr_iload_n (i := 1) (q := 11) C (show decode cX12_isLess 10 = .ok (.iload_n 1, 1) from by decide +kernel) rfl rfl rfl ?_
      refine sr_iload_n (i := 3) (q := 12) C (show decode cX12_isLess 11 = .ok (.iload_n 3, 1) from by decide +kernel) rfl rfl rfl ?_
      refine sr_icmp_ge (q := 15) C 19 (show decode cX12_isLess 12 = .ok (.if_icmp .ge 7, 3) from by decide +kernel) (by decide) rfl ?_ ?_
      · refine sr_iconst (v := (0 : Int32)) (q := 20) C (show decode cX12_isLess 19 = .ok (.iconst 0, 1) from by decide +kernel) (by decide) rfl ?_
        exact sr_ireturn C false rfl (show decode cX12_isLess 20 = .ok (.ireturn, 1) from by decide +kernel)
      · refine sr_iconst (v := (1 : Int32)) (q := 16) C (show decode cX12_isLess 15 = .ok (.iconst 1, 1) from by decide +kernel) (by decide) rfl ?_
        refine sr_goto (q := 20) C (show decode cX12_isLess 16 = .ok (.goto 4, 3) from by decide +kernel) (by decide) ?_
        exact sr_ireturn C true rfl (show decode cX12_isLess 20 = .ok (.ireturn, 1) from by decide +kernel)
theorem cnX12_isLess (ω : sm_O) (v0 : Int32) (v1 : Int32) (v2 : Int32) (v3 : Int32)  : sm_Mt 1 yX12_isLess cX12_isLess 4 (some .boolean) ω [.int v0, .int v1, .int v2, .int v3] (fun a => some (.int (bI a))) (fnX12_isLess v0 v1 v2 v3) := by
  refine sm_conI (r := bI) (by decide) bI_nar (Nat.le_of_ble_eq_true rfl) ?_
  intro κ hκ C
  subst hκ
  exact slX12_isLess C v0 v1 v2 v3
def fnX12_fillLeft_J273 (k95 : Nat → Int32 → Int32 → Int32 → sm_M Unit) (v0 : Nat) (v1 : Int32) (v2 : Int32) (v4 : Int32) : sm_M Unit := k95 v0 v1 v2 v4
set_option maxHeartbeats 4000000 in
set_option maxRecDepth 100000 in
theorem slX12_fillLeft_J273 {κ : sm_X} (C : sm_C κ RX12 cX12_fillLeft 7 5) {k95 : Nat → Int32 → Int32 → Int32 → sm_M Unit} (K95 : ∀ (v0 : Nat) (v1 : Int32) (v2 : Int32) (v4 : Int32) (hv0 : kd v0 = 12), sm_S κ (fun _ : Unit => .inr none) (.inl (95, [some (xad κ v0), some (.int v1), some (.int v2), none, some (.int v4), none, none], [])) (k95 v0 v1 v2 v4)) (v0 : Nat) (v1 : Int32) (v2 : Int32) (v4 : Int32) (hv0 : kd v0 = 12) : sm_S κ (fun _ : Unit => .inr none) (.inl (273, [some (xad κ v0), some (.int v1), some (.int v2), none, some (.int v4), none, none], [])) (fnX12_fillLeft_J273 k95 v0 v1 v2 v4) := by
  unfold fnX12_fillLeft_J273
  refine sr_goto (q := 95) C (show decode cX12_fillLeft 273 = .ok (.goto (-178), 3) from by decide +kernel) (by decide) ?_
  exact K95 v0 v1 v2 v4 hv0
def fnX12_fillLeft_J267 (k95 : Nat → Int32 → Int32 → Int32 → sm_M Unit) (k106 : Nat → Int32 → Int32 → Int32 → Int32 → sm_M Unit) (v0 : Nat) (v1 : Int32) (v2 : Int32) (v4 : Int32) (v5 : Int32) : sm_M Unit := k106 v0 v1 v2 v4 (v5 + (1 : Int32))
set_option maxHeartbeats 4000000 in
set_option maxRecDepth 100000 in
theorem slX12_fillLeft_J267 {κ : sm_X} (C : sm_C κ RX12 cX12_fillLeft 7 5) {k95 : Nat → Int32 → Int32 → Int32 → sm_M Unit} (K95 : ∀ (v0 : Nat) (v1 : Int32) (v2 : Int32) (v4 : Int32) (hv0 : kd v0 = 12), sm_S κ (fun _ : Unit => .inr none) (.inl (95, [some (xad κ v0), some (.int v1), some (.int v2), none, some (.int v4), none, none], [])) (k95 v0 v1 v2 v4)) {k106 : Nat → Int32 → Int32 → Int32 → Int32 → sm_M Unit} (K106 : ∀ (v0 : Nat) (v1 : Int32) (v2 : Int32) (v4 : Int32) (v5 : Int32) (hv0 : kd v0 = 12), sm_S κ (fun _ : Unit => .inr none) (.inl (106, [some (xad κ v0), some (.int v1), some (.int v2), none, some (.int v4), some (.int v5), none], [])) (k106 v0 v1 v2 v4 v5)) (v0 : Nat) (v1 : Int32) (v2 : Int32) (v4 : Int32) (v5 : Int32) (hv0 : kd v0 = 12) : sm_S κ (fun _ : Unit => .inr none) (.inl (267, [some (xad κ v0), some (.int v1), some (.int v2), none, some (.int v4), some (.int v5), none], [])) (fnX12_fillLeft_J267 k95 k106 v0 v1 v2 v4 v5) := by
  unfold fnX12_fillLeft_J267
  refine sr_iinc (v := v5 + (1 : Int32)) (L' := [some (xad κ v0), some (.int v1), some (.int v2), none, some (.int v4), some (.int (v5 + (1 : Int32))), none]) (q := 270) C (show decode cX12_fillLeft 267 = .ok (.iinc 5 1, 3) from by decide +kernel) rfl rfl (by decide) rfl rfl ?_
  refine sr_goto (q := 106) C (show decode cX12_fillLeft 270 = .ok (.goto (-164), 3) from by decide +kernel) (by decide) ?_
  exact K106 v0 v1 v2 v4 (v5 + (1 : Int32)) hv0
def fnX12_fillLeft_J261 (k95 : Nat → Int32 → Int32 → Int32 → sm_M Unit) (k106 : Nat → Int32 → Int32 → Int32 → Int32 → sm_M Unit) (k120 : Nat → Int32 → Int32 → Int32 → Int32 → Int32 → sm_M Unit) (v0 : Nat) (v1 : Int32) (v2 : Int32) (v4 : Int32) (v5 : Int32) (v6 : Int32) : sm_M Unit := k120 v0 v1 v2 v4 v5 (v6 + (1 : Int32))
set_option maxHeartbeats 4000000 in
set_option maxRecDepth 100000 in
theorem slX12_fillLeft_J261 {κ : sm_X} (C : sm_C κ RX12 cX12_fillLeft 7 5) {k95 : Nat → Int32 → Int32 → Int32 → sm_M Unit} (K95 : ∀ (v0 : Nat) (v1 : Int32) (v2 : Int32) (v4 : Int32) (hv0 : kd v0 = 12), sm_S κ (fun _ : Unit => .inr none) (.inl (95, [some (xad κ v0), some (.int v1), some (.int v2), none, some (.int v4), none, none], [])) (k95 v0 v1 v2 v4)) {k106 : Nat → Int32 → Int32 → Int32 → Int32 → sm_M Unit} (K106 : ∀ (v0 : Nat) (v1 : Int32) (v2 : Int32) (v4 : Int32) (v5 : Int32) (hv0 : kd v0 = 12), sm_S κ (fun _ : Unit => .inr none) (.inl (106, [some (xad κ v0), some (.int v1), some (.int v2), none, some (.int v4), some (.int v5), none], [])) (k106 v0 v1 v2 v4 v5)) {k120 : Nat → Int32 → Int32 → Int32 → Int32 → Int32 → sm_M Unit} (K120 : ∀ (v0 : Nat) (v1 : Int32) (v2 : Int32) (v4 : Int32) (v5 : Int32) (v6 : Int32) (hv0 : kd v0 = 12), sm_S κ (fun _ : Unit => .inr none) (.inl (120, [some (xad κ v0), some (.int v1), some (.int v2), none, some (.int v4), some (.int v5), some (.int v6)], [])) (k120 v0 v1 v2 v4 v5 v6)) (v0 : Nat) (v1 : Int32) (v2 : Int32) (v4 : Int32) (v5 : Int32) (v6 : Int32) (hv0 : kd v0 = 12) : sm_S κ (fun _ : Unit => .inr none) (.inl (261, [some (xad κ v0), some (.int v1), some (.int v2), none, some (.int v4), some (.int v5), some (.int v6)], [])) (fnX12_fillLeft_J261 k95 k106 k120 v0 v1 v2 v4 v5 v6) := by
  unfold fnX12_fillLeft_J261
  refine sr_iinc (v := v6 + (1 : Int32)) (L' := [some (xad κ v0), some (.int v1), some (.int v2), none, some (.int v4), some (.int v5), some (.int (v6 + (1 : Int32)))]) (q := 264) C (show decode cX12_fillLeft 261 = .ok (.iinc 6 1, 3) from by decide +kernel) rfl rfl (by decide) rfl rfl ?_
  refine sr_goto (q := 120) C (show decode cX12_fillLeft 264 = .ok (.goto (-144), 3) from by decide +kernel) (by decide) ?_
  exact K120 v0 v1 v2 v4 v5 (v6 + (1 : Int32)) hv0
def fnX12_fillLeft_L120 (k95 : Nat → Int32 → Int32 → Int32 → sm_M Unit) (k106 : Nat → Int32 → Int32 → Int32 → Int32 → sm_M Unit) : Nat → Nat → Int32 → Int32 → Int32 → Int32 → Int32 → sm_M Unit
  | 0, _, _, _, _, _, _ => m_fail
  | n + 1, v0, v1, v2, v4, v5, v6 => m_ai (lk v0 1) (3 : Int32) fun x127 => m_br (x127 ≤ v6)
    (fnX12_fillLeft_J267 k95 k106 v0 v1 v2 v4 v5)
    (m_bnd (fnX12_left v0 v5) fun x134 => m_br (x134 < v2)
    (fnX12_fillLeft_J267 k95 k106 v0 v1 v2 v4 v5)
    (m_br (v6 = v5)
    (fnX12_fillLeft_J261 k95 k106 (fnX12_fillLeft_L120 k95 k106 n) v0 v1 v2 v4 v5 v6)
    (m_ai (lk v0 16) v6 fun x154 => m_br ((1000000 : Int32) ≤ x154)
    (fnX12_fillLeft_J261 k95 k106 (fnX12_fillLeft_L120 k95 k106 n) v0 v1 v2 v4 v5 v6)
    (m_bnd (fnX12_isStep v0 v5 v6 v1) fun x167 => m_br ((bI x167) = 0)
    (fnX12_fillLeft_J261 k95 k106 (fnX12_fillLeft_L120 k95 k106 n) v0 v1 v2 v4 v5 v6)
    (m_ai (lk v0 15) v5 fun x179 => m_ai (lk v0 16) v6 fun x186 => m_ai (lk v0 17) v6 fun x195 => m_ai (lk v0 16) v5 fun x203 => m_ai (lk v0 17) v5 fun x210 => m_bnd (fnX12_isLess (x179 + x186) ((1 : Int32) + x195) x203 x210) fun x211 => m_br ((bI x211) = 0)
    (fnX12_fillLeft_J261 k95 k106 (fnX12_fillLeft_L120 k95 k106 n) v0 v1 v2 v4 v5 v6)
    (m_ai (lk v0 15) v5 fun x232 => m_ai (lk v0 16) v6 fun x239 => m_sai (lk v0 16) v5 (x232 + x239) <| m_ai (lk v0 17) v6 fun x255 => m_sai (lk v0 17) v5 ((1 : Int32) + x255) <| fnX12_fillLeft_J261 k95 k106 (fnX12_fillLeft_L120 k95 k106 n) v0 v1 v2 (1 : Int32) v5 v6))))))
set_option maxHeartbeats 4000000 in
set_option maxRecDepth 100000 in
theorem slX12_fillLeft_L120 {κ : sm_X} (C : sm_C κ RX12 cX12_fillLeft 7 5) {k95 : Nat → Int32 → Int32 → Int32 → sm_M Unit} (K95 : ∀ (v0 : Nat) (v1 : Int32) (v2 : Int32) (v4 : Int32) (hv0 : kd v0 = 12), sm_S κ (fun _ : Unit => .inr none) (.inl (95, [some (xad κ v0), some (.int v1), some (.int v2), none, some (.int v4), none, none], [])) (k95 v0 v1 v2 v4)) {k106 : Nat → Int32 → Int32 → Int32 → Int32 → sm_M Unit} (K106 : ∀ (v0 : Nat) (v1 : Int32) (v2 : Int32) (v4 : Int32) (v5 : Int32) (hv0 : kd v0 = 12), sm_S κ (fun _ : Unit => .inr none) (.inl (106, [some (xad κ v0), some (.int v1), some (.int v2), none, some (.int v4), some (.int v5), none], [])) (k106 v0 v1 v2 v4 v5)) : ∀ (n : Nat) (v0 : Nat) (v1 : Int32) (v2 : Int32) (v4 : Int32) (v5 : Int32) (v6 : Int32) (hv0 : kd v0 = 12), sm_S κ (fun _ : Unit => .inr none) (.inl (120, [some (xad κ v0), some (.int v1), some (.int v2), none, some (.int v4), some (.int v5), some (.int v6)], [])) (fnX12_fillLeft_L120 k95 k106 n v0 v1 v2 v4 v5 v6) := by
  intro n
  induction n with
  | zero =>
    intros
    exact sr_fail
  | succ n K120 =>
    intro v0 v1 v2 v4 v5 v6 hv0
    unfold fnX12_fillLeft_L120
    refine sr_iload (i := 6) (q := 122) C (show decode cX12_fillLeft 120 = .ok (.iload 6, 2) from by decide +kernel) rfl rfl ?_
    refine sr_aload_n (i := 0) (q := 123) C (show decode cX12_fillLeft 122 = .ok (.aload_n 0, 1) from by decide +kernel) rfl rfl rfl ?_
    refine sr_getr (q := 126) C fl_X12_9 hv0 (show decode cX12_fillLeft 123 = .ok (.getfield 9, 3) from by decide +kernel) rfl ?_
    refine sr_iconst (v := (3 : Int32)) (q := 127) C (show decode cX12_fillLeft 126 = .ok (.iconst 3, 1) from by decide +kernel) (by decide) rfl ?_
    refine sr_iaload (q := 128) C (kt hv0 kp_12_1) (show decode cX12_fillLeft 127 = .ok (.iaload, 1) from by decide +kernel) rfl (fun x127 => ?_)
    refine sr_icmp_ge (q := 131) C 267 (show decode cX12_fillLeft 128 = .ok (.if_icmp .ge 139, 3) from by decide +kernel) (by decide) rfl ?_ ?_
    · refine sr_weak (L' := [some (xad κ v0), some (.int v1), some (.int v2), none, some (.int v4), some (.int v5), none]) ⟨rfl, rfl, rfl, rfl, rfl, trivial⟩ ?_
      exact slX12_fillLeft_J267 C K95 K106 v0 v1 v2 v4 v5 hv0
    · refine sr_aload_n (i := 0) (q := 132) C (show decode cX12_fillLeft 131 = .ok (.aload_n 0, 1) from by decide +kernel) rfl rfl rfl ?_
      refine sr_iload (i := 5) (q := 134) C (show decode cX12_fillLeft 132 = .ok (.iload 5, 2) from by decide +kernel) rfl rfl ?_
      refine sr_cVi (As := [.int v5]) (st := []) (b := v0) (q := 137) C yvX12_left ml_X12_250 (cnX12_left (xo κ) v0 v5 hv0) hv0 (by decide) rfl rfl rfl (by decide) (by decide) (Nat.le_of_ble_eq_true rfl) rfl (show decode cX12_fillLeft 134 = .ok (.invokevirtual 250, 3) from by decide +kernel) rfl (fun x134 => ?_)
      refine sr_iload_n (i := 2) (q := 138) C (show decode cX12_fillLeft 137 = .ok (.iload_n 2, 1) from by decide +kernel) rfl rfl rfl ?_
      refine sr_icmp_lt (q := 141) C 267 (show decode cX12_fillLeft 138 = .ok (.if_icmp .lt 129, 3) from by decide +kernel) (by decide) rfl ?_ ?_
      · refine sr_weak (L' := [some (xad κ v0), some (.int v1), some (.int v2), none, some (.int v4), some (.int v5), none]) ⟨rfl, rfl, rfl, rfl, rfl, trivial⟩ ?_
        exact slX12_fillLeft_J267 C K95 K106 v0 v1 v2 v4 v5 hv0
      · refine sr_iload (i := 6) (q := 143) C (show decode cX12_fillLeft 141 = .ok (.iload 6, 2) from by decide +kernel) rfl rfl ?_
        refine sr_iload (i := 5) (q := 145) C (show decode cX12_fillLeft 143 = .ok (.iload 5, 2) from by decide +kernel) rfl rfl ?_
        refine sr_icmp_eq (q := 148) C 261 (show decode cX12_fillLeft 145 = .ok (.if_icmp .eq 116, 3) from by decide +kernel) (by decide) rfl ?_ ?_
        · exact slX12_fillLeft_J261 C K95 K106 K120 v0 v1 v2 v4 v5 v6 hv0
        · refine sr_aload_n (i := 0) (q := 149) C (show decode cX12_fillLeft 148 = .ok (.aload_n 0, 1) from by decide +kernel) rfl rfl rfl ?_
          refine sr_getr (q := 152) C fl_X12_37 hv0 (show decode cX12_fillLeft 149 = .ok (.getfield 37, 3) from by decide +kernel) rfl ?_
          refine sr_iload (i := 6) (q := 154) C (show decode cX12_fillLeft 152 = .ok (.iload 6, 2) from by decide +kernel) rfl rfl ?_
          refine sr_iaload (q := 155) C (kt hv0 kp_12_16) (show decode cX12_fillLeft 154 = .ok (.iaload, 1) from by decide +kernel) rfl (fun x154 => ?_)
          refine sr_ldcw (q := 158) C co_X12_292 (show decode cX12_fillLeft 155 = .ok (.ldc_w 292, 3) from by decide +kernel) rfl ?_
          refine sr_icmp_ge (q := 161) C 261 (show decode cX12_fillLeft 158 = .ok (.if_icmp .ge 103, 3) from by decide +kernel) (by decide) rfl ?_ ?_
          · exact slX12_fillLeft_J261 C K95 K106 K120 v0 v1 v2 v4 v5 v6 hv0
          · refine sr_aload_n (i := 0) (q := 162) C (show decode cX12_fillLeft 161 = .ok (.aload_n 0, 1) from by decide +kernel) rfl rfl rfl ?_
            refine sr_iload (i := 5) (q := 164) C (show decode cX12_fillLeft 162 = .ok (.iload 5, 2) from by decide +kernel) rfl rfl ?_
            refine sr_iload (i := 6) (q := 166) C (show decode cX12_fillLeft 164 = .ok (.iload 6, 2) from by decide +kernel) rfl rfl ?_
            refine sr_iload_n (i := 1) (q := 167) C (show decode cX12_fillLeft 166 = .ok (.iload_n 1, 1) from by decide +kernel) rfl rfl rfl ?_
            refine sr_cVz (As := [.int v5, .int v6, .int v1]) (st := []) (b := v0) (q := 170) C yvX12_isStep ml_X12_270 (cnX12_isStep (xo κ) v0 v5 v6 v1 hv0) hv0 (by decide) rfl rfl rfl (by decide) (by decide) (Nat.le_of_ble_eq_true rfl) rfl (show decode cX12_fillLeft 167 = .ok (.invokevirtual 270, 3) from by decide +kernel) rfl (fun x167 => ?_)
            refine sr_if_eq (q := 173) C 261 (show decode cX12_fillLeft 170 = .ok (.ifCond .eq 91, 3) from by decide +kernel) (by decide) rfl ?_ ?_
            · exact slX12_fillLeft_J261 C K95 K106 K120 v0 v1 v2 v4 v5 v6 hv0
            · refine sr_aload_n (i := 0) (q := 174) C (show decode cX12_fillLeft 173 = .ok (.aload_n 0, 1) from by decide +kernel) rfl rfl rfl ?_
              refine sr_getr (q := 177) C fl_X12_34 hv0 (show decode cX12_fillLeft 174 = .ok (.getfield 34, 3) from by decide +kernel) rfl ?_
              refine sr_iload (i := 5) (q := 179) C (show decode cX12_fillLeft 177 = .ok (.iload 5, 2) from by decide +kernel) rfl rfl ?_
              refine sr_iaload (q := 180) C (kt hv0 kp_12_15) (show decode cX12_fillLeft 179 = .ok (.iaload, 1) from by decide +kernel) rfl (fun x179 => ?_)
              refine sr_aload_n (i := 0) (q := 181) C (show decode cX12_fillLeft 180 = .ok (.aload_n 0, 1) from by decide +kernel) rfl rfl rfl ?_
              refine sr_getr (q := 184) C fl_X12_37 hv0 (show decode cX12_fillLeft 181 = .ok (.getfield 37, 3) from by decide +kernel) rfl ?_
              refine sr_iload (i := 6) (q := 186) C (show decode cX12_fillLeft 184 = .ok (.iload 6, 2) from by decide +kernel) rfl rfl ?_
              refine sr_iaload (q := 187) C (kt hv0 kp_12_16) (show decode cX12_fillLeft 186 = .ok (.iaload, 1) from by decide +kernel) rfl (fun x186 => ?_)
              refine sr_iadd (q := 188) C (show decode cX12_fillLeft 187 = .ok (.iadd, 1) from by decide +kernel) rfl ?_
              refine sr_iconst (v := (1 : Int32)) (q := 189) C (show decode cX12_fillLeft 188 = .ok (.iconst 1, 1) from by decide +kernel) (by decide) rfl ?_
              refine sr_aload_n (i := 0) (q := 190) C (show decode cX12_fillLeft 189 = .ok (.aload_n 0, 1) from by decide +kernel) rfl rfl rfl ?_
              refine sr_getr (q := 193) C fl_X12_40 hv0 (show decode cX12_fillLeft 190 = .ok (.getfield 40, 3) from by decide +kernel) rfl ?_
              refine sr_iload (i := 6) (q := 195) C (show decode cX12_fillLeft 193 = .ok (.iload 6, 2) from by decide +kernel) rfl rfl ?_
              refine sr_iaload (q := 196) C (kt hv0 kp_12_17) (show decode cX12_fillLeft 195 = .ok (.iaload, 1) from by decide +kernel) rfl (fun x195 => ?_)
              refine sr_iadd (q := 197) C (show decode cX12_fillLeft 196 = .ok (.iadd, 1) from by decide +kernel) rfl ?_
              refine sr_aload_n (i := 0) (q := 198) C (show decode cX12_fillLeft 197 = .ok (.aload_n 0, 1) from by decide +kernel) rfl rfl rfl ?_
              refine sr_getr (q := 201) C fl_X12_37 hv0 (show decode cX12_fillLeft 198 = .ok (.getfield 37, 3) from by decide +kernel) rfl ?_
              refine sr_iload (i := 5) (q := 203) C (show decode cX12_fillLeft 201 = .ok (.iload 5, 2) from by decide +kernel) rfl rfl ?_
              refine sr_iaload (q := 204) C (kt hv0 kp_12_16) (show decode cX12_fillLeft 203 = .ok (.iaload, 1) from by decide +kernel) rfl (fun x203 => ?_)
              refine sr_aload_n (i := 0) (q := 205) C (show decode cX12_fillLeft 204 = .ok (.aload_n 0, 1) from by decide +kernel) rfl rfl rfl ?_
              refine sr_getr (q := 208) C fl_X12_40 hv0 (show decode cX12_fillLeft 205 = .ok (.getfield 40, 3) from by decide +kernel) rfl ?_
              refine sr_iload (i := 5) (q := 210) C (show decode cX12_fillLeft 208 = .ok (.iload 5, 2) from by decide +kernel) rfl rfl ?_
              refine sr_iaload (q := 211) C (kt hv0 kp_12_17) (show decode cX12_fillLeft 210 = .ok (.iaload, 1) from by decide +kernel) rfl (fun x210 => ?_)
              refine sr_cSz (As := [.int (x179 + x186), .int ((1 : Int32) + x195), .int x203, .int x210]) (st := []) (q := 214) C ysX12_isLess ml_X12_293 (cnX12_isLess (xo κ) (x179 + x186) ((1 : Int32) + x195) x203 x210) rfl (by decide) (by decide) (Nat.le_of_ble_eq_true rfl) rfl (show decode cX12_fillLeft 211 = .ok (.invokestatic 293, 3) from by decide +kernel) rfl (fun x211 => ?_)
              refine sr_if_ne (q := 217) C 220 (show decode cX12_fillLeft 214 = .ok (.ifCond .ne 6, 3) from by decide +kernel) (by decide) rfl ?_ ?_
              · refine sr_aload_n (i := 0) (q := 221) C (show decode cX12_fillLeft 220 = .ok (.aload_n 0, 1) from by decide +kernel) rfl rfl rfl ?_
                refine sr_getr (q := 224) C fl_X12_37 hv0 (show decode cX12_fillLeft 221 = .ok (.getfield 37, 3) from by decide +kernel) rfl ?_
                refine sr_iload (i := 5) (q := 226) C (show decode cX12_fillLeft 224 = .ok (.iload 5, 2) from by decide +kernel) rfl rfl ?_
                refine sr_aload_n (i := 0) (q := 227) C (show decode cX12_fillLeft 226 = .ok (.aload_n 0, 1) from by decide +kernel) rfl rfl rfl ?_
                refine sr_getr (q := 230) C fl_X12_34 hv0 (show decode cX12_fillLeft 227 = .ok (.getfield 34, 3) from by decide +kernel) rfl ?_
                refine sr_iload (i := 5) (q := 232) C (show decode cX12_fillLeft 230 = .ok (.iload 5, 2) from by decide +kernel) rfl rfl ?_
                refine sr_iaload (q := 233) C (kt hv0 kp_12_15) (show decode cX12_fillLeft 232 = .ok (.iaload, 1) from by decide +kernel) rfl (fun x232 => ?_)
                refine sr_aload_n (i := 0) (q := 234) C (show decode cX12_fillLeft 233 = .ok (.aload_n 0, 1) from by decide +kernel) rfl rfl rfl ?_
                refine sr_getr (q := 237) C fl_X12_37 hv0 (show decode cX12_fillLeft 234 = .ok (.getfield 37, 3) from by decide +kernel) rfl ?_
                refine sr_iload (i := 6) (q := 239) C (show decode cX12_fillLeft 237 = .ok (.iload 6, 2) from by decide +kernel) rfl rfl ?_
                refine sr_iaload (q := 240) C (kt hv0 kp_12_16) (show decode cX12_fillLeft 239 = .ok (.iaload, 1) from by decide +kernel) rfl (fun x239 => ?_)
                refine sr_iadd (q := 241) C (show decode cX12_fillLeft 240 = .ok (.iadd, 1) from by decide +kernel) rfl ?_
                refine sr_iastore (q := 242) C (kt hv0 kp_12_16) (show decode cX12_fillLeft 241 = .ok (.iastore, 1) from by decide +kernel) rfl ?_
                refine sr_aload_n (i := 0) (q := 243) C (show decode cX12_fillLeft 242 = .ok (.aload_n 0, 1) from by decide +kernel) rfl rfl rfl ?_
                refine sr_getr (q := 246) C fl_X12_40 hv0 (show decode cX12_fillLeft 243 = .ok (.getfield 40, 3) from by decide +kernel) rfl ?_
                refine sr_iload (i := 5) (q := 248) C (show decode cX12_fillLeft 246 = .ok (.iload 5, 2) from by decide +kernel) rfl rfl ?_
                refine sr_iconst (v := (1 : Int32)) (q := 249) C (show decode cX12_fillLeft 248 = .ok (.iconst 1, 1) from by decide +kernel) (by decide) rfl ?_
                refine sr_aload_n (i := 0) (q := 250) C (show decode cX12_fillLeft 249 = .ok (.aload_n 0, 1) from by decide +kernel) rfl rfl rfl ?_
                refine sr_getr (q := 253) C fl_X12_40 hv0 (show decode cX12_fillLeft 250 = .ok (.getfield 40, 3) from by decide +kernel) rfl ?_
                refine sr_iload (i := 6) (q := 255) C (show decode cX12_fillLeft 253 = .ok (.iload 6, 2) from by decide +kernel) rfl rfl ?_
                refine sr_iaload (q := 256) C (kt hv0 kp_12_17) (show decode cX12_fillLeft 255 = .ok (.iaload, 1) from by decide +kernel) rfl (fun x255 => ?_)
                refine sr_iadd (q := 257) C (show decode cX12_fillLeft 256 = .ok (.iadd, 1) from by decide +kernel) rfl ?_
                refine sr_iastore (q := 258) C (kt hv0 kp_12_17) (show decode cX12_fillLeft 257 = .ok (.iastore, 1) from by decide +kernel) rfl ?_
                refine sr_iconst (v := (1 : Int32)) (q := 259) C (show decode cX12_fillLeft 258 = .ok (.iconst 1, 1) from by decide +kernel) (by decide) rfl ?_
                refine sr_istore (i := 4) (L' := [some (xad κ v0), some (.int v1), some (.int v2), none, some (.int (1 : Int32)), some (.int v5), some (.int v6)]) (q := 261) C (show decode cX12_fillLeft 259 = .ok (.istore 4, 2) from by decide +kernel) (by decide) rfl rfl ?_
                exact slX12_fillLeft_J261 C K95 K106 K120 v0 v1 v2 (1 : Int32) v5 v6 hv0
              · refine sr_goto (q := 261) C (show decode cX12_fillLeft 217 = .ok (.goto 44, 3) from by decide +kernel) (by decide) ?_
                exact slX12_fillLeft_J261 C K95 K106 K120 v0 v1 v2 v4 v5 v6 hv0
def fnX12_fillLeft_L106 (k95 : Nat → Int32 → Int32 → Int32 → sm_M Unit) : Nat → Nat → Int32 → Int32 → Int32 → Int32 → sm_M Unit
  | 0, _, _, _, _, _ => m_fail
  | n + 1, v0, v1, v2, v4, v5 => m_ai (lk v0 1) (3 : Int32) fun x113 => m_br (x113 ≤ v5)
    (fnX12_fillLeft_J273 k95 v0 v1 v2 v4)
    (fnX12_fillLeft_L120 k95 (fnX12_fillLeft_L106 k95 n) 4096 v0 v1 v2 v4 v5 (0 : Int32))
set_option maxHeartbeats 4000000 in
set_option maxRecDepth 100000 in
theorem slX12_fillLeft_L106 {κ : sm_X} (C : sm_C κ RX12 cX12_fillLeft 7 5) {k95 : Nat → Int32 → Int32 → Int32 → sm_M Unit} (K95 : ∀ (v0 : Nat) (v1 : Int32) (v2 : Int32) (v4 : Int32) (hv0 : kd v0 = 12), sm_S κ (fun _ : Unit => .inr none) (.inl (95, [some (xad κ v0), some (.int v1), some (.int v2), none, some (.int v4), none, none], [])) (k95 v0 v1 v2 v4)) : ∀ (n : Nat) (v0 : Nat) (v1 : Int32) (v2 : Int32) (v4 : Int32) (v5 : Int32) (hv0 : kd v0 = 12), sm_S κ (fun _ : Unit => .inr none) (.inl (106, [some (xad κ v0), some (.int v1), some (.int v2), none, some (.int v4), some (.int v5), none], [])) (fnX12_fillLeft_L106 k95 n v0 v1 v2 v4 v5) := by
  intro n
  induction n with
  | zero =>
    intros
    exact sr_fail
  | succ n K106 =>
    intro v0 v1 v2 v4 v5 hv0
    unfold fnX12_fillLeft_L106
    refine sr_iload (i := 5) (q := 108) C (show decode cX12_fillLeft 106 = .ok (.iload 5, 2) from by decide +kernel) rfl rfl ?_
    refine sr_aload_n (i := 0) (q := 109) C (show decode cX12_fillLeft 108 = .ok (.aload_n 0, 1) from by decide +kernel) rfl rfl rfl ?_
    refine sr_getr (q := 112) C fl_X12_9 hv0 (show decode cX12_fillLeft 109 = .ok (.getfield 9, 3) from by decide +kernel) rfl ?_
    refine sr_iconst (v := (3 : Int32)) (q := 113) C (show decode cX12_fillLeft 112 = .ok (.iconst 3, 1) from by decide +kernel) (by decide) rfl ?_
    refine sr_iaload (q := 114) C (kt hv0 kp_12_1) (show decode cX12_fillLeft 113 = .ok (.iaload, 1) from by decide +kernel) rfl (fun x113 => ?_)
    refine sr_icmp_ge (q := 117) C 273 (show decode cX12_fillLeft 114 = .ok (.if_icmp .ge 159, 3) from by decide +kernel) (by decide) rfl ?_ ?_
    · refine sr_weak (L' := [some (xad κ v0), some (.int v1), some (.int v2), none, some (.int v4), none, none]) ⟨rfl, rfl, rfl, rfl, trivial⟩ ?_
      exact slX12_fillLeft_J273 C K95 v0 v1 v2 v4 hv0
    · refine sr_iconst (v := (0 : Int32)) (q := 118) C (show decode cX12_fillLeft 117 = .ok (.iconst 0, 1) from by decide +kernel) (by decide) rfl ?_
      refine sr_istore (i := 6) (L' := [some (xad κ v0), some (.int v1), some (.int v2), none, some (.int v4), some (.int v5), some (.int (0 : Int32))]) (q := 120) C (show decode cX12_fillLeft 118 = .ok (.istore 6, 2) from by decide +kernel) (by decide) rfl rfl ?_
      exact slX12_fillLeft_L120 C K95 K106 4096 v0 v1 v2 v4 v5 (0 : Int32) hv0
def fnX12_fillLeft_L95 : Nat → Nat → Int32 → Int32 → Int32 → sm_M Unit
  | 0, _, _, _, _ => m_fail
  | n + 1, v0, v1, v2, v4 => m_br (v4 = 0)
    (m_ret ())
    (fnX12_fillLeft_L106 (fnX12_fillLeft_L95 n) 4096 v0 v1 v2 (0 : Int32) (0 : Int32))
set_option maxHeartbeats 4000000 in
set_option maxRecDepth 100000 in
theorem slX12_fillLeft_L95 {κ : sm_X} (C : sm_C κ RX12 cX12_fillLeft 7 5) : ∀ (n : Nat) (v0 : Nat) (v1 : Int32) (v2 : Int32) (v4 : Int32) (hv0 : kd v0 = 12), sm_S κ (fun _ : Unit => .inr none) (.inl (95, [some (xad κ v0), some (.int v1), some (.int v2), none, some (.int v4), none, none], [])) (fnX12_fillLeft_L95 n v0 v1 v2 v4) := by
  intro n
  induction n with
  | zero =>
    intros
    exact sr_fail
  | succ n K95 =>
    intro v0 v1 v2 v4 hv0
    unfold fnX12_fillLeft_L95
    refine sr_iload (i := 4) (q := 97) C (show decode cX12_fillLeft 95 = .ok (.iload 4, 2) from by decide +kernel) rfl rfl ?_
    refine sr_if_eq (q := 100) C 276 (show decode cX12_fillLeft 97 = .ok (.ifCond .eq 179, 3) from by decide +kernel) (by decide) rfl ?_ ?_
    · exact sr_vreturn C _ rfl (show decode cX12_fillLeft 276 = .ok (.return_, 1) from by decide +kernel)
    · refine sr_iconst (v := (0 : Int32)) (q := 101) C (show decode cX12_fillLeft 100 = .ok (.iconst 0, 1) from by decide +kernel) (by decide) rfl ?_
      refine sr_istore (i := 4) (L' := [some (xad κ v0), some (.int v1), some (.int v2), none, some (.int (0 : Int32)), none, none]) (q := 103) C (show decode cX12_fillLeft 101 = .ok (.istore 4, 2) from by decide +kernel) (by decide) rfl rfl ?_
      refine sr_iconst (v := (0 : Int32)) (q := 104) C (show decode cX12_fillLeft 103 = .ok (.iconst 0, 1) from by decide +kernel) (by decide) rfl ?_
      refine sr_istore (i := 5) (L' := [some (xad κ v0), some (.int v1), some (.int v2), none, some (.int (0 : Int32)), some (.int (0 : Int32)), none]) (q := 106) C (show decode cX12_fillLeft 104 = .ok (.istore 5, 2) from by decide +kernel) (by decide) rfl rfl ?_
      exact slX12_fillLeft_L106 C K95 4096 v0 v1 v2 (0 : Int32) (0 : Int32) hv0
def fnX12_fillLeft_J92 (v0 : Nat) (v1 : Int32) (v2 : Int32) : sm_M Unit := fnX12_fillLeft_L95 4096 v0 v1 v2 (1 : Int32)
set_option maxHeartbeats 4000000 in
set_option maxRecDepth 100000 in
theorem slX12_fillLeft_J92 {κ : sm_X} (C : sm_C κ RX12 cX12_fillLeft 7 5) (v0 : Nat) (v1 : Int32) (v2 : Int32) (hv0 : kd v0 = 12) : sm_S κ (fun _ : Unit => .inr none) (.inl (92, [some (xad κ v0), some (.int v1), some (.int v2), none, none, none, none], [])) (fnX12_fillLeft_J92 v0 v1 v2) := by
  unfold fnX12_fillLeft_J92
  refine sr_iconst (v := (1 : Int32)) (q := 93) C (show decode cX12_fillLeft 92 = .ok (.iconst 1, 1) from by decide +kernel) (by decide) rfl ?_
  refine sr_istore (i := 4) (L' := [some (xad κ v0), some (.int v1), some (.int v2), none, some (.int (1 : Int32)), none, none]) (q := 95) C (show decode cX12_fillLeft 93 = .ok (.istore 4, 2) from by decide +kernel) (by decide) rfl rfl ?_
  exact slX12_fillLeft_L95 C 4096 v0 v1 v2 (1 : Int32) hv0
def fnX12_fillLeft_J85 (k3 : Nat → Int32 → Int32 → Int32 → Int32 → sm_M Unit) (v0 : Nat) (v1 : Int32) (v2 : Int32) (v3 : Int32) (v4 : Int32) (s0 : Int32) (s1 : Int32) (s2 : Nat) : sm_M Unit := m_sai s2 s1 s0 <| k3 v0 v1 v2 v3 (v4 + (1 : Int32))
set_option maxHeartbeats 4000000 in
set_option maxRecDepth 100000 in
theorem slX12_fillLeft_J85 {κ : sm_X} (C : sm_C κ RX12 cX12_fillLeft 7 5) {k3 : Nat → Int32 → Int32 → Int32 → Int32 → sm_M Unit} (K3 : ∀ (v0 : Nat) (v1 : Int32) (v2 : Int32) (v3 : Int32) (v4 : Int32) (hv0 : kd v0 = 12), sm_S κ (fun _ : Unit => .inr none) (.inl (3, [some (xad κ v0), some (.int v1), some (.int v2), some (.int v3), some (.int v4), none, none], [])) (k3 v0 v1 v2 v3 v4)) (v0 : Nat) (v1 : Int32) (v2 : Int32) (v3 : Int32) (v4 : Int32) (s0 : Int32) (s1 : Int32) (s2 : Nat) (hv0 : kd v0 = 12) (hs2 : kd s2 = 20) : sm_S κ (fun _ : Unit => .inr none) (.inl (85, [some (xad κ v0), some (.int v1), some (.int v2), some (.int v3), some (.int v4), none, none], [.int s0, .int s1, xad κ s2])) (fnX12_fillLeft_J85 k3 v0 v1 v2 v3 v4 s0 s1 s2) := by
  unfold fnX12_fillLeft_J85
  refine sr_iastore (q := 86) C hs2 (show decode cX12_fillLeft 85 = .ok (.iastore, 1) from by decide +kernel) rfl ?_
  refine sr_iinc (v := v4 + (1 : Int32)) (L' := [some (xad κ v0), some (.int v1), some (.int v2), some (.int v3), some (.int (v4 + (1 : Int32))), none, none]) (q := 89) C (show decode cX12_fillLeft 86 = .ok (.iinc 4 1, 3) from by decide +kernel) rfl rfl (by decide) rfl rfl ?_
  refine sr_goto (q := 3) C (show decode cX12_fillLeft 89 = .ok (.goto (-86), 3) from by decide +kernel) (by decide) ?_
  exact K3 v0 v1 v2 v3 (v4 + (1 : Int32)) hv0
def fnX12_fillLeft_J66 (k3 : Nat → Int32 → Int32 → Int32 → Int32 → sm_M Unit) (v0 : Nat) (v1 : Int32) (v2 : Int32) (v3 : Int32) (v4 : Int32) (v5 : Int32) (s0 : Int32) (s1 : Int32) (s2 : Nat) : sm_M Unit := m_sai s2 s1 s0 <| m_br (v5 = 0)
    (fnX12_fillLeft_J85 k3 v0 v1 v2 v3 v4 (1000000 : Int32) v4 (lk v0 17))
    (fnX12_fillLeft_J85 k3 v0 v1 v2 v3 v4 (1 : Int32) v4 (lk v0 17))
set_option maxHeartbeats 4000000 in
set_option maxRecDepth 100000 in
theorem slX12_fillLeft_J66 {κ : sm_X} (C : sm_C κ RX12 cX12_fillLeft 7 5) {k3 : Nat → Int32 → Int32 → Int32 → Int32 → sm_M Unit} (K3 : ∀ (v0 : Nat) (v1 : Int32) (v2 : Int32) (v3 : Int32) (v4 : Int32) (hv0 : kd v0 = 12), sm_S κ (fun _ : Unit => .inr none) (.inl (3, [some (xad κ v0), some (.int v1), some (.int v2), some (.int v3), some (.int v4), none, none], [])) (k3 v0 v1 v2 v3 v4)) (v0 : Nat) (v1 : Int32) (v2 : Int32) (v3 : Int32) (v4 : Int32) (v5 : Int32) (s0 : Int32) (s1 : Int32) (s2 : Nat) (hv0 : kd v0 = 12) (hs2 : kd s2 = 20) : sm_S κ (fun _ : Unit => .inr none) (.inl (66, [some (xad κ v0), some (.int v1), some (.int v2), some (.int v3), some (.int v4), some (.int v5), none], [.int s0, .int s1, xad κ s2])) (fnX12_fillLeft_J66 k3 v0 v1 v2 v3 v4 v5 s0 s1 s2) := by
  unfold fnX12_fillLeft_J66
  refine sr_iastore (q := 67) C hs2 (show decode cX12_fillLeft 66 = .ok (.iastore, 1) from by decide +kernel) rfl ?_
  refine sr_aload_n (i := 0) (q := 68) C (show decode cX12_fillLeft 67 = .ok (.aload_n 0, 1) from by decide +kernel) rfl rfl rfl ?_
  refine sr_getr (q := 71) C fl_X12_40 hv0 (show decode cX12_fillLeft 68 = .ok (.getfield 40, 3) from by decide +kernel) rfl ?_
  refine sr_iload (i := 4) (q := 73) C (show decode cX12_fillLeft 71 = .ok (.iload 4, 2) from by decide +kernel) rfl rfl ?_
  refine sr_iload (i := 5) (q := 75) C (show decode cX12_fillLeft 73 = .ok (.iload 5, 2) from by decide +kernel) rfl rfl ?_
  refine sr_if_eq (q := 78) C 82 (show decode cX12_fillLeft 75 = .ok (.ifCond .eq 7, 3) from by decide +kernel) (by decide) rfl ?_ ?_
  · refine sr_ldcw (q := 85) C co_X12_292 (show decode cX12_fillLeft 82 = .ok (.ldc_w 292, 3) from by decide +kernel) rfl ?_
    refine sr_weak (L' := [some (xad κ v0), some (.int v1), some (.int v2), some (.int v3), some (.int v4), none, none]) ⟨rfl, rfl, rfl, rfl, rfl, trivial⟩ ?_
    exact slX12_fillLeft_J85 C K3 v0 v1 v2 v3 v4 (1000000 : Int32) v4 (lk v0 17) hv0 (kt hv0 kp_12_17)
  · refine sr_iconst (v := (1 : Int32)) (q := 79) C (show decode cX12_fillLeft 78 = .ok (.iconst 1, 1) from by decide +kernel) (by decide) rfl ?_
    refine sr_goto (q := 85) C (show decode cX12_fillLeft 79 = .ok (.goto 6, 3) from by decide +kernel) (by decide) ?_
    refine sr_weak (L' := [some (xad κ v0), some (.int v1), some (.int v2), some (.int v3), some (.int v4), none, none]) ⟨rfl, rfl, rfl, rfl, rfl, trivial⟩ ?_
    exact slX12_fillLeft_J85 C K3 v0 v1 v2 v3 v4 (1 : Int32) v4 (lk v0 17) hv0 (kt hv0 kp_12_17)
def fnX12_fillLeft_J40 (k3 : Nat → Int32 → Int32 → Int32 → Int32 → sm_M Unit) (v0 : Nat) (v1 : Int32) (v2 : Int32) (v3 : Int32) (v4 : Int32) (s0 : Int32) : sm_M Unit := m_br (s0 = 0)
    (fnX12_fillLeft_J66 k3 v0 v1 v2 v3 v4 s0 (1000000 : Int32) v4 (lk v0 16))
    (m_ai (lk v0 15) v4 fun x59 => fnX12_fillLeft_J66 k3 v0 v1 v2 v3 v4 s0 x59 v4 (lk v0 16))
set_option maxHeartbeats 4000000 in
set_option maxRecDepth 100000 in
theorem slX12_fillLeft_J40 {κ : sm_X} (C : sm_C κ RX12 cX12_fillLeft 7 5) {k3 : Nat → Int32 → Int32 → Int32 → Int32 → sm_M Unit} (K3 : ∀ (v0 : Nat) (v1 : Int32) (v2 : Int32) (v3 : Int32) (v4 : Int32) (hv0 : kd v0 = 12), sm_S κ (fun _ : Unit => .inr none) (.inl (3, [some (xad κ v0), some (.int v1), some (.int v2), some (.int v3), some (.int v4), none, none], [])) (k3 v0 v1 v2 v3 v4)) (v0 : Nat) (v1 : Int32) (v2 : Int32) (v3 : Int32) (v4 : Int32) (s0 : Int32) (hv0 : kd v0 = 12) : sm_S κ (fun _ : Unit => .inr none) (.inl (40, [some (xad κ v0), some (.int v1), some (.int v2), some (.int v3), some (.int v4), none, none], [.int s0])) (fnX12_fillLeft_J40 k3 v0 v1 v2 v3 v4 s0) := by
  unfold fnX12_fillLeft_J40
  refine sr_istore (i := 5) (L' := [some (xad κ v0), some (.int v1), some (.int v2), some (.int v3), some (.int v4), some (.int s0), none]) (q := 42) C (show decode cX12_fillLeft 40 = .ok (.istore 5, 2) from by decide +kernel) (by decide) rfl rfl ?_
  refine sr_aload_n (i := 0) (q := 43) C (show decode cX12_fillLeft 42 = .ok (.aload_n 0, 1) from by decide +kernel) rfl rfl rfl ?_
  refine sr_getr (q := 46) C fl_X12_37 hv0 (show decode cX12_fillLeft 43 = .ok (.getfield 37, 3) from by decide +kernel) rfl ?_
  refine sr_iload (i := 4) (q := 48) C (show decode cX12_fillLeft 46 = .ok (.iload 4, 2) from by decide +kernel) rfl rfl ?_
  refine sr_iload (i := 5) (q := 50) C (show decode cX12_fillLeft 48 = .ok (.iload 5, 2) from by decide +kernel) rfl rfl ?_
  refine sr_if_eq (q := 53) C 63 (show decode cX12_fillLeft 50 = .ok (.ifCond .eq 13, 3) from by decide +kernel) (by decide) rfl ?_ ?_
  · refine sr_ldcw (q := 66) C co_X12_292 (show decode cX12_fillLeft 63 = .ok (.ldc_w 292, 3) from by decide +kernel) rfl ?_
    exact slX12_fillLeft_J66 C K3 v0 v1 v2 v3 v4 s0 (1000000 : Int32) v4 (lk v0 16) hv0 (kt hv0 kp_12_16)
  · refine sr_aload_n (i := 0) (q := 54) C (show decode cX12_fillLeft 53 = .ok (.aload_n 0, 1) from by decide +kernel) rfl rfl rfl ?_
    refine sr_getr (q := 57) C fl_X12_34 hv0 (show decode cX12_fillLeft 54 = .ok (.getfield 34, 3) from by decide +kernel) rfl ?_
    refine sr_iload (i := 4) (q := 59) C (show decode cX12_fillLeft 57 = .ok (.iload 4, 2) from by decide +kernel) rfl rfl ?_
    refine sr_iaload (q := 60) C (kt hv0 kp_12_15) (show decode cX12_fillLeft 59 = .ok (.iaload, 1) from by decide +kernel) rfl (fun x59 => ?_)
    refine sr_goto (q := 66) C (show decode cX12_fillLeft 60 = .ok (.goto 6, 3) from by decide +kernel) (by decide) ?_
    exact slX12_fillLeft_J66 C K3 v0 v1 v2 v3 v4 s0 x59 v4 (lk v0 16) hv0 (kt hv0 kp_12_16)
def fnX12_fillLeft_J39 (k3 : Nat → Int32 → Int32 → Int32 → Int32 → sm_M Unit) (v0 : Nat) (v1 : Int32) (v2 : Int32) (v3 : Int32) (v4 : Int32) : sm_M Unit := fnX12_fillLeft_J40 k3 v0 v1 v2 v3 v4 (0 : Int32)
set_option maxHeartbeats 4000000 in
set_option maxRecDepth 100000 in
theorem slX12_fillLeft_J39 {κ : sm_X} (C : sm_C κ RX12 cX12_fillLeft 7 5) {k3 : Nat → Int32 → Int32 → Int32 → Int32 → sm_M Unit} (K3 : ∀ (v0 : Nat) (v1 : Int32) (v2 : Int32) (v3 : Int32) (v4 : Int32) (hv0 : kd v0 = 12), sm_S κ (fun _ : Unit => .inr none) (.inl (3, [some (xad κ v0), some (.int v1), some (.int v2), some (.int v3), some (.int v4), none, none], [])) (k3 v0 v1 v2 v3 v4)) (v0 : Nat) (v1 : Int32) (v2 : Int32) (v3 : Int32) (v4 : Int32) (hv0 : kd v0 = 12) : sm_S κ (fun _ : Unit => .inr none) (.inl (39, [some (xad κ v0), some (.int v1), some (.int v2), some (.int v3), some (.int v4), none, none], [])) (fnX12_fillLeft_J39 k3 v0 v1 v2 v3 v4) := by
  unfold fnX12_fillLeft_J39
  refine sr_iconst (v := (0 : Int32)) (q := 40) C (show decode cX12_fillLeft 39 = .ok (.iconst 0, 1) from by decide +kernel) (by decide) rfl ?_
  exact slX12_fillLeft_J40 C K3 v0 v1 v2 v3 v4 (0 : Int32) hv0
def fnX12_fillLeft_L3 : Nat → Nat → Int32 → Int32 → Int32 → Int32 → sm_M Unit
  | 0, _, _, _, _, _ => m_fail
  | n + 1, v0, v1, v2, v3, v4 => m_ai (lk v0 1) (3 : Int32) fun x10 => m_br (x10 ≤ v4)
    (fnX12_fillLeft_J92 v0 v1 v2)
    (m_bnd (fnX12_left v0 v4) fun x17 => m_br (x17 < v2)
    (fnX12_fillLeft_J39 (fnX12_fillLeft_L3 n) v0 v1 v2 v3 v4)
    (m_bnd (fnX12_isStep v0 v4 v3 v1) fun x29 => m_br ((bI x29) = 0)
    (fnX12_fillLeft_J39 (fnX12_fillLeft_L3 n) v0 v1 v2 v3 v4)
    (fnX12_fillLeft_J40 (fnX12_fillLeft_L3 n) v0 v1 v2 v3 v4 (1 : Int32))))
set_option maxHeartbeats 4000000 in
set_option maxRecDepth 100000 in
theorem slX12_fillLeft_L3 {κ : sm_X} (C : sm_C κ RX12 cX12_fillLeft 7 5) : ∀ (n : Nat) (v0 : Nat) (v1 : Int32) (v2 : Int32) (v3 : Int32) (v4 : Int32) (hv0 : kd v0 = 12), sm_S κ (fun _ : Unit => .inr none) (.inl (3, [some (xad κ v0), some (.int v1), some (.int v2), some (.int v3), some (.int v4), none, none], [])) (fnX12_fillLeft_L3 n v0 v1 v2 v3 v4) := by
  intro n
  induction n with
  | zero =>
    intros
    exact sr_fail
  | succ n K3 =>
    intro v0 v1 v2 v3 v4 hv0
    unfold fnX12_fillLeft_L3
    refine sr_iload (i := 4) (q := 5) C (show decode cX12_fillLeft 3 = .ok (.iload 4, 2) from by decide +kernel) rfl rfl ?_
    refine sr_aload_n (i := 0) (q := 6) C (show decode cX12_fillLeft 5 = .ok (.aload_n 0, 1) from by decide +kernel) rfl rfl rfl ?_
    refine sr_getr (q := 9) C fl_X12_9 hv0 (show decode cX12_fillLeft 6 = .ok (.getfield 9, 3) from by decide +kernel) rfl ?_
    refine sr_iconst (v := (3 : Int32)) (q := 10) C (show decode cX12_fillLeft 9 = .ok (.iconst 3, 1) from by decide +kernel) (by decide) rfl ?_
    refine sr_iaload (q := 11) C (kt hv0 kp_12_1) (show decode cX12_fillLeft 10 = .ok (.iaload, 1) from by decide +kernel) rfl (fun x10 => ?_)
    refine sr_icmp_ge (q := 14) C 92 (show decode cX12_fillLeft 11 = .ok (.if_icmp .ge 81, 3) from by decide +kernel) (by decide) rfl ?_ ?_
    · refine sr_weak (L' := [some (xad κ v0), some (.int v1), some (.int v2), none, none, none, none]) ⟨rfl, rfl, rfl, trivial⟩ ?_
      exact slX12_fillLeft_J92 C v0 v1 v2 hv0
    · refine sr_aload_n (i := 0) (q := 15) C (show decode cX12_fillLeft 14 = .ok (.aload_n 0, 1) from by decide +kernel) rfl rfl rfl ?_
      refine sr_iload (i := 4) (q := 17) C (show decode cX12_fillLeft 15 = .ok (.iload 4, 2) from by decide +kernel) rfl rfl ?_
      refine sr_cVi (As := [.int v4]) (st := []) (b := v0) (q := 20) C yvX12_left ml_X12_250 (cnX12_left (xo κ) v0 v4 hv0) hv0 (by decide) rfl rfl rfl (by decide) (by decide) (Nat.le_of_ble_eq_true rfl) rfl (show decode cX12_fillLeft 17 = .ok (.invokevirtual 250, 3) from by decide +kernel) rfl (fun x17 => ?_)
      refine sr_iload_n (i := 2) (q := 21) C (show decode cX12_fillLeft 20 = .ok (.iload_n 2, 1) from by decide +kernel) rfl rfl rfl ?_
      refine sr_icmp_lt (q := 24) C 39 (show decode cX12_fillLeft 21 = .ok (.if_icmp .lt 18, 3) from by decide +kernel) (by decide) rfl ?_ ?_
      · exact slX12_fillLeft_J39 C K3 v0 v1 v2 v3 v4 hv0
      · refine sr_aload_n (i := 0) (q := 25) C (show decode cX12_fillLeft 24 = .ok (.aload_n 0, 1) from by decide +kernel) rfl rfl rfl ?_
        refine sr_iload (i := 4) (q := 27) C (show decode cX12_fillLeft 25 = .ok (.iload 4, 2) from by decide +kernel) rfl rfl ?_
        refine sr_iload_n (i := 3) (q := 28) C (show decode cX12_fillLeft 27 = .ok (.iload_n 3, 1) from by decide +kernel) rfl rfl rfl ?_
        refine sr_iload_n (i := 1) (q := 29) C (show decode cX12_fillLeft 28 = .ok (.iload_n 1, 1) from by decide +kernel) rfl rfl rfl ?_
        refine sr_cVz (As := [.int v4, .int v3, .int v1]) (st := []) (b := v0) (q := 32) C yvX12_isStep ml_X12_270 (cnX12_isStep (xo κ) v0 v4 v3 v1 hv0) hv0 (by decide) rfl rfl rfl (by decide) (by decide) (Nat.le_of_ble_eq_true rfl) rfl (show decode cX12_fillLeft 29 = .ok (.invokevirtual 270, 3) from by decide +kernel) rfl (fun x29 => ?_)
        refine sr_if_eq (q := 35) C 39 (show decode cX12_fillLeft 32 = .ok (.ifCond .eq 7, 3) from by decide +kernel) (by decide) rfl ?_ ?_
        · exact slX12_fillLeft_J39 C K3 v0 v1 v2 v3 v4 hv0
        · refine sr_iconst (v := (1 : Int32)) (q := 36) C (show decode cX12_fillLeft 35 = .ok (.iconst 1, 1) from by decide +kernel) (by decide) rfl ?_
          refine sr_goto (q := 40) C (show decode cX12_fillLeft 36 = .ok (.goto 4, 3) from by decide +kernel) (by decide) ?_
          exact slX12_fillLeft_J40 C K3 v0 v1 v2 v3 v4 (1 : Int32) hv0
def fnX12_fillLeft (v0 : Nat) (v1 : Int32) (v2 : Int32) (v3 : Int32) : sm_M Unit := fnX12_fillLeft_L3 4096 v0 v1 v2 v3 (0 : Int32)
set_option maxHeartbeats 4000000 in
set_option maxRecDepth 100000 in
theorem slX12_fillLeft {κ : sm_X} (C : sm_C κ RX12 cX12_fillLeft 7 5) (v0 : Nat) (v1 : Int32) (v2 : Int32) (v3 : Int32) (hv0 : kd v0 = 12) : sm_S κ (fun _ : Unit => .inr none) (.inl (0, [some (xad κ v0), some (.int v1), some (.int v2), some (.int v3), none, none, none], [])) (fnX12_fillLeft v0 v1 v2 v3) := by
  unfold fnX12_fillLeft
  refine sr_iconst (v := (0 : Int32)) (q := 1) C (show decode cX12_fillLeft 0 = .ok (.iconst 0, 1) from by decide +kernel) (by decide) rfl ?_
  refine sr_istore (i := 4) (L' := [some (xad κ v0), some (.int v1), some (.int v2), some (.int v3), some (.int (0 : Int32)), none, none]) (q := 3) C (show decode cX12_fillLeft 1 = .ok (.istore 4, 2) from by decide +kernel) (by decide) rfl rfl ?_
  exact slX12_fillLeft_L3 C 4096 v0 v1 v2 v3 (0 : Int32) hv0
theorem cnX12_fillLeft (ω : sm_O) (v0 : Nat) (v1 : Int32) (v2 : Int32) (v3 : Int32) (hv0 : kd v0 = 12) : sm_Mt 5 yX12_fillLeft cX12_fillLeft 7 none ω [.ref (ω.1 + v0), .int v1, .int v2, .int v3] (fun _ => none) (fnX12_fillLeft v0 v1 v2 v3) := by
  refine sm_conV (by decide) (Nat.le_of_ble_eq_true rfl) ?_
  intro κ hκ C
  subst hκ
  exact slX12_fillLeft C v0 v1 v2 v3 hv0
def fnX12_finds_J307 (v5 : Int32) : sm_M Bool := m_br (v5 = (-1 : Int32))
    (m_ret false)
    (m_ret true)
set_option maxHeartbeats 4000000 in
set_option maxRecDepth 100000 in
theorem slX12_finds_J307 {κ : sm_X} (C : sm_C κ RX12 cX12_finds 10 7) (v5 : Int32)  : sm_S κ (fun r : Bool => .inr (some (.int (bI r)))) (.inl (307, [none, none, none, none, none, some (.int v5), none, none, none, none], [])) (fnX12_finds_J307 v5) := by
  unfold fnX12_finds_J307
  refine sr_iload (i := 5) (q := 309) C (show decode cX12_finds 307 = .ok (.iload 5, 2) from by decide +kernel) rfl rfl ?_
  refine sr_iconst (v := (-1 : Int32)) (q := 310) C (show decode cX12_finds 309 = .ok (.iconst (-1), 1) from by decide +kernel) (by decide) rfl ?_
  refine sr_icmp_eq (q := 313) C 317 (show decode cX12_finds 310 = .ok (.if_icmp .eq 7, 3) from by decide +kernel) (by decide) rfl ?_ ?_
  · refine sr_iconst (v := (0 : Int32)) (q := 318) C (show decode cX12_finds 317 = .ok (.iconst 0, 1) from by decide +kernel) (by decide) rfl ?_
    exact sr_ireturn C false rfl (show decode cX12_finds 318 = .ok (.ireturn, 1) from by decide +kernel)
  · refine sr_iconst (v := (1 : Int32)) (q := 314) C (show decode cX12_finds 313 = .ok (.iconst 1, 1) from by decide +kernel) (by decide) rfl ?_
    refine sr_goto (q := 318) C (show decode cX12_finds 314 = .ok (.goto 4, 3) from by decide +kernel) (by decide) ?_
    exact sr_ireturn C true rfl (show decode cX12_finds 318 = .ok (.ireturn, 1) from by decide +kernel)
def fnX12_finds_J300 (k141 : Nat → Int32 → Int32 → Int32 → sm_M Bool) (v0 : Nat) (v1 : Int32) (v5 : Int32) (v7 : Int32) : sm_M Bool := k141 v0 v1 v5 v7
set_option maxHeartbeats 4000000 in
set_option maxRecDepth 100000 in
theorem slX12_finds_J300 {κ : sm_X} (C : sm_C κ RX12 cX12_finds 10 7) {k141 : Nat → Int32 → Int32 → Int32 → sm_M Bool} (K141 : ∀ (v0 : Nat) (v1 : Int32) (v5 : Int32) (v6 : Int32) (hv0 : kd v0 = 12), sm_S κ (fun r : Bool => .inr (some (.int (bI r)))) (.inl (141, [some (xad κ v0), some (.int v1), none, none, none, some (.int v5), some (.int v6), none, none, none], [])) (k141 v0 v1 v5 v6)) (v0 : Nat) (v1 : Int32) (v5 : Int32) (v7 : Int32) (hv0 : kd v0 = 12) : sm_S κ (fun r : Bool => .inr (some (.int (bI r)))) (.inl (300, [some (xad κ v0), some (.int v1), none, none, none, some (.int v5), none, some (.int v7), none, none], [])) (fnX12_finds_J300 k141 v0 v1 v5 v7) := by
  unfold fnX12_finds_J300
  refine sr_iload (i := 7) (q := 302) C (show decode cX12_finds 300 = .ok (.iload 7, 2) from by decide +kernel) rfl rfl ?_
  refine sr_istore (i := 6) (L' := [some (xad κ v0), some (.int v1), none, none, none, some (.int v5), some (.int v7), some (.int v7), none, none]) (q := 304) C (show decode cX12_finds 302 = .ok (.istore 6, 2) from by decide +kernel) (by decide) rfl rfl ?_
  refine sr_goto (q := 141) C (show decode cX12_finds 304 = .ok (.goto (-163), 3) from by decide +kernel) (by decide) ?_
  refine sr_weak (L' := [some (xad κ v0), some (.int v1), none, none, none, some (.int v5), some (.int v7), none, none, none]) ⟨rfl, rfl, rfl, rfl, trivial⟩ ?_
  exact K141 v0 v1 v5 v7 hv0
def fnX12_finds_J294 (k141 : Nat → Int32 → Int32 → Int32 → sm_M Bool) (k174 : Nat → Int32 → Int32 → Int32 → Int32 → Int32 → sm_M Bool) (v0 : Nat) (v1 : Int32) (v5 : Int32) (v6 : Int32) (v7 : Int32) (v8 : Int32) : sm_M Bool := k174 v0 v1 v5 v6 v7 (v8 + (1 : Int32))
set_option maxHeartbeats 4000000 in
set_option maxRecDepth 100000 in
theorem slX12_finds_J294 {κ : sm_X} (C : sm_C κ RX12 cX12_finds 10 7) {k141 : Nat → Int32 → Int32 → Int32 → sm_M Bool} (K141 : ∀ (v0 : Nat) (v1 : Int32) (v5 : Int32) (v6 : Int32) (hv0 : kd v0 = 12), sm_S κ (fun r : Bool => .inr (some (.int (bI r)))) (.inl (141, [some (xad κ v0), some (.int v1), none, none, none, some (.int v5), some (.int v6), none, none, none], [])) (k141 v0 v1 v5 v6)) {k174 : Nat → Int32 → Int32 → Int32 → Int32 → Int32 → sm_M Bool} (K174 : ∀ (v0 : Nat) (v1 : Int32) (v5 : Int32) (v6 : Int32) (v7 : Int32) (v8 : Int32) (hv0 : kd v0 = 12), sm_S κ (fun r : Bool => .inr (some (.int (bI r)))) (.inl (174, [some (xad κ v0), some (.int v1), none, none, none, some (.int v5), some (.int v6), some (.int v7), some (.int v8), none], [])) (k174 v0 v1 v5 v6 v7 v8)) (v0 : Nat) (v1 : Int32) (v5 : Int32) (v6 : Int32) (v7 : Int32) (v8 : Int32) (hv0 : kd v0 = 12) : sm_S κ (fun r : Bool => .inr (some (.int (bI r)))) (.inl (294, [some (xad κ v0), some (.int v1), none, none, none, some (.int v5), some (.int v6), some (.int v7), some (.int v8), none], [])) (fnX12_finds_J294 k141 k174 v0 v1 v5 v6 v7 v8) := by
  unfold fnX12_finds_J294
  refine sr_iinc (v := v8 + (1 : Int32)) (L' := [some (xad κ v0), some (.int v1), none, none, none, some (.int v5), some (.int v6), some (.int v7), some (.int (v8 + (1 : Int32))), none]) (q := 297) C (show decode cX12_finds 294 = .ok (.iinc 8 1, 3) from by decide +kernel) rfl rfl (by decide) rfl rfl ?_
  refine sr_goto (q := 174) C (show decode cX12_finds 297 = .ok (.goto (-123), 3) from by decide +kernel) (by decide) ?_
  exact K174 v0 v1 v5 v6 v7 (v8 + (1 : Int32)) hv0
def fnX12_finds_J239 (k141 : Nat → Int32 → Int32 → Int32 → sm_M Bool) (k174 : Nat → Int32 → Int32 → Int32 → Int32 → Int32 → sm_M Bool) (v0 : Nat) (v1 : Int32) (v5 : Int32) (v6 : Int32) (v7 : Int32) (v8 : Int32) (s0 : Int32) : sm_M Bool := m_br (s0 = 0)
    (fnX12_finds_J294 k141 k174 v0 v1 v5 v6 v7 v8)
    (m_ai (lk v0 15) v6 fun x252 => m_ai (lk v0 16) v8 fun x259 => m_ai (lk v0 16) v6 fun x267 => m_br ((x252 + x259) = x267)
    (m_ai (lk v0 17) v8 fun x278 => m_ai (lk v0 17) v6 fun x286 => m_br (((1 : Int32) + x278) = x286)
    (fnX12_finds_J294 k141 k174 v0 v1 v5 v6 v8 v8)
    (fnX12_finds_J294 k141 k174 v0 v1 v5 v6 v7 v8))
    (fnX12_finds_J294 k141 k174 v0 v1 v5 v6 v7 v8))
set_option maxHeartbeats 4000000 in
set_option maxRecDepth 100000 in
theorem slX12_finds_J239 {κ : sm_X} (C : sm_C κ RX12 cX12_finds 10 7) {k141 : Nat → Int32 → Int32 → Int32 → sm_M Bool} (K141 : ∀ (v0 : Nat) (v1 : Int32) (v5 : Int32) (v6 : Int32) (hv0 : kd v0 = 12), sm_S κ (fun r : Bool => .inr (some (.int (bI r)))) (.inl (141, [some (xad κ v0), some (.int v1), none, none, none, some (.int v5), some (.int v6), none, none, none], [])) (k141 v0 v1 v5 v6)) {k174 : Nat → Int32 → Int32 → Int32 → Int32 → Int32 → sm_M Bool} (K174 : ∀ (v0 : Nat) (v1 : Int32) (v5 : Int32) (v6 : Int32) (v7 : Int32) (v8 : Int32) (hv0 : kd v0 = 12), sm_S κ (fun r : Bool => .inr (some (.int (bI r)))) (.inl (174, [some (xad κ v0), some (.int v1), none, none, none, some (.int v5), some (.int v6), some (.int v7), some (.int v8), none], [])) (k174 v0 v1 v5 v6 v7 v8)) (v0 : Nat) (v1 : Int32) (v5 : Int32) (v6 : Int32) (v7 : Int32) (v8 : Int32) (s0 : Int32) (hv0 : kd v0 = 12) : sm_S κ (fun r : Bool => .inr (some (.int (bI r)))) (.inl (239, [some (xad κ v0), some (.int v1), none, none, none, some (.int v5), some (.int v6), some (.int v7), some (.int v8), none], [.int s0])) (fnX12_finds_J239 k141 k174 v0 v1 v5 v6 v7 v8 s0) := by
  unfold fnX12_finds_J239
  refine sr_istore (i := 9) (L' := [some (xad κ v0), some (.int v1), none, none, none, some (.int v5), some (.int v6), some (.int v7), some (.int v8), some (.int s0)]) (q := 241) C (show decode cX12_finds 239 = .ok (.istore 9, 2) from by decide +kernel) (by decide) rfl rfl ?_
  refine sr_iload (i := 9) (q := 243) C (show decode cX12_finds 241 = .ok (.iload 9, 2) from by decide +kernel) rfl rfl ?_
  refine sr_if_eq (q := 246) C 294 (show decode cX12_finds 243 = .ok (.ifCond .eq 51, 3) from by decide +kernel) (by decide) rfl ?_ ?_
  · refine sr_weak (L' := [some (xad κ v0), some (.int v1), none, none, none, some (.int v5), some (.int v6), some (.int v7), some (.int v8), none]) ⟨rfl, rfl, rfl, rfl, rfl, rfl, trivial⟩ ?_
    exact slX12_finds_J294 C K141 K174 v0 v1 v5 v6 v7 v8 hv0
  · refine sr_aload_n (i := 0) (q := 247) C (show decode cX12_finds 246 = .ok (.aload_n 0, 1) from by decide +kernel) rfl rfl rfl ?_
    refine sr_getr (q := 250) C fl_X12_34 hv0 (show decode cX12_finds 247 = .ok (.getfield 34, 3) from by decide +kernel) rfl ?_
    refine sr_iload (i := 6) (q := 252) C (show decode cX12_finds 250 = .ok (.iload 6, 2) from by decide +kernel) rfl rfl ?_
    refine sr_iaload (q := 253) C (kt hv0 kp_12_15) (show decode cX12_finds 252 = .ok (.iaload, 1) from by decide +kernel) rfl (fun x252 => ?_)
    refine sr_aload_n (i := 0) (q := 254) C (show decode cX12_finds 253 = .ok (.aload_n 0, 1) from by decide +kernel) rfl rfl rfl ?_
    refine sr_getr (q := 257) C fl_X12_37 hv0 (show decode cX12_finds 254 = .ok (.getfield 37, 3) from by decide +kernel) rfl ?_
    refine sr_iload (i := 8) (q := 259) C (show decode cX12_finds 257 = .ok (.iload 8, 2) from by decide +kernel) rfl rfl ?_
    refine sr_iaload (q := 260) C (kt hv0 kp_12_16) (show decode cX12_finds 259 = .ok (.iaload, 1) from by decide +kernel) rfl (fun x259 => ?_)
    refine sr_iadd (q := 261) C (show decode cX12_finds 260 = .ok (.iadd, 1) from by decide +kernel) rfl ?_
    refine sr_aload_n (i := 0) (q := 262) C (show decode cX12_finds 261 = .ok (.aload_n 0, 1) from by decide +kernel) rfl rfl rfl ?_
    refine sr_getr (q := 265) C fl_X12_37 hv0 (show decode cX12_finds 262 = .ok (.getfield 37, 3) from by decide +kernel) rfl ?_
    refine sr_iload (i := 6) (q := 267) C (show decode cX12_finds 265 = .ok (.iload 6, 2) from by decide +kernel) rfl rfl ?_
    refine sr_iaload (q := 268) C (kt hv0 kp_12_16) (show decode cX12_finds 267 = .ok (.iaload, 1) from by decide +kernel) rfl (fun x267 => ?_)
    refine sr_icmp_ne (q := 271) C 294 (show decode cX12_finds 268 = .ok (.if_icmp .ne 26, 3) from by decide +kernel) (by decide) rfl ?_ ?_
    · refine sr_weak (L' := [some (xad κ v0), some (.int v1), none, none, none, some (.int v5), some (.int v6), some (.int v7), some (.int v8), none]) ⟨rfl, rfl, rfl, rfl, rfl, rfl, trivial⟩ ?_
      exact slX12_finds_J294 C K141 K174 v0 v1 v5 v6 v7 v8 hv0
    · refine sr_iconst (v := (1 : Int32)) (q := 272) C (show decode cX12_finds 271 = .ok (.iconst 1, 1) from by decide +kernel) (by decide) rfl ?_
      refine sr_aload_n (i := 0) (q := 273) C (show decode cX12_finds 272 = .ok (.aload_n 0, 1) from by decide +kernel) rfl rfl rfl ?_
      refine sr_getr (q := 276) C fl_X12_40 hv0 (show decode cX12_finds 273 = .ok (.getfield 40, 3) from by decide +kernel) rfl ?_
      refine sr_iload (i := 8) (q := 278) C (show decode cX12_finds 276 = .ok (.iload 8, 2) from by decide +kernel) rfl rfl ?_
      refine sr_iaload (q := 279) C (kt hv0 kp_12_17) (show decode cX12_finds 278 = .ok (.iaload, 1) from by decide +kernel) rfl (fun x278 => ?_)
      refine sr_iadd (q := 280) C (show decode cX12_finds 279 = .ok (.iadd, 1) from by decide +kernel) rfl ?_
      refine sr_aload_n (i := 0) (q := 281) C (show decode cX12_finds 280 = .ok (.aload_n 0, 1) from by decide +kernel) rfl rfl rfl ?_
      refine sr_getr (q := 284) C fl_X12_40 hv0 (show decode cX12_finds 281 = .ok (.getfield 40, 3) from by decide +kernel) rfl ?_
      refine sr_iload (i := 6) (q := 286) C (show decode cX12_finds 284 = .ok (.iload 6, 2) from by decide +kernel) rfl rfl ?_
      refine sr_iaload (q := 287) C (kt hv0 kp_12_17) (show decode cX12_finds 286 = .ok (.iaload, 1) from by decide +kernel) rfl (fun x286 => ?_)
      refine sr_icmp_ne (q := 290) C 294 (show decode cX12_finds 287 = .ok (.if_icmp .ne 7, 3) from by decide +kernel) (by decide) rfl ?_ ?_
      · refine sr_weak (L' := [some (xad κ v0), some (.int v1), none, none, none, some (.int v5), some (.int v6), some (.int v7), some (.int v8), none]) ⟨rfl, rfl, rfl, rfl, rfl, rfl, trivial⟩ ?_
        exact slX12_finds_J294 C K141 K174 v0 v1 v5 v6 v7 v8 hv0
      · refine sr_iload (i := 8) (q := 292) C (show decode cX12_finds 290 = .ok (.iload 8, 2) from by decide +kernel) rfl rfl ?_
        refine sr_istore (i := 7) (L' := [some (xad κ v0), some (.int v1), none, none, none, some (.int v5), some (.int v6), some (.int v8), some (.int v8), some (.int s0)]) (q := 294) C (show decode cX12_finds 292 = .ok (.istore 7, 2) from by decide +kernel) (by decide) rfl rfl ?_
        refine sr_weak (L' := [some (xad κ v0), some (.int v1), none, none, none, some (.int v5), some (.int v6), some (.int v8), some (.int v8), none]) ⟨rfl, rfl, rfl, rfl, rfl, rfl, trivial⟩ ?_
        exact slX12_finds_J294 C K141 K174 v0 v1 v5 v6 v8 v8 hv0
def fnX12_finds_J238 (k141 : Nat → Int32 → Int32 → Int32 → sm_M Bool) (k174 : Nat → Int32 → Int32 → Int32 → Int32 → Int32 → sm_M Bool) (v0 : Nat) (v1 : Int32) (v5 : Int32) (v6 : Int32) (v7 : Int32) (v8 : Int32) : sm_M Bool := fnX12_finds_J239 k141 k174 v0 v1 v5 v6 v7 v8 (0 : Int32)
set_option maxHeartbeats 4000000 in
set_option maxRecDepth 100000 in
theorem slX12_finds_J238 {κ : sm_X} (C : sm_C κ RX12 cX12_finds 10 7) {k141 : Nat → Int32 → Int32 → Int32 → sm_M Bool} (K141 : ∀ (v0 : Nat) (v1 : Int32) (v5 : Int32) (v6 : Int32) (hv0 : kd v0 = 12), sm_S κ (fun r : Bool => .inr (some (.int (bI r)))) (.inl (141, [some (xad κ v0), some (.int v1), none, none, none, some (.int v5), some (.int v6), none, none, none], [])) (k141 v0 v1 v5 v6)) {k174 : Nat → Int32 → Int32 → Int32 → Int32 → Int32 → sm_M Bool} (K174 : ∀ (v0 : Nat) (v1 : Int32) (v5 : Int32) (v6 : Int32) (v7 : Int32) (v8 : Int32) (hv0 : kd v0 = 12), sm_S κ (fun r : Bool => .inr (some (.int (bI r)))) (.inl (174, [some (xad κ v0), some (.int v1), none, none, none, some (.int v5), some (.int v6), some (.int v7), some (.int v8), none], [])) (k174 v0 v1 v5 v6 v7 v8)) (v0 : Nat) (v1 : Int32) (v5 : Int32) (v6 : Int32) (v7 : Int32) (v8 : Int32) (hv0 : kd v0 = 12) : sm_S κ (fun r : Bool => .inr (some (.int (bI r)))) (.inl (238, [some (xad κ v0), some (.int v1), none, none, none, some (.int v5), some (.int v6), some (.int v7), some (.int v8), none], [])) (fnX12_finds_J238 k141 k174 v0 v1 v5 v6 v7 v8) := by
  unfold fnX12_finds_J238
  refine sr_iconst (v := (0 : Int32)) (q := 239) C (show decode cX12_finds 238 = .ok (.iconst 0, 1) from by decide +kernel) (by decide) rfl ?_
  exact slX12_finds_J239 C K141 K174 v0 v1 v5 v6 v7 v8 (0 : Int32) hv0
def fnX12_finds_L174 (k141 : Nat → Int32 → Int32 → Int32 → sm_M Bool) : Nat → Nat → Int32 → Int32 → Int32 → Int32 → Int32 → sm_M Bool
  | 0, _, _, _, _, _, _ => m_fail
  | n + 1, v0, v1, v5, v6, v7, v8 => m_ai (lk v0 1) (3 : Int32) fun x181 => m_br (x181 ≤ v8)
    (fnX12_finds_J300 k141 v0 v1 v5 v7)
    (m_br (v7 = (-1 : Int32))
    (m_ai (lk v0 17) v6 fun x197 => m_br (x197 ≤ (1 : Int32))
    (fnX12_finds_J300 k141 v0 v1 v5 v7)
    (m_br (v8 = v6)
    (fnX12_finds_J238 k141 (fnX12_finds_L174 k141 n) v0 v1 v5 v6 v7 v8)
    (m_ai (lk v0 16) v8 fun x215 => m_br ((1000000 : Int32) ≤ x215)
    (fnX12_finds_J238 k141 (fnX12_finds_L174 k141 n) v0 v1 v5 v6 v7 v8)
    (m_bnd (fnX12_isStep v0 v6 v8 v1) fun x228 => m_br ((bI x228) = 0)
    (fnX12_finds_J238 k141 (fnX12_finds_L174 k141 n) v0 v1 v5 v6 v7 v8)
    (fnX12_finds_J239 k141 (fnX12_finds_L174 k141 n) v0 v1 v5 v6 v7 v8 (1 : Int32))))))
    (fnX12_finds_J300 k141 v0 v1 v5 v7))
set_option maxHeartbeats 4000000 in
set_option maxRecDepth 100000 in
theorem slX12_finds_L174 {κ : sm_X} (C : sm_C κ RX12 cX12_finds 10 7) {k141 : Nat → Int32 → Int32 → Int32 → sm_M Bool} (K141 : ∀ (v0 : Nat) (v1 : Int32) (v5 : Int32) (v6 : Int32) (hv0 : kd v0 = 12), sm_S κ (fun r : Bool => .inr (some (.int (bI r)))) (.inl (141, [some (xad κ v0), some (.int v1), none, none, none, some (.int v5), some (.int v6), none, none, none], [])) (k141 v0 v1 v5 v6)) : ∀ (n : Nat) (v0 : Nat) (v1 : Int32) (v5 : Int32) (v6 : Int32) (v7 : Int32) (v8 : Int32) (hv0 : kd v0 = 12), sm_S κ (fun r : Bool => .inr (some (.int (bI r)))) (.inl (174, [some (xad κ v0), some (.int v1), none, none, none, some (.int v5), some (.int v6), some (.int v7), some (.int v8), none], [])) (fnX12_finds_L174 k141 n v0 v1 v5 v6 v7 v8) := by
  intro n
  induction n with
  | zero =>
    intros
    exact sr_fail
  | succ n K174 =>
    intro v0 v1 v5 v6 v7 v8 hv0
    unfold fnX12_finds_L174
    refine sr_iload (i := 8) (q := 176) C (show decode cX12_finds 174 = .ok (.iload 8, 2) from by decide +kernel) rfl rfl ?_
    refine sr_aload_n (i := 0) (q := 177) C (show decode cX12_finds 176 = .ok (.aload_n 0, 1) from by decide +kernel) rfl rfl rfl ?_
    refine sr_getr (q := 180) C fl_X12_9 hv0 (show decode cX12_finds 177 = .ok (.getfield 9, 3) from by decide +kernel) rfl ?_
    refine sr_iconst (v := (3 : Int32)) (q := 181) C (show decode cX12_finds 180 = .ok (.iconst 3, 1) from by decide +kernel) (by decide) rfl ?_
    refine sr_iaload (q := 182) C (kt hv0 kp_12_1) (show decode cX12_finds 181 = .ok (.iaload, 1) from by decide +kernel) rfl (fun x181 => ?_)
    refine sr_icmp_ge (q := 185) C 300 (show decode cX12_finds 182 = .ok (.if_icmp .ge 118, 3) from by decide +kernel) (by decide) rfl ?_ ?_
    · refine sr_weak (L' := [some (xad κ v0), some (.int v1), none, none, none, some (.int v5), none, some (.int v7), none, none]) ⟨rfl, rfl, rfl, rfl, trivial⟩ ?_
      exact slX12_finds_J300 C K141 v0 v1 v5 v7 hv0
    · refine sr_iload (i := 7) (q := 187) C (show decode cX12_finds 185 = .ok (.iload 7, 2) from by decide +kernel) rfl rfl ?_
      refine sr_iconst (v := (-1 : Int32)) (q := 188) C (show decode cX12_finds 187 = .ok (.iconst (-1), 1) from by decide +kernel) (by decide) rfl ?_
      refine sr_icmp_ne (q := 191) C 300 (show decode cX12_finds 188 = .ok (.if_icmp .ne 112, 3) from by decide +kernel) (by decide) rfl ?_ ?_
      · refine sr_weak (L' := [some (xad κ v0), some (.int v1), none, none, none, some (.int v5), none, some (.int v7), none, none]) ⟨rfl, rfl, rfl, rfl, trivial⟩ ?_
        exact slX12_finds_J300 C K141 v0 v1 v5 v7 hv0
      · refine sr_aload_n (i := 0) (q := 192) C (show decode cX12_finds 191 = .ok (.aload_n 0, 1) from by decide +kernel) rfl rfl rfl ?_
        refine sr_getr (q := 195) C fl_X12_40 hv0 (show decode cX12_finds 192 = .ok (.getfield 40, 3) from by decide +kernel) rfl ?_
        refine sr_iload (i := 6) (q := 197) C (show decode cX12_finds 195 = .ok (.iload 6, 2) from by decide +kernel) rfl rfl ?_
        refine sr_iaload (q := 198) C (kt hv0 kp_12_17) (show decode cX12_finds 197 = .ok (.iaload, 1) from by decide +kernel) rfl (fun x197 => ?_)
        refine sr_iconst (v := (1 : Int32)) (q := 199) C (show decode cX12_finds 198 = .ok (.iconst 1, 1) from by decide +kernel) (by decide) rfl ?_
        refine sr_icmp_le (q := 202) C 300 (show decode cX12_finds 199 = .ok (.if_icmp .le 101, 3) from by decide +kernel) (by decide) rfl ?_ ?_
        · refine sr_weak (L' := [some (xad κ v0), some (.int v1), none, none, none, some (.int v5), none, some (.int v7), none, none]) ⟨rfl, rfl, rfl, rfl, trivial⟩ ?_
          exact slX12_finds_J300 C K141 v0 v1 v5 v7 hv0
        · refine sr_iload (i := 8) (q := 204) C (show decode cX12_finds 202 = .ok (.iload 8, 2) from by decide +kernel) rfl rfl ?_
          refine sr_iload (i := 6) (q := 206) C (show decode cX12_finds 204 = .ok (.iload 6, 2) from by decide +kernel) rfl rfl ?_
          refine sr_icmp_eq (q := 209) C 238 (show decode cX12_finds 206 = .ok (.if_icmp .eq 32, 3) from by decide +kernel) (by decide) rfl ?_ ?_
          · exact slX12_finds_J238 C K141 K174 v0 v1 v5 v6 v7 v8 hv0
          · refine sr_aload_n (i := 0) (q := 210) C (show decode cX12_finds 209 = .ok (.aload_n 0, 1) from by decide +kernel) rfl rfl rfl ?_
            refine sr_getr (q := 213) C fl_X12_37 hv0 (show decode cX12_finds 210 = .ok (.getfield 37, 3) from by decide +kernel) rfl ?_
            refine sr_iload (i := 8) (q := 215) C (show decode cX12_finds 213 = .ok (.iload 8, 2) from by decide +kernel) rfl rfl ?_
            refine sr_iaload (q := 216) C (kt hv0 kp_12_16) (show decode cX12_finds 215 = .ok (.iaload, 1) from by decide +kernel) rfl (fun x215 => ?_)
            refine sr_ldcw (q := 219) C co_X12_292 (show decode cX12_finds 216 = .ok (.ldc_w 292, 3) from by decide +kernel) rfl ?_
            refine sr_icmp_ge (q := 222) C 238 (show decode cX12_finds 219 = .ok (.if_icmp .ge 19, 3) from by decide +kernel) (by decide) rfl ?_ ?_
            · exact slX12_finds_J238 C K141 K174 v0 v1 v5 v6 v7 v8 hv0
            · refine sr_aload_n (i := 0) (q := 223) C (show decode cX12_finds 222 = .ok (.aload_n 0, 1) from by decide +kernel) rfl rfl rfl ?_
              refine sr_iload (i := 6) (q := 225) C (show decode cX12_finds 223 = .ok (.iload 6, 2) from by decide +kernel) rfl rfl ?_
              refine sr_iload (i := 8) (q := 227) C (show decode cX12_finds 225 = .ok (.iload 8, 2) from by decide +kernel) rfl rfl ?_
              refine sr_iload_n (i := 1) (q := 228) C (show decode cX12_finds 227 = .ok (.iload_n 1, 1) from by decide +kernel) rfl rfl rfl ?_
              refine sr_cVz (As := [.int v6, .int v8, .int v1]) (st := []) (b := v0) (q := 231) C yvX12_isStep ml_X12_270 (cnX12_isStep (xo κ) v0 v6 v8 v1 hv0) hv0 (by decide) rfl rfl rfl (by decide) (by decide) (Nat.le_of_ble_eq_true rfl) rfl (show decode cX12_finds 228 = .ok (.invokevirtual 270, 3) from by decide +kernel) rfl (fun x228 => ?_)
              refine sr_if_eq (q := 234) C 238 (show decode cX12_finds 231 = .ok (.ifCond .eq 7, 3) from by decide +kernel) (by decide) rfl ?_ ?_
              · exact slX12_finds_J238 C K141 K174 v0 v1 v5 v6 v7 v8 hv0
              · refine sr_iconst (v := (1 : Int32)) (q := 235) C (show decode cX12_finds 234 = .ok (.iconst 1, 1) from by decide +kernel) (by decide) rfl ?_
                refine sr_goto (q := 239) C (show decode cX12_finds 235 = .ok (.goto 4, 3) from by decide +kernel) (by decide) ?_
                exact slX12_finds_J239 C K141 K174 v0 v1 v5 v6 v7 v8 (1 : Int32) hv0
def fnX12_finds_L141 : Nat → Nat → Int32 → Int32 → Int32 → sm_M Bool
  | 0, _, _, _, _ => m_fail
  | n + 1, v0, v1, v5, v6 => m_br (v6 = (-1 : Int32))
    (fnX12_finds_J307 v5)
    (m_gi v0 19 fun x152 => m_sai (lk v0 18) x152 v6 <| m_gi v0 19 fun x160 => m_si v0 19 (x160 + (1 : Int32)) <| fnX12_finds_L174 (fnX12_finds_L141 n) 4096 v0 v1 v5 v6 (-1 : Int32) (0 : Int32))
set_option maxHeartbeats 4000000 in
set_option maxRecDepth 100000 in
theorem slX12_finds_L141 {κ : sm_X} (C : sm_C κ RX12 cX12_finds 10 7) : ∀ (n : Nat) (v0 : Nat) (v1 : Int32) (v5 : Int32) (v6 : Int32) (hv0 : kd v0 = 12), sm_S κ (fun r : Bool => .inr (some (.int (bI r)))) (.inl (141, [some (xad κ v0), some (.int v1), none, none, none, some (.int v5), some (.int v6), none, none, none], [])) (fnX12_finds_L141 n v0 v1 v5 v6) := by
  intro n
  induction n with
  | zero =>
    intros
    exact sr_fail
  | succ n K141 =>
    intro v0 v1 v5 v6 hv0
    unfold fnX12_finds_L141
    refine sr_iload (i := 6) (q := 143) C (show decode cX12_finds 141 = .ok (.iload 6, 2) from by decide +kernel) rfl rfl ?_
    refine sr_iconst (v := (-1 : Int32)) (q := 144) C (show decode cX12_finds 143 = .ok (.iconst (-1), 1) from by decide +kernel) (by decide) rfl ?_
    refine sr_icmp_eq (q := 147) C 307 (show decode cX12_finds 144 = .ok (.if_icmp .eq 163, 3) from by decide +kernel) (by decide) rfl ?_ ?_
    · refine sr_weak (L' := [none, none, none, none, none, some (.int v5), none, none, none, none]) ⟨rfl, trivial⟩ ?_
      exact slX12_finds_J307 C v5
    · refine sr_aload_n (i := 0) (q := 148) C (show decode cX12_finds 147 = .ok (.aload_n 0, 1) from by decide +kernel) rfl rfl rfl ?_
      refine sr_getr (q := 151) C fl_X12_43 hv0 (show decode cX12_finds 148 = .ok (.getfield 43, 3) from by decide +kernel) rfl ?_
      refine sr_aload_n (i := 0) (q := 152) C (show decode cX12_finds 151 = .ok (.aload_n 0, 1) from by decide +kernel) rfl rfl rfl ?_
      refine sr_geti (q := 155) C fl_X12_297 (Or.inl rfl) hv0 (show decode cX12_finds 152 = .ok (.getfield 297, 3) from by decide +kernel) rfl (fun x152 => ?_)
      refine sr_iload (i := 6) (q := 157) C (show decode cX12_finds 155 = .ok (.iload 6, 2) from by decide +kernel) rfl rfl ?_
      refine sr_iastore (q := 158) C (kt hv0 kp_12_18) (show decode cX12_finds 157 = .ok (.iastore, 1) from by decide +kernel) rfl ?_
      refine sr_aload_n (i := 0) (q := 159) C (show decode cX12_finds 158 = .ok (.aload_n 0, 1) from by decide +kernel) rfl rfl rfl ?_
      refine sr_dup (q := 160) C (show decode cX12_finds 159 = .ok (.dup, 1) from by decide +kernel) rfl rfl ?_
      refine sr_geti (q := 163) C fl_X12_297 (Or.inl rfl) hv0 (show decode cX12_finds 160 = .ok (.getfield 297, 3) from by decide +kernel) rfl (fun x160 => ?_)
      refine sr_iconst (v := (1 : Int32)) (q := 164) C (show decode cX12_finds 163 = .ok (.iconst 1, 1) from by decide +kernel) (by decide) rfl ?_
      refine sr_iadd (q := 165) C (show decode cX12_finds 164 = .ok (.iadd, 1) from by decide +kernel) rfl ?_
      refine sr_puti (q := 168) C fp_X12_297 hv0 (show decode cX12_finds 165 = .ok (.putfield 297, 3) from by decide +kernel) rfl ?_
      refine sr_iconst (v := (-1 : Int32)) (q := 169) C (show decode cX12_finds 168 = .ok (.iconst (-1), 1) from by decide +kernel) (by decide) rfl ?_
      refine sr_istore (i := 7) (L' := [some (xad κ v0), some (.int v1), none, none, none, some (.int v5), some (.int v6), some (.int (-1 : Int32)), none, none]) (q := 171) C (show decode cX12_finds 169 = .ok (.istore 7, 2) from by decide +kernel) (by decide) rfl rfl ?_
      refine sr_iconst (v := (0 : Int32)) (q := 172) C (show decode cX12_finds 171 = .ok (.iconst 0, 1) from by decide +kernel) (by decide) rfl ?_
      refine sr_istore (i := 8) (L' := [some (xad κ v0), some (.int v1), none, none, none, some (.int v5), some (.int v6), some (.int (-1 : Int32)), some (.int (0 : Int32)), none]) (q := 174) C (show decode cX12_finds 172 = .ok (.istore 8, 2) from by decide +kernel) (by decide) rfl rfl ?_
      exact slX12_finds_L174 C K141 4096 v0 v1 v5 v6 (-1 : Int32) (0 : Int32) hv0
def fnX12_finds_J137 (v0 : Nat) (v1 : Int32) (v5 : Int32) : sm_M Bool := fnX12_finds_L141 4096 v0 v1 v5 v5
set_option maxHeartbeats 4000000 in
set_option maxRecDepth 100000 in
theorem slX12_finds_J137 {κ : sm_X} (C : sm_C κ RX12 cX12_finds 10 7) (v0 : Nat) (v1 : Int32) (v5 : Int32) (hv0 : kd v0 = 12) : sm_S κ (fun r : Bool => .inr (some (.int (bI r)))) (.inl (137, [some (xad κ v0), some (.int v1), none, none, none, some (.int v5), none, none, none, none], [])) (fnX12_finds_J137 v0 v1 v5) := by
  unfold fnX12_finds_J137
  refine sr_iload (i := 5) (q := 139) C (show decode cX12_finds 137 = .ok (.iload 5, 2) from by decide +kernel) rfl rfl ?_
  refine sr_istore (i := 6) (L' := [some (xad κ v0), some (.int v1), none, none, none, some (.int v5), some (.int v5), none, none, none]) (q := 141) C (show decode cX12_finds 139 = .ok (.istore 6, 2) from by decide +kernel) (by decide) rfl rfl ?_
  exact slX12_finds_L141 C 4096 v0 v1 v5 v5 hv0
def fnX12_finds_J131 (k48 : Nat → Int32 → Int32 → Int32 → Int32 → sm_M Bool) (v0 : Nat) (v1 : Int32) (v4 : Int32) (v5 : Int32) (v6 : Int32) : sm_M Bool := k48 v0 v1 v4 v5 (v6 + (1 : Int32))
set_option maxHeartbeats 4000000 in
set_option maxRecDepth 100000 in
theorem slX12_finds_J131 {κ : sm_X} (C : sm_C κ RX12 cX12_finds 10 7) {k48 : Nat → Int32 → Int32 → Int32 → Int32 → sm_M Bool} (K48 : ∀ (v0 : Nat) (v1 : Int32) (v4 : Int32) (v5 : Int32) (v6 : Int32) (hv0 : kd v0 = 12), sm_S κ (fun r : Bool => .inr (some (.int (bI r)))) (.inl (48, [some (xad κ v0), some (.int v1), none, none, some (.int v4), some (.int v5), some (.int v6), none, none, none], [])) (k48 v0 v1 v4 v5 v6)) (v0 : Nat) (v1 : Int32) (v4 : Int32) (v5 : Int32) (v6 : Int32) (hv0 : kd v0 = 12) : sm_S κ (fun r : Bool => .inr (some (.int (bI r)))) (.inl (131, [some (xad κ v0), some (.int v1), none, none, some (.int v4), some (.int v5), some (.int v6), none, none, none], [])) (fnX12_finds_J131 k48 v0 v1 v4 v5 v6) := by
  unfold fnX12_finds_J131
  refine sr_iinc (v := v6 + (1 : Int32)) (L' := [some (xad κ v0), some (.int v1), none, none, some (.int v4), some (.int v5), some (.int (v6 + (1 : Int32))), none, none, none]) (q := 134) C (show decode cX12_finds 131 = .ok (.iinc 6 1, 3) from by decide +kernel) rfl rfl (by decide) rfl rfl ?_
  refine sr_goto (q := 48) C (show decode cX12_finds 134 = .ok (.goto (-86), 3) from by decide +kernel) (by decide) ?_
  exact K48 v0 v1 v4 v5 (v6 + (1 : Int32)) hv0
def fnX12_finds_J127 (k48 : Nat → Int32 → Int32 → Int32 → Int32 → sm_M Bool) (v0 : Nat) (v1 : Int32) (v4 : Int32) (v6 : Int32) : sm_M Bool := fnX12_finds_J131 k48 v0 v1 v4 v6 v6
set_option maxHeartbeats 4000000 in
set_option maxRecDepth 100000 in
theorem slX12_finds_J127 {κ : sm_X} (C : sm_C κ RX12 cX12_finds 10 7) {k48 : Nat → Int32 → Int32 → Int32 → Int32 → sm_M Bool} (K48 : ∀ (v0 : Nat) (v1 : Int32) (v4 : Int32) (v5 : Int32) (v6 : Int32) (hv0 : kd v0 = 12), sm_S κ (fun r : Bool => .inr (some (.int (bI r)))) (.inl (48, [some (xad κ v0), some (.int v1), none, none, some (.int v4), some (.int v5), some (.int v6), none, none, none], [])) (k48 v0 v1 v4 v5 v6)) (v0 : Nat) (v1 : Int32) (v4 : Int32) (v6 : Int32) (hv0 : kd v0 = 12) : sm_S κ (fun r : Bool => .inr (some (.int (bI r)))) (.inl (127, [some (xad κ v0), some (.int v1), none, none, some (.int v4), none, some (.int v6), none, none, none], [])) (fnX12_finds_J127 k48 v0 v1 v4 v6) := by
  unfold fnX12_finds_J127
  refine sr_iload (i := 6) (q := 129) C (show decode cX12_finds 127 = .ok (.iload 6, 2) from by decide +kernel) rfl rfl ?_
  refine sr_istore (i := 5) (L' := [some (xad κ v0), some (.int v1), none, none, some (.int v4), some (.int v6), some (.int v6), none, none, none]) (q := 131) C (show decode cX12_finds 129 = .ok (.istore 5, 2) from by decide +kernel) (by decide) rfl rfl ?_
  exact slX12_finds_J131 C K48 v0 v1 v4 v6 v6 hv0
def fnX12_finds_L48 : Nat → Nat → Int32 → Int32 → Int32 → Int32 → sm_M Bool
  | 0, _, _, _, _, _ => m_fail
  | n + 1, v0, v1, v4, v5, v6 => m_ai (lk v0 1) (3 : Int32) fun x55 => m_br (x55 ≤ v6)
    (fnX12_finds_J137 v0 v1 v5)
    (m_ai (lk v0 16) v6 fun x65 => m_br ((1000000 : Int32) ≤ x65)
    (fnX12_finds_J131 (fnX12_finds_L48 n) v0 v1 v4 v5 v6)
    (m_bnd (fnX12_isStep v0 v4 v6 v1) fun x78 => m_br ((bI x78) = 0)
    (fnX12_finds_J131 (fnX12_finds_L48 n) v0 v1 v4 v5 v6)
    (m_br (v5 = (-1 : Int32))
    (fnX12_finds_J127 (fnX12_finds_L48 n) v0 v1 v4 v6)
    (m_ai (lk v0 16) v6 fun x99 => m_ai (lk v0 17) v6 fun x106 => m_ai (lk v0 16) v5 fun x113 => m_ai (lk v0 17) v5 fun x120 => m_bnd (fnX12_isLess x99 x106 x113 x120) fun x121 => m_br ((bI x121) = 0)
    (fnX12_finds_J131 (fnX12_finds_L48 n) v0 v1 v4 v5 v6)
    (fnX12_finds_J127 (fnX12_finds_L48 n) v0 v1 v4 v6)))))
set_option maxHeartbeats 4000000 in
set_option maxRecDepth 100000 in
theorem slX12_finds_L48 {κ : sm_X} (C : sm_C κ RX12 cX12_finds 10 7) : ∀ (n : Nat) (v0 : Nat) (v1 : Int32) (v4 : Int32) (v5 : Int32) (v6 : Int32) (hv0 : kd v0 = 12), sm_S κ (fun r : Bool => .inr (some (.int (bI r)))) (.inl (48, [some (xad κ v0), some (.int v1), none, none, some (.int v4), some (.int v5), some (.int v6), none, none, none], [])) (fnX12_finds_L48 n v0 v1 v4 v5 v6) := by
  intro n
  induction n with
  | zero =>
    intros
    exact sr_fail
  | succ n K48 =>
    intro v0 v1 v4 v5 v6 hv0
    unfold fnX12_finds_L48
    refine sr_iload (i := 6) (q := 50) C (show decode cX12_finds 48 = .ok (.iload 6, 2) from by decide +kernel) rfl rfl ?_
    refine sr_aload_n (i := 0) (q := 51) C (show decode cX12_finds 50 = .ok (.aload_n 0, 1) from by decide +kernel) rfl rfl rfl ?_
    refine sr_getr (q := 54) C fl_X12_9 hv0 (show decode cX12_finds 51 = .ok (.getfield 9, 3) from by decide +kernel) rfl ?_
    refine sr_iconst (v := (3 : Int32)) (q := 55) C (show decode cX12_finds 54 = .ok (.iconst 3, 1) from by decide +kernel) (by decide) rfl ?_
    refine sr_iaload (q := 56) C (kt hv0 kp_12_1) (show decode cX12_finds 55 = .ok (.iaload, 1) from by decide +kernel) rfl (fun x55 => ?_)
    refine sr_icmp_ge (q := 59) C 137 (show decode cX12_finds 56 = .ok (.if_icmp .ge 81, 3) from by decide +kernel) (by decide) rfl ?_ ?_
    · refine sr_weak (L' := [some (xad κ v0), some (.int v1), none, none, none, some (.int v5), none, none, none, none]) ⟨rfl, rfl, rfl, trivial⟩ ?_
      exact slX12_finds_J137 C v0 v1 v5 hv0
    · refine sr_aload_n (i := 0) (q := 60) C (show decode cX12_finds 59 = .ok (.aload_n 0, 1) from by decide +kernel) rfl rfl rfl ?_
      refine sr_getr (q := 63) C fl_X12_37 hv0 (show decode cX12_finds 60 = .ok (.getfield 37, 3) from by decide +kernel) rfl ?_
      refine sr_iload (i := 6) (q := 65) C (show decode cX12_finds 63 = .ok (.iload 6, 2) from by decide +kernel) rfl rfl ?_
      refine sr_iaload (q := 66) C (kt hv0 kp_12_16) (show decode cX12_finds 65 = .ok (.iaload, 1) from by decide +kernel) rfl (fun x65 => ?_)
      refine sr_ldcw (q := 69) C co_X12_292 (show decode cX12_finds 66 = .ok (.ldc_w 292, 3) from by decide +kernel) rfl ?_
      refine sr_icmp_ge (q := 72) C 131 (show decode cX12_finds 69 = .ok (.if_icmp .ge 62, 3) from by decide +kernel) (by decide) rfl ?_ ?_
      · exact slX12_finds_J131 C K48 v0 v1 v4 v5 v6 hv0
      · refine sr_aload_n (i := 0) (q := 73) C (show decode cX12_finds 72 = .ok (.aload_n 0, 1) from by decide +kernel) rfl rfl rfl ?_
        refine sr_iload (i := 4) (q := 75) C (show decode cX12_finds 73 = .ok (.iload 4, 2) from by decide +kernel) rfl rfl ?_
        refine sr_iload (i := 6) (q := 77) C (show decode cX12_finds 75 = .ok (.iload 6, 2) from by decide +kernel) rfl rfl ?_
        refine sr_iload_n (i := 1) (q := 78) C (show decode cX12_finds 77 = .ok (.iload_n 1, 1) from by decide +kernel) rfl rfl rfl ?_
        refine sr_cVz (As := [.int v4, .int v6, .int v1]) (st := []) (b := v0) (q := 81) C yvX12_isStep ml_X12_270 (cnX12_isStep (xo κ) v0 v4 v6 v1 hv0) hv0 (by decide) rfl rfl rfl (by decide) (by decide) (Nat.le_of_ble_eq_true rfl) rfl (show decode cX12_finds 78 = .ok (.invokevirtual 270, 3) from by decide +kernel) rfl (fun x78 => ?_)
        refine sr_if_ne (q := 84) C 87 (show decode cX12_finds 81 = .ok (.ifCond .ne 6, 3) from by decide +kernel) (by decide) rfl ?_ ?_
        · refine sr_iload (i := 5) (q := 89) C (show decode cX12_finds 87 = .ok (.iload 5, 2) from by decide +kernel) rfl rfl ?_
          refine sr_iconst (v := (-1 : Int32)) (q := 90) C (show decode cX12_finds 89 = .ok (.iconst (-1), 1) from by decide +kernel) (by decide) rfl ?_
          refine sr_icmp_eq (q := 93) C 127 (show decode cX12_finds 90 = .ok (.if_icmp .eq 37, 3) from by decide +kernel) (by decide) rfl ?_ ?_
          · refine sr_weak (L' := [some (xad κ v0), some (.int v1), none, none, some (.int v4), none, some (.int v6), none, none, none]) ⟨rfl, rfl, rfl, rfl, trivial⟩ ?_
            exact slX12_finds_J127 C K48 v0 v1 v4 v6 hv0
          · refine sr_aload_n (i := 0) (q := 94) C (show decode cX12_finds 93 = .ok (.aload_n 0, 1) from by decide +kernel) rfl rfl rfl ?_
            refine sr_getr (q := 97) C fl_X12_37 hv0 (show decode cX12_finds 94 = .ok (.getfield 37, 3) from by decide +kernel) rfl ?_
            refine sr_iload (i := 6) (q := 99) C (show decode cX12_finds 97 = .ok (.iload 6, 2) from by decide +kernel) rfl rfl ?_
            refine sr_iaload (q := 100) C (kt hv0 kp_12_16) (show decode cX12_finds 99 = .ok (.iaload, 1) from by decide +kernel) rfl (fun x99 => ?_)
            refine sr_aload_n (i := 0) (q := 101) C (show decode cX12_finds 100 = .ok (.aload_n 0, 1) from by decide +kernel) rfl rfl rfl ?_
            refine sr_getr (q := 104) C fl_X12_40 hv0 (show decode cX12_finds 101 = .ok (.getfield 40, 3) from by decide +kernel) rfl ?_
            refine sr_iload (i := 6) (q := 106) C (show decode cX12_finds 104 = .ok (.iload 6, 2) from by decide +kernel) rfl rfl ?_
            refine sr_iaload (q := 107) C (kt hv0 kp_12_17) (show decode cX12_finds 106 = .ok (.iaload, 1) from by decide +kernel) rfl (fun x106 => ?_)
            refine sr_aload_n (i := 0) (q := 108) C (show decode cX12_finds 107 = .ok (.aload_n 0, 1) from by decide +kernel) rfl rfl rfl ?_
            refine sr_getr (q := 111) C fl_X12_37 hv0 (show decode cX12_finds 108 = .ok (.getfield 37, 3) from by decide +kernel) rfl ?_
            refine sr_iload (i := 5) (q := 113) C (show decode cX12_finds 111 = .ok (.iload 5, 2) from by decide +kernel) rfl rfl ?_
            refine sr_iaload (q := 114) C (kt hv0 kp_12_16) (show decode cX12_finds 113 = .ok (.iaload, 1) from by decide +kernel) rfl (fun x113 => ?_)
            refine sr_aload_n (i := 0) (q := 115) C (show decode cX12_finds 114 = .ok (.aload_n 0, 1) from by decide +kernel) rfl rfl rfl ?_
            refine sr_getr (q := 118) C fl_X12_40 hv0 (show decode cX12_finds 115 = .ok (.getfield 40, 3) from by decide +kernel) rfl ?_
            refine sr_iload (i := 5) (q := 120) C (show decode cX12_finds 118 = .ok (.iload 5, 2) from by decide +kernel) rfl rfl ?_
            refine sr_iaload (q := 121) C (kt hv0 kp_12_17) (show decode cX12_finds 120 = .ok (.iaload, 1) from by decide +kernel) rfl (fun x120 => ?_)
            refine sr_cSz (As := [.int x99, .int x106, .int x113, .int x120]) (st := []) (q := 124) C ysX12_isLess ml_X12_293 (cnX12_isLess (xo κ) x99 x106 x113 x120) rfl (by decide) (by decide) (Nat.le_of_ble_eq_true rfl) rfl (show decode cX12_finds 121 = .ok (.invokestatic 293, 3) from by decide +kernel) rfl (fun x121 => ?_)
            refine sr_if_eq (q := 127) C 131 (show decode cX12_finds 124 = .ok (.ifCond .eq 7, 3) from by decide +kernel) (by decide) rfl ?_ ?_
            · exact slX12_finds_J131 C K48 v0 v1 v4 v5 v6 hv0
            · refine sr_weak (L' := [some (xad κ v0), some (.int v1), none, none, some (.int v4), none, some (.int v6), none, none, none]) ⟨rfl, rfl, rfl, rfl, trivial⟩ ?_
              exact slX12_finds_J127 C K48 v0 v1 v4 v6 hv0
        · refine sr_goto (q := 131) C (show decode cX12_finds 84 = .ok (.goto 47, 3) from by decide +kernel) (by decide) ?_
          exact slX12_finds_J131 C K48 v0 v1 v4 v5 v6 hv0
def fnX12_finds_J39 (v0 : Nat) (v1 : Int32) (v4 : Int32) (s0 : Int32) (s1 : Int32) (s2 : Int32) (s3 : Nat) : sm_M Bool := m_bnd (fnX12_fillLeft s3 s2 s1 s0) fun _ => fnX12_finds_L48 4096 v0 v1 v4 (-1 : Int32) (0 : Int32)
set_option maxHeartbeats 4000000 in
set_option maxRecDepth 100000 in
theorem slX12_finds_J39 {κ : sm_X} (C : sm_C κ RX12 cX12_finds 10 7) (v0 : Nat) (v1 : Int32) (v4 : Int32) (s0 : Int32) (s1 : Int32) (s2 : Int32) (s3 : Nat) (hv0 : kd v0 = 12) (hs3 : kd s3 = 12) : sm_S κ (fun r : Bool => .inr (some (.int (bI r)))) (.inl (39, [some (xad κ v0), some (.int v1), none, none, some (.int v4), none, none, none, none, none], [.int s0, .int s1, .int s2, xad κ s3])) (fnX12_finds_J39 v0 v1 v4 s0 s1 s2 s3) := by
  unfold fnX12_finds_J39
  refine sr_cVv (As := [.int s2, .int s1, .int s0]) (st := []) (b := s3) (q := 42) C yvX12_fillLeft ml_X12_303 (cnX12_fillLeft (xo κ) s3 s2 s1 s0 hs3) hs3 (by decide) rfl rfl rfl (by decide) (by decide) (Nat.le_of_ble_eq_true rfl) rfl (show decode cX12_finds 39 = .ok (.invokevirtual 303, 3) from by decide +kernel) rfl (fun _ => ?_)
  refine sr_iconst (v := (-1 : Int32)) (q := 43) C (show decode cX12_finds 42 = .ok (.iconst (-1), 1) from by decide +kernel) (by decide) rfl ?_
  refine sr_istore (i := 5) (L' := [some (xad κ v0), some (.int v1), none, none, some (.int v4), some (.int (-1 : Int32)), none, none, none, none]) (q := 45) C (show decode cX12_finds 43 = .ok (.istore 5, 2) from by decide +kernel) (by decide) rfl rfl ?_
  refine sr_iconst (v := (0 : Int32)) (q := 46) C (show decode cX12_finds 45 = .ok (.iconst 0, 1) from by decide +kernel) (by decide) rfl ?_
  refine sr_istore (i := 6) (L' := [some (xad κ v0), some (.int v1), none, none, some (.int v4), some (.int (-1 : Int32)), some (.int (0 : Int32)), none, none, none]) (q := 48) C (show decode cX12_finds 46 = .ok (.istore 6, 2) from by decide +kernel) (by decide) rfl rfl ?_
  exact slX12_finds_L48 C 4096 v0 v1 v4 (-1 : Int32) (0 : Int32) hv0
def fnX12_finds (v0 : Nat) (v1 : Int32) (v2 : Int32) (v3 : Int32) (v4 : Int32) : sm_M Bool := m_si v0 19 (0 : Int32) <| m_ai (lk v0 1) (1 : Int32) fun x11 => m_br (v1 < x11)
    (m_bnd (fnX12_fillCosts v0 v3) fun _ => m_br (v4 = (98 : Int32))
    (fnX12_finds_J39 v0 v1 v4 (99 : Int32) v2 v1 v0)
    (fnX12_finds_J39 v0 v1 v4 (98 : Int32) v2 v1 v0))
    (m_ret true)
set_option maxHeartbeats 4000000 in
set_option maxRecDepth 100000 in
theorem slX12_finds {κ : sm_X} (C : sm_C κ RX12 cX12_finds 10 7) (v0 : Nat) (v1 : Int32) (v2 : Int32) (v3 : Int32) (v4 : Int32) (hv0 : kd v0 = 12) : sm_S κ (fun r : Bool => .inr (some (.int (bI r)))) (.inl (0, [some (xad κ v0), some (.int v1), some (.int v2), some (.int v3), some (.int v4), none, none, none, none, none], [])) (fnX12_finds v0 v1 v2 v3 v4) := by
  unfold fnX12_finds
  refine sr_aload_n (i := 0) (q := 1) C (show decode cX12_finds 0 = .ok (.aload_n 0, 1) from by decide +kernel) rfl rfl rfl ?_
  refine sr_iconst (v := (0 : Int32)) (q := 2) C (show decode cX12_finds 1 = .ok (.iconst 0, 1) from by decide +kernel) (by decide) rfl ?_
  refine sr_puti (q := 5) C fp_X12_297 hv0 (show decode cX12_finds 2 = .ok (.putfield 297, 3) from by decide +kernel) rfl ?_
  refine sr_iload_n (i := 1) (q := 6) C (show decode cX12_finds 5 = .ok (.iload_n 1, 1) from by decide +kernel) rfl rfl rfl ?_
  refine sr_aload_n (i := 0) (q := 7) C (show decode cX12_finds 6 = .ok (.aload_n 0, 1) from by decide +kernel) rfl rfl rfl ?_
  refine sr_getr (q := 10) C fl_X12_9 hv0 (show decode cX12_finds 7 = .ok (.getfield 9, 3) from by decide +kernel) rfl ?_
  refine sr_iconst (v := (1 : Int32)) (q := 11) C (show decode cX12_finds 10 = .ok (.iconst 1, 1) from by decide +kernel) (by decide) rfl ?_
  refine sr_iaload (q := 12) C (kt hv0 kp_12_1) (show decode cX12_finds 11 = .ok (.iaload, 1) from by decide +kernel) rfl (fun x11 => ?_)
  refine sr_icmp_lt (q := 15) C 17 (show decode cX12_finds 12 = .ok (.if_icmp .lt 5, 3) from by decide +kernel) (by decide) rfl ?_ ?_
  · refine sr_aload_n (i := 0) (q := 18) C (show decode cX12_finds 17 = .ok (.aload_n 0, 1) from by decide +kernel) rfl rfl rfl ?_
    refine sr_iload_n (i := 3) (q := 19) C (show decode cX12_finds 18 = .ok (.iload_n 3, 1) from by decide +kernel) rfl rfl rfl ?_
    refine sr_cVv (As := [.int v3]) (st := []) (b := v0) (q := 22) C yvX12_fillCosts ml_X12_300 (cnX12_fillCosts (xo κ) v0 v3 hv0) hv0 (by decide) rfl rfl rfl (by decide) (by decide) (Nat.le_of_ble_eq_true rfl) rfl (show decode cX12_finds 19 = .ok (.invokevirtual 300, 3) from by decide +kernel) rfl (fun _ => ?_)
    refine sr_aload_n (i := 0) (q := 23) C (show decode cX12_finds 22 = .ok (.aload_n 0, 1) from by decide +kernel) rfl rfl rfl ?_
    refine sr_iload_n (i := 1) (q := 24) C (show decode cX12_finds 23 = .ok (.iload_n 1, 1) from by decide +kernel) rfl rfl rfl ?_
    refine sr_iload_n (i := 2) (q := 25) C (show decode cX12_finds 24 = .ok (.iload_n 2, 1) from by decide +kernel) rfl rfl rfl ?_
    refine sr_iload (i := 4) (q := 27) C (show decode cX12_finds 25 = .ok (.iload 4, 2) from by decide +kernel) rfl rfl ?_
    refine sr_bipush (v := (98 : Int32)) (q := 29) C (show decode cX12_finds 27 = .ok (.bipush 98, 2) from by decide +kernel) (by decide) rfl ?_
    refine sr_icmp_ne (q := 32) C 37 (show decode cX12_finds 29 = .ok (.if_icmp .ne 8, 3) from by decide +kernel) (by decide) rfl ?_ ?_
    · refine sr_bipush (v := (98 : Int32)) (q := 39) C (show decode cX12_finds 37 = .ok (.bipush 98, 2) from by decide +kernel) (by decide) rfl ?_
      refine sr_weak (L' := [some (xad κ v0), some (.int v1), none, none, some (.int v4), none, none, none, none, none]) ⟨rfl, rfl, rfl, trivial⟩ ?_
      exact slX12_finds_J39 C v0 v1 v4 (98 : Int32) v2 v1 v0 hv0 hv0
    · refine sr_bipush (v := (99 : Int32)) (q := 34) C (show decode cX12_finds 32 = .ok (.bipush 99, 2) from by decide +kernel) (by decide) rfl ?_
      refine sr_goto (q := 39) C (show decode cX12_finds 34 = .ok (.goto 5, 3) from by decide +kernel) (by decide) ?_
      refine sr_weak (L' := [some (xad κ v0), some (.int v1), none, none, some (.int v4), none, none, none, none, none]) ⟨rfl, rfl, rfl, trivial⟩ ?_
      exact slX12_finds_J39 C v0 v1 v4 (99 : Int32) v2 v1 v0 hv0 hv0
  · refine sr_iconst (v := (1 : Int32)) (q := 16) C (show decode cX12_finds 15 = .ok (.iconst 1, 1) from by decide +kernel) (by decide) rfl ?_
    exact sr_ireturn C true rfl (show decode cX12_finds 16 = .ok (.ireturn, 1) from by decide +kernel)
theorem cnX12_finds (ω : sm_O) (v0 : Nat) (v1 : Int32) (v2 : Int32) (v3 : Int32) (v4 : Int32) (hv0 : kd v0 = 12) : sm_Mt 7 yX12_finds cX12_finds 10 (some .boolean) ω [.ref (ω.1 + v0), .int v1, .int v2, .int v3, .int v4] (fun a => some (.int (bI a))) (fnX12_finds v0 v1 v2 v3 v4) := by
  refine sm_conI (r := bI) (by decide) bI_nar (Nat.le_of_ble_eq_true rfl) ?_
  intro κ hκ C
  subst hκ
  exact slX12_finds C v0 v1 v2 v3 v4 hv0
def fnX12_isRiver (v0 : Nat) : sm_M Bool := m_ai (lk v0 1) (1 : Int32) fun x5 => m_br (x5 ≤ 0)
    (m_ret false)
    (m_ret true)
set_option maxHeartbeats 4000000 in
set_option maxRecDepth 100000 in
theorem slX12_isRiver {κ : sm_X} (C : sm_C κ RX12 cX12_isRiver 1 1) (v0 : Nat) (hv0 : kd v0 = 12) : sm_S κ (fun r : Bool => .inr (some (.int (bI r)))) (.inl (0, [some (xad κ v0)], [])) (fnX12_isRiver v0) := by
  unfold fnX12_isRiver
  refine sr_aload_n (i := 0) (q := 1) C (show decode cX12_isRiver 0 = .ok (.aload_n 0, 1) from by decide +kernel) rfl rfl rfl ?_
  refine sr_getr (q := 4) C fl_X12_9 hv0 (show decode cX12_isRiver 1 = .ok (.getfield 9, 3) from by decide +kernel) rfl ?_
  refine sr_iconst (v := (1 : Int32)) (q := 5) C (show decode cX12_isRiver 4 = .ok (.iconst 1, 1) from by decide +kernel) (by decide) rfl ?_
  refine sr_iaload (q := 6) C (kt hv0 kp_12_1) (show decode cX12_isRiver 5 = .ok (.iaload, 1) from by decide +kernel) rfl (fun x5 => ?_)
  refine sr_if_le (q := 9) C 13 (show decode cX12_isRiver 6 = .ok (.ifCond .le 7, 3) from by decide +kernel) (by decide) rfl ?_ ?_
  · refine sr_iconst (v := (0 : Int32)) (q := 14) C (show decode cX12_isRiver 13 = .ok (.iconst 0, 1) from by decide +kernel) (by decide) rfl ?_
    exact sr_ireturn C false rfl (show decode cX12_isRiver 14 = .ok (.ireturn, 1) from by decide +kernel)
  · refine sr_iconst (v := (1 : Int32)) (q := 10) C (show decode cX12_isRiver 9 = .ok (.iconst 1, 1) from by decide +kernel) (by decide) rfl ?_
    refine sr_goto (q := 14) C (show decode cX12_isRiver 10 = .ok (.goto 4, 3) from by decide +kernel) (by decide) ?_
    exact sr_ireturn C true rfl (show decode cX12_isRiver 14 = .ok (.ireturn, 1) from by decide +kernel)
theorem cnX12_isRiver (ω : sm_O) (v0 : Nat) (hv0 : kd v0 = 12) : sm_Mt 1 yX12_isRiver cX12_isRiver 1 (some .boolean) ω [.ref (ω.1 + v0)] (fun a => some (.int (bI a))) (fnX12_isRiver v0) := by
  refine sm_conI (r := bI) (by decide) bI_nar (Nat.le_of_ble_eq_true rfl) ?_
  intro κ hκ C
  subst hκ
  exact slX12_isRiver C v0 hv0
def fnX12_isStride (v0 : Int32) : sm_M Bool := m_bnd (fnX12_in v0.toInt64 (1 : Int64) (9 : Int64)) fun x6 => m_ret x6
set_option maxHeartbeats 4000000 in
set_option maxRecDepth 100000 in
theorem slX12_isStride {κ : sm_X} (C : sm_C κ RX12 cX12_isStride 1 2) (v0 : Int32)  : sm_S κ (fun r : Bool => .inr (some (.int (bI r)))) (.inl (0, [some (.int v0)], [])) (fnX12_isStride v0) := by
  unfold fnX12_isStride
  refine sr_iload_n (i := 0) (q := 1) C (show decode cX12_isStride 0 = .ok (.iload_n 0, 1) from by decide +kernel) rfl rfl rfl ?_
  refine sr_i2l (q := 2) C (show decode cX12_isStride 1 = .ok (.i2l, 1) from by decide +kernel) rfl ?_
  refine sr_lconst (v := (1 : Int64)) (q := 3) C (show decode cX12_isStride 2 = .ok (.lconst 1, 1) from by decide +kernel) (by decide) rfl ?_
  refine sr_ldc2 (q := 6) C co_X12_262 (show decode cX12_isStride 3 = .ok (.ldc2_w 262, 3) from by decide +kernel) rfl ?_
  refine sr_cSz (As := [.long v0.toInt64, .long (1 : Int64), .long (9 : Int64)]) (st := []) (q := 9) C ysX12_in ml_X12_103 (cnX12_in (xo κ) v0.toInt64 (1 : Int64) (9 : Int64)) rfl (by decide) (by decide) (Nat.le_of_ble_eq_true rfl) rfl (show decode cX12_isStride 6 = .ok (.invokestatic 103, 3) from by decide +kernel) rfl (fun x6 => ?_)
  exact sr_ireturn C x6 rfl (show decode cX12_isStride 9 = .ok (.ireturn, 1) from by decide +kernel)
theorem cnX12_isStride (ω : sm_O) (v0 : Int32)  : sm_Mt 2 yX12_isStride cX12_isStride 1 (some .boolean) ω [.int v0] (fun a => some (.int (bI a))) (fnX12_isStride v0) := by
  refine sm_conI (r := bI) (by decide) bI_nar (Nat.le_of_ble_eq_true rfl) ?_
  intro κ hκ C
  subst hκ
  exact slX12_isStride C v0
def fnX12_isAsked (v0 : Nat) (v1 : Int32) (v2 : Int32) (v3 : Int32) : sm_M Bool := m_bnd (fnX12_isRiver v0) fun x1 => m_br ((bI x1) = 0)
    (m_ret false)
    (m_bnd (fnX12_isStride v1) fun x8 => m_br ((bI x8) = 0)
    (m_ret false)
    (m_bnd (fnX12_in v2.toInt64 (1 : Int64) (6 : Int64)) fun x20 => m_br ((bI x20) = 0)
    (m_ret false)
    (m_bnd (fnX12_in v3.toInt64 (0 : Int64) (3 : Int64)) fun x32 => m_br ((bI x32) = 0)
    (m_ret false)
    (m_ret true))))
set_option maxHeartbeats 4000000 in
set_option maxRecDepth 100000 in
theorem slX12_isAsked {κ : sm_X} (C : sm_C κ RX12 cX12_isAsked 4 3) (v0 : Nat) (v1 : Int32) (v2 : Int32) (v3 : Int32) (hv0 : kd v0 = 12) : sm_S κ (fun r : Bool => .inr (some (.int (bI r)))) (.inl (0, [some (xad κ v0), some (.int v1), some (.int v2), some (.int v3)], [])) (fnX12_isAsked v0 v1 v2 v3) := by
  unfold fnX12_isAsked
  refine sr_aload_n (i := 0) (q := 1) C (show decode cX12_isAsked 0 = .ok (.aload_n 0, 1) from by decide +kernel) rfl rfl rfl ?_
  refine sr_cVz (As := []) (st := []) (b := v0) (q := 4) C yvX12_isRiver ml_X12_107 (cnX12_isRiver (xo κ) v0 hv0) hv0 (by decide) rfl rfl rfl (by decide) (by decide) (Nat.le_of_ble_eq_true rfl) rfl (show decode cX12_isAsked 1 = .ok (.invokevirtual 107, 3) from by decide +kernel) rfl (fun x1 => ?_)
  refine sr_if_eq (q := 7) C 42 (show decode cX12_isAsked 4 = .ok (.ifCond .eq 38, 3) from by decide +kernel) (by decide) rfl ?_ ?_
  · refine sr_iconst (v := (0 : Int32)) (q := 43) C (show decode cX12_isAsked 42 = .ok (.iconst 0, 1) from by decide +kernel) (by decide) rfl ?_
    exact sr_ireturn C false rfl (show decode cX12_isAsked 43 = .ok (.ireturn, 1) from by decide +kernel)
  · refine sr_iload_n (i := 1) (q := 8) C (show decode cX12_isAsked 7 = .ok (.iload_n 1, 1) from by decide +kernel) rfl rfl rfl ?_
    refine sr_cSz (As := [.int v1]) (st := []) (q := 11) C ysX12_isStride ml_X12_267 (cnX12_isStride (xo κ) v1) rfl (by decide) (by decide) (Nat.le_of_ble_eq_true rfl) rfl (show decode cX12_isAsked 8 = .ok (.invokestatic 267, 3) from by decide +kernel) rfl (fun x8 => ?_)
    refine sr_if_eq (q := 14) C 42 (show decode cX12_isAsked 11 = .ok (.ifCond .eq 31, 3) from by decide +kernel) (by decide) rfl ?_ ?_
    · refine sr_iconst (v := (0 : Int32)) (q := 43) C (show decode cX12_isAsked 42 = .ok (.iconst 0, 1) from by decide +kernel) (by decide) rfl ?_
      exact sr_ireturn C false rfl (show decode cX12_isAsked 43 = .ok (.ireturn, 1) from by decide +kernel)
    · refine sr_iload_n (i := 2) (q := 15) C (show decode cX12_isAsked 14 = .ok (.iload_n 2, 1) from by decide +kernel) rfl rfl rfl ?_
      refine sr_i2l (q := 16) C (show decode cX12_isAsked 15 = .ok (.i2l, 1) from by decide +kernel) rfl ?_
      refine sr_lconst (v := (1 : Int64)) (q := 17) C (show decode cX12_isAsked 16 = .ok (.lconst 1, 1) from by decide +kernel) (by decide) rfl ?_
      refine sr_ldc2 (q := 20) C co_X12_306 (show decode cX12_isAsked 17 = .ok (.ldc2_w 306, 3) from by decide +kernel) rfl ?_
      refine sr_cSz (As := [.long v2.toInt64, .long (1 : Int64), .long (6 : Int64)]) (st := []) (q := 23) C ysX12_in ml_X12_103 (cnX12_in (xo κ) v2.toInt64 (1 : Int64) (6 : Int64)) rfl (by decide) (by decide) (Nat.le_of_ble_eq_true rfl) rfl (show decode cX12_isAsked 20 = .ok (.invokestatic 103, 3) from by decide +kernel) rfl (fun x20 => ?_)
      refine sr_if_eq (q := 26) C 42 (show decode cX12_isAsked 23 = .ok (.ifCond .eq 19, 3) from by decide +kernel) (by decide) rfl ?_ ?_
      · refine sr_iconst (v := (0 : Int32)) (q := 43) C (show decode cX12_isAsked 42 = .ok (.iconst 0, 1) from by decide +kernel) (by decide) rfl ?_
        exact sr_ireturn C false rfl (show decode cX12_isAsked 43 = .ok (.ireturn, 1) from by decide +kernel)
      · refine sr_iload_n (i := 3) (q := 27) C (show decode cX12_isAsked 26 = .ok (.iload_n 3, 1) from by decide +kernel) rfl rfl rfl ?_
        refine sr_i2l (q := 28) C (show decode cX12_isAsked 27 = .ok (.i2l, 1) from by decide +kernel) rfl ?_
        refine sr_lconst (v := (0 : Int64)) (q := 29) C (show decode cX12_isAsked 28 = .ok (.lconst 0, 1) from by decide +kernel) (by decide) rfl ?_
        refine sr_ldc2 (q := 32) C co_X12_308 (show decode cX12_isAsked 29 = .ok (.ldc2_w 308, 3) from by decide +kernel) rfl ?_
        refine sr_cSz (As := [.long v3.toInt64, .long (0 : Int64), .long (3 : Int64)]) (st := []) (q := 35) C ysX12_in ml_X12_103 (cnX12_in (xo κ) v3.toInt64 (0 : Int64) (3 : Int64)) rfl (by decide) (by decide) (Nat.le_of_ble_eq_true rfl) rfl (show decode cX12_isAsked 32 = .ok (.invokestatic 103, 3) from by decide +kernel) rfl (fun x32 => ?_)
        refine sr_if_eq (q := 38) C 42 (show decode cX12_isAsked 35 = .ok (.ifCond .eq 7, 3) from by decide +kernel) (by decide) rfl ?_ ?_
        · refine sr_iconst (v := (0 : Int32)) (q := 43) C (show decode cX12_isAsked 42 = .ok (.iconst 0, 1) from by decide +kernel) (by decide) rfl ?_
          exact sr_ireturn C false rfl (show decode cX12_isAsked 43 = .ok (.ireturn, 1) from by decide +kernel)
        · refine sr_iconst (v := (1 : Int32)) (q := 39) C (show decode cX12_isAsked 38 = .ok (.iconst 1, 1) from by decide +kernel) (by decide) rfl ?_
          refine sr_goto (q := 43) C (show decode cX12_isAsked 39 = .ok (.goto 4, 3) from by decide +kernel) (by decide) ?_
          exact sr_ireturn C true rfl (show decode cX12_isAsked 43 = .ok (.ireturn, 1) from by decide +kernel)
theorem cnX12_isAsked (ω : sm_O) (v0 : Nat) (v1 : Int32) (v2 : Int32) (v3 : Int32) (hv0 : kd v0 = 12) : sm_Mt 3 yX12_isAsked cX12_isAsked 4 (some .boolean) ω [.ref (ω.1 + v0), .int v1, .int v2, .int v3] (fun a => some (.int (bI a))) (fnX12_isAsked v0 v1 v2 v3) := by
  refine sm_conI (r := bI) (by decide) bI_nar (Nat.le_of_ble_eq_true rfl) ?_
  intro κ hκ C
  subst hκ
  exact slX12_isAsked C v0 v1 v2 v3 hv0
def fnX12_thinks_J36 (v0 : Nat) : sm_M Unit := m_gi v0 21 fun x38 => m_si v0 21 (x38 + (1 : Int32)) <| m_ret ()
set_option maxHeartbeats 4000000 in
set_option maxRecDepth 100000 in
theorem slX12_thinks_J36 {κ : sm_X} (C : sm_C κ RX12 cX12_thinks 2 1) (v0 : Nat) (hv0 : kd v0 = 12) : sm_S κ (fun _ : Unit => .inr none) (.inl (36, [some (xad κ v0), none], [])) (fnX12_thinks_J36 v0) := by
  unfold fnX12_thinks_J36
  refine sr_aload_n (i := 0) (q := 37) C (show decode cX12_thinks 36 = .ok (.aload_n 0, 1) from by decide +kernel) rfl rfl rfl ?_
  refine sr_dup (q := 38) C (show decode cX12_thinks 37 = .ok (.dup, 1) from by decide +kernel) rfl rfl ?_
  refine sr_geti (q := 41) C fl_X12_329 (Or.inl rfl) hv0 (show decode cX12_thinks 38 = .ok (.getfield 329, 3) from by decide +kernel) rfl (fun x38 => ?_)
  refine sr_iconst (v := (1 : Int32)) (q := 42) C (show decode cX12_thinks 41 = .ok (.iconst 1, 1) from by decide +kernel) (by decide) rfl ?_
  refine sr_iadd (q := 43) C (show decode cX12_thinks 42 = .ok (.iadd, 1) from by decide +kernel) rfl ?_
  refine sr_puti (q := 46) C fp_X12_329 hv0 (show decode cX12_thinks 43 = .ok (.putfield 329, 3) from by decide +kernel) rfl ?_
  exact sr_vreturn C _ rfl (show decode cX12_thinks 46 = .ok (.return_, 1) from by decide +kernel)
def fnX12_thinks_L2 : Nat → Nat → Int32 → sm_M Unit
  | 0, _, _ => m_fail
  | n + 1, v0, v1 => m_br ((241 : Int32) ≤ v1)
    (fnX12_thinks_J36 v0)
    (m_gi v0 21 fun x17 => m_ai (lk v0 1) v1 fun x28 => m_sai (lk v0 20) (((241 : Int32) * x17) + v1) x28 <| (fnX12_thinks_L2 n) v0 (v1 + (1 : Int32)))
set_option maxHeartbeats 4000000 in
set_option maxRecDepth 100000 in
theorem slX12_thinks_L2 {κ : sm_X} (C : sm_C κ RX12 cX12_thinks 2 1) : ∀ (n : Nat) (v0 : Nat) (v1 : Int32) (hv0 : kd v0 = 12), sm_S κ (fun _ : Unit => .inr none) (.inl (2, [some (xad κ v0), some (.int v1)], [])) (fnX12_thinks_L2 n v0 v1) := by
  intro n
  induction n with
  | zero =>
    intros
    exact sr_fail
  | succ n K2 =>
    intro v0 v1 hv0
    unfold fnX12_thinks_L2
    refine sr_iload_n (i := 1) (q := 3) C (show decode cX12_thinks 2 = .ok (.iload_n 1, 1) from by decide +kernel) rfl rfl rfl ?_
    refine sr_sipush (v := (241 : Int32)) (q := 6) C (show decode cX12_thinks 3 = .ok (.sipush 241, 3) from by decide +kernel) (by decide) rfl ?_
    refine sr_icmp_ge (q := 9) C 36 (show decode cX12_thinks 6 = .ok (.if_icmp .ge 30, 3) from by decide +kernel) (by decide) rfl ?_ ?_
    · refine sr_weak (L' := [some (xad κ v0), none]) ⟨rfl, trivial⟩ ?_
      exact slX12_thinks_J36 C v0 hv0
    · refine sr_aload_n (i := 0) (q := 10) C (show decode cX12_thinks 9 = .ok (.aload_n 0, 1) from by decide +kernel) rfl rfl rfl ?_
      refine sr_getr (q := 13) C fl_X12_46 hv0 (show decode cX12_thinks 10 = .ok (.getfield 46, 3) from by decide +kernel) rfl ?_
      refine sr_sipush (v := (241 : Int32)) (q := 16) C (show decode cX12_thinks 13 = .ok (.sipush 241, 3) from by decide +kernel) (by decide) rfl ?_
      refine sr_aload_n (i := 0) (q := 17) C (show decode cX12_thinks 16 = .ok (.aload_n 0, 1) from by decide +kernel) rfl rfl rfl ?_
      refine sr_geti (q := 20) C fl_X12_329 (Or.inl rfl) hv0 (show decode cX12_thinks 17 = .ok (.getfield 329, 3) from by decide +kernel) rfl (fun x17 => ?_)
      refine sr_imul (q := 21) C (show decode cX12_thinks 20 = .ok (.imul, 1) from by decide +kernel) rfl ?_
      refine sr_iload_n (i := 1) (q := 22) C (show decode cX12_thinks 21 = .ok (.iload_n 1, 1) from by decide +kernel) rfl rfl rfl ?_
      refine sr_iadd (q := 23) C (show decode cX12_thinks 22 = .ok (.iadd, 1) from by decide +kernel) rfl ?_
      refine sr_aload_n (i := 0) (q := 24) C (show decode cX12_thinks 23 = .ok (.aload_n 0, 1) from by decide +kernel) rfl rfl rfl ?_
      refine sr_getr (q := 27) C fl_X12_9 hv0 (show decode cX12_thinks 24 = .ok (.getfield 9, 3) from by decide +kernel) rfl ?_
      refine sr_iload_n (i := 1) (q := 28) C (show decode cX12_thinks 27 = .ok (.iload_n 1, 1) from by decide +kernel) rfl rfl rfl ?_
      refine sr_iaload (q := 29) C (kt hv0 kp_12_1) (show decode cX12_thinks 28 = .ok (.iaload, 1) from by decide +kernel) rfl (fun x28 => ?_)
      refine sr_iastore (q := 30) C (kt hv0 kp_12_20) (show decode cX12_thinks 29 = .ok (.iastore, 1) from by decide +kernel) rfl ?_
      refine sr_iinc (v := v1 + (1 : Int32)) (L' := [some (xad κ v0), some (.int (v1 + (1 : Int32)))]) (q := 33) C (show decode cX12_thinks 30 = .ok (.iinc 1 1, 3) from by decide +kernel) rfl rfl (by decide) rfl rfl ?_
      refine sr_goto (q := 2) C (show decode cX12_thinks 33 = .ok (.goto (-31), 3) from by decide +kernel) (by decide) ?_
      exact K2 v0 (v1 + (1 : Int32)) hv0
def fnX12_thinks (v0 : Nat) : sm_M Unit := fnX12_thinks_L2 4096 v0 (0 : Int32)
set_option maxHeartbeats 4000000 in
set_option maxRecDepth 100000 in
theorem slX12_thinks {κ : sm_X} (C : sm_C κ RX12 cX12_thinks 2 1) (v0 : Nat) (hv0 : kd v0 = 12) : sm_S κ (fun _ : Unit => .inr none) (.inl (0, [some (xad κ v0), none], [])) (fnX12_thinks v0) := by
  unfold fnX12_thinks
  refine sr_iconst (v := (0 : Int32)) (q := 1) C (show decode cX12_thinks 0 = .ok (.iconst 0, 1) from by decide +kernel) (by decide) rfl ?_
  refine sr_istore_n (i := 1) (L' := [some (xad κ v0), some (.int (0 : Int32))]) (q := 2) C (show decode cX12_thinks 1 = .ok (.istore_n 1, 1) from by decide +kernel) rfl (by decide) rfl rfl ?_
  exact slX12_thinks_L2 C 4096 v0 (0 : Int32) hv0
theorem cnX12_thinks (ω : sm_O) (v0 : Nat) (hv0 : kd v0 = 12) : sm_Mt 1 yX12_thinks cX12_thinks 2 none ω [.ref (ω.1 + v0)] (fun _ => none) (fnX12_thinks v0) := by
  refine sm_conV (by decide) (Nat.le_of_ble_eq_true rfl) ?_
  intro κ hκ C
  subst hκ
  exact slX12_thinks C v0 hv0
