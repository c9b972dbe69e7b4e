def fnX12_sureOf_J245 (k208 : Nat → Int32 → Int64 → Int32 → sm_M Int64) (v0 : Nat) (v1 : Int32) (v4 : Int64) (v6 : Int32) : sm_M Int64 := k208 v0 v1 v4 (v6 + (1 : Int32))
set_option maxHeartbeats 4000000 in
set_option maxRecDepth 100000 in
theorem slX12_sureOf_J245 {κ : sm_X} (C : sm_C κ RX12 cX12_sureOf 7 5) {k208 : Nat → Int32 → Int64 → Int32 → sm_M Int64} (K208 : ∀ (v0 : Nat) (v1 : Int32) (v4 : Int64) (v6 : Int32) (hv0 : kd v0 = 12), sm_S κ (fun r : Int64 => .inr (some (.long r))) (.inl (208, [some (xad κ v0), some (.int v1), none, none, some (.long v4), none, some (.int v6)], [])) (k208 v0 v1 v4 v6)) (v0 : Nat) (v1 : Int32) (v4 : Int64) (v6 : Int32) (hv0 : kd v0 = 12) : sm_S κ (fun r : Int64 => .inr (some (.long r))) (.inl (245, [some (xad κ v0), some (.int v1), none, none, some (.long v4), none, some (.int v6)], [])) (fnX12_sureOf_J245 k208 v0 v1 v4 v6) := by
  unfold fnX12_sureOf_J245
  refine sr_iinc (v := v6 + (1 : Int32)) (L' := [some (xad κ v0), some (.int v1), none, none, some (.long v4), none, some (.int (v6 + (1 : Int32)))]) (q := 248) C (show decode cX12_sureOf 245 = .ok (.iinc 6 1, 3) from by decide +kernel) rfl rfl (by decide) rfl rfl ?_
  refine sr_goto (q := 208) C (show decode cX12_sureOf 248 = .ok (.goto (-40), 3) from by decide +kernel) (by decide) ?_
  exact K208 v0 v1 v4 (v6 + (1 : Int32)) hv0
def fnX12_sureOf_L208 : Nat → Nat → Int32 → Int64 → Int32 → sm_M Int64
  | 0, _, _, _, _ => m_fail
  | n + 1, v0, v1, v4, v6 => m_ai (lk v0 1) (3 : Int32) fun x215 => m_br (x215 ≤ v6)
    (m_ret v4)
    (m_bnd (fnX12_isStep v0 v6 (99 : Int32) v1) fun x225 => m_br ((bI x225) = 0)
    (fnX12_sureOf_J245 (fnX12_sureOf_L208 n) v0 v1 v4 v6)
    (m_al (lk v0 41) v6 fun x239 => m_nm (jmaxl v4 x239) fun y243 => fnX12_sureOf_J245 (fnX12_sureOf_L208 n) v0 v1 y243 v6))
set_option maxHeartbeats 4000000 in
set_option maxRecDepth 100000 in
theorem slX12_sureOf_L208 {κ : sm_X} (C : sm_C κ RX12 cX12_sureOf 7 5) : ∀ (n : Nat) (v0 : Nat) (v1 : Int32) (v4 : Int64) (v6 : Int32) (hv0 : kd v0 = 12), sm_S κ (fun r : Int64 => .inr (some (.long r))) (.inl (208, [some (xad κ v0), some (.int v1), none, none, some (.long v4), none, some (.int v6)], [])) (fnX12_sureOf_L208 n v0 v1 v4 v6) := by
  intro n
  induction n with
  | zero =>
    intros
    exact sr_fail
  | succ n K208 =>
    intro v0 v1 v4 v6 hv0
    unfold fnX12_sureOf_L208
    refine sr_iload (i := 6) (q := 210) C (show decode cX12_sureOf 208 = .ok (.iload 6, 2) from by decide +kernel) rfl rfl ?_
    refine sr_aload_n (i := 0) (q := 211) C (show decode cX12_sureOf 210 = .ok (.aload_n 0, 1) from by decide +kernel) rfl rfl rfl ?_
    refine sr_getr (q := 214) C fl_X12_9 hv0 (show decode cX12_sureOf 211 = .ok (.getfield 9, 3) from by decide +kernel) rfl ?_
    refine sr_iconst (v := (3 : Int32)) (q := 215) C (show decode cX12_sureOf 214 = .ok (.iconst 3, 1) from by decide +kernel) (by decide) rfl ?_
    refine sr_iaload (q := 216) C (kt hv0 kp_12_1) (show decode cX12_sureOf 215 = .ok (.iaload, 1) from by decide +kernel) rfl (fun x215 => ?_)
    refine sr_icmp_ge (q := 219) C 251 (show decode cX12_sureOf 216 = .ok (.if_icmp .ge 35, 3) from by decide +kernel) (by decide) rfl ?_ ?_
    · refine sr_lload (i := 4) (q := 253) C (show decode cX12_sureOf 251 = .ok (.lload 4, 2) from by decide +kernel) rfl rfl ?_
      exact sr_lreturn C _ rfl (show decode cX12_sureOf 253 = .ok (.lreturn, 1) from by decide +kernel)
    · refine sr_aload_n (i := 0) (q := 220) C (show decode cX12_sureOf 219 = .ok (.aload_n 0, 1) from by decide +kernel) rfl rfl rfl ?_
      refine sr_iload (i := 6) (q := 222) C (show decode cX12_sureOf 220 = .ok (.iload 6, 2) from by decide +kernel) rfl rfl ?_
      refine sr_bipush (v := (99 : Int32)) (q := 224) C (show decode cX12_sureOf 222 = .ok (.bipush 99, 2) from by decide +kernel) (by decide) rfl ?_
      refine sr_iload_n (i := 1) (q := 225) C (show decode cX12_sureOf 224 = .ok (.iload_n 1, 1) from by decide +kernel) rfl rfl rfl ?_
      refine sr_cVz (As := [.int v6, .int (99 : Int32), .int v1]) (st := []) (b := v0) (q := 228) C yvX12_isStep ml_X12_270 (cnX12_isStep (xo κ) v0 v6 (99 : Int32) v1 hv0) hv0 (by decide) rfl rfl rfl (by decide) (by decide) (Nat.le_of_ble_eq_true rfl) rfl (show decode cX12_sureOf 225 = .ok (.invokevirtual 270, 3) from by decide +kernel) rfl (fun x225 => ?_)
      refine sr_if_eq (q := 231) C 245 (show decode cX12_sureOf 228 = .ok (.ifCond .eq 17, 3) from by decide +kernel) (by decide) rfl ?_ ?_
      · exact slX12_sureOf_J245 C K208 v0 v1 v4 v6 hv0
      · refine sr_lload (i := 4) (q := 233) C (show decode cX12_sureOf 231 = .ok (.lload 4, 2) from by decide +kernel) rfl rfl ?_
        refine sr_aload_n (i := 0) (q := 234) C (show decode cX12_sureOf 233 = .ok (.aload_n 0, 1) from by decide +kernel) rfl rfl rfl ?_
        refine sr_getr (q := 237) C fl_X12_82 hv0 (show decode cX12_sureOf 234 = .ok (.getfield 82, 3) from by decide +kernel) rfl ?_
        refine sr_iload (i := 6) (q := 239) C (show decode cX12_sureOf 237 = .ok (.iload 6, 2) from by decide +kernel) rfl rfl ?_
        refine sr_laload (q := 240) C (kt hv0 kp_12_41) (show decode cX12_sureOf 239 = .ok (.laload, 1) from by decide +kernel) rfl (fun x239 => ?_)
        refine sr_jmaxl (st := []) (q := 243) C ml_X12_487 (by decide) (Nat.le_of_ble_eq_true rfl) (show decode cX12_sureOf 240 = .ok (.invokestatic 487, 3) from by decide +kernel) rfl ?_
        refine sr_nml (fun y243 => ?_)
        refine sr_lstore (i := 4) (L' := [some (xad κ v0), some (.int v1), none, none, some (.long y243), none, some (.int v6)]) (q := 245) C (show decode cX12_sureOf 243 = .ok (.lstore 4, 2) from by decide +kernel) (by decide) rfl rfl ?_
        exact slX12_sureOf_J245 C K208 v0 v1 y243 v6 hv0
def fnX12_sureOf_J202 (v0 : Nat) (v1 : Int32) : sm_M Int64 := fnX12_sureOf_L208 4096 v0 v1 (0 : Int64) (0 : Int32)
set_option maxHeartbeats 4000000 in
set_option maxRecDepth 100000 in
theorem slX12_sureOf_J202 {κ : sm_X} (C : sm_C κ RX12 cX12_sureOf 7 5) (v0 : Nat) (v1 : Int32) (hv0 : kd v0 = 12) : sm_S κ (fun r : Int64 => .inr (some (.long r))) (.inl (202, [some (xad κ v0), some (.int v1), none, none, none, none, none], [])) (fnX12_sureOf_J202 v0 v1) := by
  unfold fnX12_sureOf_J202
  refine sr_lconst (v := (0 : Int64)) (q := 203) C (show decode cX12_sureOf 202 = .ok (.lconst 0, 1) from by decide +kernel) (by decide) rfl ?_
  refine sr_lstore (i := 4) (L' := [some (xad κ v0), some (.int v1), none, none, some (.long (0 : Int64)), none, none]) (q := 205) C (show decode cX12_sureOf 203 = .ok (.lstore 4, 2) from by decide +kernel) (by decide) rfl rfl ?_
  refine sr_iconst (v := (0 : Int32)) (q := 206) C (show decode cX12_sureOf 205 = .ok (.iconst 0, 1) from by decide +kernel) (by decide) rfl ?_
  refine sr_istore (i := 6) (L' := [some (xad κ v0), some (.int v1), none, none, some (.long (0 : Int64)), none, some (.int (0 : Int32))]) (q := 208) C (show decode cX12_sureOf 206 = .ok (.istore 6, 2) from by decide +kernel) (by decide) rfl rfl ?_
  exact slX12_sureOf_L208 C 4096 v0 v1 (0 : Int64) (0 : Int32) hv0
def fnX12_sureOf_J199 (k73 : Nat → Int32 → Int32 → Int32 → sm_M Int64) (v0 : Nat) (v1 : Int32) (v2 : Int32) (v3 : Int32) : sm_M Int64 := k73 v0 v1 v2 v3
set_option maxHeartbeats 4000000 in
set_option maxRecDepth 100000 in
theorem slX12_sureOf_J199 {κ : sm_X} (C : sm_C κ RX12 cX12_sureOf 7 5) {k73 : Nat → Int32 → Int32 → Int32 → sm_M Int64} (K73 : ∀ (v0 : Nat) (v1 : Int32) (v2 : Int32) (v3 : Int32) (hv0 : kd v0 = 12), sm_S κ (fun r : Int64 => .inr (some (.long r))) (.inl (73, [some (xad κ v0), some (.int v1), some (.int v2), some (.int v3), none, none, none], [])) (k73 v0 v1 v2 v3)) (v0 : Nat) (v1 : Int32) (v2 : Int32) (v3 : Int32) (hv0 : kd v0 = 12) : sm_S κ (fun r : Int64 => .inr (some (.long r))) (.inl (199, [some (xad κ v0), some (.int v1), some (.int v2), some (.int v3), none, none, none], [])) (fnX12_sureOf_J199 k73 v0 v1 v2 v3) := by
  unfold fnX12_sureOf_J199
  refine sr_goto (q := 73) C (show decode cX12_sureOf 199 = .ok (.goto (-126), 3) from by decide +kernel) (by decide) ?_
  exact K73 v0 v1 v2 v3 hv0
def fnX12_sureOf_J193 (k73 : Nat → Int32 → Int32 → Int32 → sm_M Int64) (k82 : Nat → Int32 → Int32 → Int32 → Int32 → sm_M Int64) (v0 : Nat) (v1 : Int32) (v2 : Int32) (v3 : Int32) (v4 : Int32) : sm_M Int64 := k82 v0 v1 v2 v3 (v4 + (1 : Int32))
set_option maxHeartbeats 4000000 in
set_option maxRecDepth 100000 in
theorem slX12_sureOf_J193 {κ : sm_X} (C : sm_C κ RX12 cX12_sureOf 7 5) {k73 : Nat → Int32 → Int32 → Int32 → sm_M Int64} (K73 : ∀ (v0 : Nat) (v1 : Int32) (v2 : Int32) (v3 : Int32) (hv0 : kd v0 = 12), sm_S κ (fun r : Int64 => .inr (some (.long r))) (.inl (73, [some (xad κ v0), some (.int v1), some (.int v2), some (.int v3), none, none, none], [])) (k73 v0 v1 v2 v3)) {k82 : Nat → Int32 → Int32 → Int32 → Int32 → sm_M Int64} (K82 : ∀ (v0 : Nat) (v1 : Int32) (v2 : Int32) (v3 : Int32) (v4 : Int32) (hv0 : kd v0 = 12), sm_S κ (fun r : Int64 => .inr (some (.long r))) (.inl (82, [some (xad κ v0), some (.int v1), some (.int v2), some (.int v3), some (.int v4), none, none], [])) (k82 v0 v1 v2 v3 v4)) (v0 : Nat) (v1 : Int32) (v2 : Int32) (v3 : Int32) (v4 : Int32) (hv0 : kd v0 = 12) : sm_S κ (fun r : Int64 => .inr (some (.long r))) (.inl (193, [some (xad κ v0), some (.int v1), some (.int v2), some (.int v3), some (.int v4), none, none], [])) (fnX12_sureOf_J193 k73 k82 v0 v1 v2 v3 v4) := by
  unfold fnX12_sureOf_J193
  refine sr_iinc (v := v4 + (1 : Int32)) (L' := [some (xad κ v0), some (.int v1), some (.int v2), some (.int v3), some (.int (v4 + (1 : Int32))), none, none]) (q := 196) C (show decode cX12_sureOf 193 = .ok (.iinc 4 1, 3) from by decide +kernel) rfl rfl (by decide) rfl rfl ?_
  refine sr_goto (q := 82) C (show decode cX12_sureOf 196 = .ok (.goto (-114), 3) from by decide +kernel) (by decide) ?_
  exact K82 v0 v1 v2 v3 (v4 + (1 : Int32)) hv0
def fnX12_sureOf_J187 (k73 : Nat → Int32 → Int32 → Int32 → sm_M Int64) (k82 : Nat → Int32 → Int32 → Int32 → Int32 → sm_M Int64) (k96 : Nat → Int32 → Int32 → Int32 → Int32 → Int32 → sm_M Int64) (v0 : Nat) (v1 : Int32) (v2 : Int32) (v3 : Int32) (v4 : Int32) (v5 : Int32) : sm_M Int64 := k96 v0 v1 v2 v3 v4 (v5 + (1 : Int32))
set_option maxHeartbeats 4000000 in
set_option maxRecDepth 100000 in
theorem slX12_sureOf_J187 {κ : sm_X} (C : sm_C κ RX12 cX12_sureOf 7 5) {k73 : Nat → Int32 → Int32 → Int32 → sm_M Int64} (K73 : ∀ (v0 : Nat) (v1 : Int32) (v2 : Int32) (v3 : Int32) (hv0 : kd v0 = 12), sm_S κ (fun r : Int64 => .inr (some (.long r))) (.inl (73, [some (xad κ v0), some (.int v1), some (.int v2), some (.int v3), none, none, none], [])) (k73 v0 v1 v2 v3)) {k82 : Nat → Int32 → Int32 → Int32 → Int32 → sm_M Int64} (K82 : ∀ (v0 : Nat) (v1 : Int32) (v2 : Int32) (v3 : Int32) (v4 : Int32) (hv0 : kd v0 = 12), sm_S κ (fun r : Int64 => .inr (some (.long r))) (.inl (82, [some (xad κ v0), some (.int v1), some (.int v2), some (.int v3), some (.int v4), none, none], [])) (k82 v0 v1 v2 v3 v4)) {k96 : Nat → Int32 → Int32 → Int32 → Int32 → Int32 → sm_M Int64} (K96 : ∀ (v0 : Nat) (v1 : Int32) (v2 : Int32) (v3 : Int32) (v4 : Int32) (v5 : Int32) (hv0 : kd v0 = 12), sm_S κ (fun r : Int64 => .inr (some (.long r))) (.inl (96, [some (xad κ v0), some (.int v1), some (.int v2), some (.int v3), some (.int v4), some (.int v5), none], [])) (k96 v0 v1 v2 v3 v4 v5)) (v0 : Nat) (v1 : Int32) (v2 : Int32) (v3 : Int32) (v4 : Int32) (v5 : Int32) (hv0 : kd v0 = 12) : sm_S κ (fun r : Int64 => .inr (some (.long r))) (.inl (187, [some (xad κ v0), some (.int v1), some (.int v2), some (.int v3), some (.int v4), some (.int v5), none], [])) (fnX12_sureOf_J187 k73 k82 k96 v0 v1 v2 v3 v4 v5) := by
  unfold fnX12_sureOf_J187
  refine sr_iinc (v := v5 + (1 : Int32)) (L' := [some (xad κ v0), some (.int v1), some (.int v2), some (.int v3), some (.int v4), some (.int (v5 + (1 : Int32))), none]) (q := 190) C (show decode cX12_sureOf 187 = .ok (.iinc 5 1, 3) from by decide +kernel) rfl rfl (by decide) rfl rfl ?_
  refine sr_goto (q := 96) C (show decode cX12_sureOf 190 = .ok (.goto (-94), 3) from by decide +kernel) (by decide) ?_
  exact K96 v0 v1 v2 v3 v4 (v5 + (1 : Int32)) hv0
def fnX12_sureOf_L96 (k73 : Nat → Int32 → Int32 → Int32 → sm_M Int64) (k82 : Nat → Int32 → Int32 → Int32 → Int32 → sm_M Int64) : Nat → Nat → Int32 → Int32 → Int32 → Int32 → Int32 → sm_M Int64
  | 0, _, _, _, _, _, _ => m_fail
  | n + 1, v0, v1, v2, v3, v4, v5 => m_ai (lk v0 1) (3 : Int32) fun x103 => m_br (x103 ≤ v5)
    (fnX12_sureOf_J193 k73 k82 v0 v1 v2 v3 v4)
    (m_bnd (fnX12_left v0 v4) fun x110 => m_br (x110 < v2)
    (fnX12_sureOf_J193 k73 k82 v0 v1 v2 v3 v4)
    (m_br (v5 = v4)
    (fnX12_sureOf_J187 k73 k82 (fnX12_sureOf_L96 k73 k82 n) v0 v1 v2 v3 v4 v5)
    (m_bnd (fnX12_isStep v0 v5 v4 v1) fun x130 => m_br ((bI x130) = 0)
    (fnX12_sureOf_J187 k73 k82 (fnX12_sureOf_L96 k73 k82 n) v0 v1 v2 v3 v4 v5)
    (m_al (lk v0 41) v5 fun x146 => m_bnd (fnX12_on v0 v4 v2 x146) fun x147 => m_al (lk v0 41) v4 fun x156 => m_br (0 < (lg_cmp x147 x156))
    (m_al (lk v0 41) v5 fun x180 => m_bnd (fnX12_on v0 v4 v2 x180) fun x181 => m_sal (lk v0 41) v4 x181 <| fnX12_sureOf_J187 k73 k82 (fnX12_sureOf_L96 k73 k82 n) v0 v1 v2 (1 : Int32) v4 v5)
    (fnX12_sureOf_J187 k73 k82 (fnX12_sureOf_L96 k73 k82 n) v0 v1 v2 v3 v4 v5)))))
set_option maxHeartbeats 4000000 in
set_option maxRecDepth 100000 in
theorem slX12_sureOf_L96 {κ : sm_X} (C : sm_C κ RX12 cX12_sureOf 7 5) {k73 : Nat → Int32 → Int32 → Int32 → sm_M Int64} (K73 : ∀ (v0 : Nat) (v1 : Int32) (v2 : Int32) (v3 : Int32) (hv0 : kd v0 = 12), sm_S κ (fun r : Int64 => .inr (some (.long r))) (.inl (73, [some (xad κ v0), some (.int v1), some (.int v2), some (.int v3), none, none, none], [])) (k73 v0 v1 v2 v3)) {k82 : Nat → Int32 → Int32 → Int32 → Int32 → sm_M Int64} (K82 : ∀ (v0 : Nat) (v1 : Int32) (v2 : Int32) (v3 : Int32) (v4 : Int32) (hv0 : kd v0 = 12), sm_S κ (fun r : Int64 => .inr (some (.long r))) (.inl (82, [some (xad κ v0), some (.int v1), some (.int v2), some (.int v3), some (.int v4), none, none], [])) (k82 v0 v1 v2 v3 v4)) : ∀ (n : Nat) (v0 : Nat) (v1 : Int32) (v2 : Int32) (v3 : Int32) (v4 : Int32) (v5 : Int32) (hv0 : kd v0 = 12), sm_S κ (fun r : Int64 => .inr (some (.long r))) (.inl (96, [some (xad κ v0), some (.int v1), some (.int v2), some (.int v3), some (.int v4), some (.int v5), none], [])) (fnX12_sureOf_L96 k73 k82 n v0 v1 v2 v3 v4 v5) := by
  intro n
  induction n with
  | zero =>
    intros
    exact sr_fail
  | succ n K96 =>
    intro v0 v1 v2 v3 v4 v5 hv0
    unfold fnX12_sureOf_L96
    refine sr_iload (i := 5) (q := 98) C (show decode cX12_sureOf 96 = .ok (.iload 5, 2) from by decide +kernel) rfl rfl ?_
    refine sr_aload_n (i := 0) (q := 99) C (show decode cX12_sureOf 98 = .ok (.aload_n 0, 1) from by decide +kernel) rfl rfl rfl ?_
    refine sr_getr (q := 102) C fl_X12_9 hv0 (show decode cX12_sureOf 99 = .ok (.getfield 9, 3) from by decide +kernel) rfl ?_
    refine sr_iconst (v := (3 : Int32)) (q := 103) C (show decode cX12_sureOf 102 = .ok (.iconst 3, 1) from by decide +kernel) (by decide) rfl ?_
    refine sr_iaload (q := 104) C (kt hv0 kp_12_1) (show decode cX12_sureOf 103 = .ok (.iaload, 1) from by decide +kernel) rfl (fun x103 => ?_)
    refine sr_icmp_ge (q := 107) C 193 (show decode cX12_sureOf 104 = .ok (.if_icmp .ge 89, 3) from by decide +kernel) (by decide) rfl ?_ ?_
    · refine sr_weak (L' := [some (xad κ v0), some (.int v1), some (.int v2), some (.int v3), some (.int v4), none, none]) ⟨rfl, rfl, rfl, rfl, rfl, trivial⟩ ?_
      exact slX12_sureOf_J193 C K73 K82 v0 v1 v2 v3 v4 hv0
    · refine sr_aload_n (i := 0) (q := 108) C (show decode cX12_sureOf 107 = .ok (.aload_n 0, 1) from by decide +kernel) rfl rfl rfl ?_
      refine sr_iload (i := 4) (q := 110) C (show decode cX12_sureOf 108 = .ok (.iload 4, 2) from by decide +kernel) rfl rfl ?_
      refine sr_cVi (As := [.int v4]) (st := []) (b := v0) (q := 113) C yvX12_left ml_X12_250 (cnX12_left (xo κ) v0 v4 hv0) hv0 (by decide) rfl rfl rfl (by decide) (by decide) (Nat.le_of_ble_eq_true rfl) rfl (show decode cX12_sureOf 110 = .ok (.invokevirtual 250, 3) from by decide +kernel) rfl (fun x110 => ?_)
      refine sr_iload_n (i := 2) (q := 114) C (show decode cX12_sureOf 113 = .ok (.iload_n 2, 1) from by decide +kernel) rfl rfl rfl ?_
      refine sr_icmp_lt (q := 117) C 193 (show decode cX12_sureOf 114 = .ok (.if_icmp .lt 79, 3) from by decide +kernel) (by decide) rfl ?_ ?_
      · refine sr_weak (L' := [some (xad κ v0), some (.int v1), some (.int v2), some (.int v3), some (.int v4), none, none]) ⟨rfl, rfl, rfl, rfl, rfl, trivial⟩ ?_
        exact slX12_sureOf_J193 C K73 K82 v0 v1 v2 v3 v4 hv0
      · refine sr_iload (i := 5) (q := 119) C (show decode cX12_sureOf 117 = .ok (.iload 5, 2) from by decide +kernel) rfl rfl ?_
        refine sr_iload (i := 4) (q := 121) C (show decode cX12_sureOf 119 = .ok (.iload 4, 2) from by decide +kernel) rfl rfl ?_
        refine sr_icmp_eq (q := 124) C 187 (show decode cX12_sureOf 121 = .ok (.if_icmp .eq 66, 3) from by decide +kernel) (by decide) rfl ?_ ?_
        · exact slX12_sureOf_J187 C K73 K82 K96 v0 v1 v2 v3 v4 v5 hv0
        · refine sr_aload_n (i := 0) (q := 125) C (show decode cX12_sureOf 124 = .ok (.aload_n 0, 1) from by decide +kernel) rfl rfl rfl ?_
          refine sr_iload (i := 5) (q := 127) C (show decode cX12_sureOf 125 = .ok (.iload 5, 2) from by decide +kernel) rfl rfl ?_
          refine sr_iload (i := 4) (q := 129) C (show decode cX12_sureOf 127 = .ok (.iload 4, 2) from by decide +kernel) rfl rfl ?_
          refine sr_iload_n (i := 1) (q := 130) C (show decode cX12_sureOf 129 = .ok (.iload_n 1, 1) from by decide +kernel) rfl rfl rfl ?_
          refine sr_cVz (As := [.int v5, .int v4, .int v1]) (st := []) (b := v0) (q := 133) C yvX12_isStep ml_X12_270 (cnX12_isStep (xo κ) v0 v5 v4 v1 hv0) hv0 (by decide) rfl rfl rfl (by decide) (by decide) (Nat.le_of_ble_eq_true rfl) rfl (show decode cX12_sureOf 130 = .ok (.invokevirtual 270, 3) from by decide +kernel) rfl (fun x130 => ?_)
          refine sr_if_eq (q := 136) C 187 (show decode cX12_sureOf 133 = .ok (.ifCond .eq 54, 3) from by decide +kernel) (by decide) rfl ?_ ?_
          · exact slX12_sureOf_J187 C K73 K82 K96 v0 v1 v2 v3 v4 v5 hv0
          · refine sr_aload_n (i := 0) (q := 137) C (show decode cX12_sureOf 136 = .ok (.aload_n 0, 1) from by decide +kernel) rfl rfl rfl ?_
            refine sr_iload (i := 4) (q := 139) C (show decode cX12_sureOf 137 = .ok (.iload 4, 2) from by decide +kernel) rfl rfl ?_
            refine sr_iload_n (i := 2) (q := 140) C (show decode cX12_sureOf 139 = .ok (.iload_n 2, 1) from by decide +kernel) rfl rfl rfl ?_
            refine sr_aload_n (i := 0) (q := 141) C (show decode cX12_sureOf 140 = .ok (.aload_n 0, 1) from by decide +kernel) rfl rfl rfl ?_
            refine sr_getr (q := 144) C fl_X12_82 hv0 (show decode cX12_sureOf 141 = .ok (.getfield 82, 3) from by decide +kernel) rfl ?_
            refine sr_iload (i := 5) (q := 146) C (show decode cX12_sureOf 144 = .ok (.iload 5, 2) from by decide +kernel) rfl rfl ?_
            refine sr_laload (q := 147) C (kt hv0 kp_12_41) (show decode cX12_sureOf 146 = .ok (.laload, 1) from by decide +kernel) rfl (fun x146 => ?_)
            refine sr_cVl (As := [.int v4, .int v2, .long x146]) (st := []) (b := v0) (q := 150) C yvX12_on ml_X12_483 (cnX12_on (xo κ) v0 v4 v2 x146 hv0) hv0 (by decide) rfl rfl rfl (by decide) (by decide) (Nat.le_of_ble_eq_true rfl) rfl (show decode cX12_sureOf 147 = .ok (.invokevirtual 483, 3) from by decide +kernel) rfl (fun x147 => ?_)
            refine sr_aload_n (i := 0) (q := 151) C (show decode cX12_sureOf 150 = .ok (.aload_n 0, 1) from by decide +kernel) rfl rfl rfl ?_
            refine sr_getr (q := 154) C fl_X12_82 hv0 (show decode cX12_sureOf 151 = .ok (.getfield 82, 3) from by decide +kernel) rfl ?_
            refine sr_iload (i := 4) (q := 156) C (show decode cX12_sureOf 154 = .ok (.iload 4, 2) from by decide +kernel) rfl rfl ?_
            refine sr_laload (q := 157) C (kt hv0 kp_12_41) (show decode cX12_sureOf 156 = .ok (.laload, 1) from by decide +kernel) rfl (fun x156 => ?_)
            refine sr_lcmp (q := 158) C (show decode cX12_sureOf 157 = .ok (.lcmp, 1) from by decide +kernel) rfl ?_
            refine sr_if_gt (q := 161) C 164 (show decode cX12_sureOf 158 = .ok (.ifCond .gt 6, 3) from by decide +kernel) (by decide) rfl ?_ ?_
            · refine sr_aload_n (i := 0) (q := 165) C (show decode cX12_sureOf 164 = .ok (.aload_n 0, 1) from by decide +kernel) rfl rfl rfl ?_
              refine sr_getr (q := 168) C fl_X12_82 hv0 (show decode cX12_sureOf 165 = .ok (.getfield 82, 3) from by decide +kernel) rfl ?_
              refine sr_iload (i := 4) (q := 170) C (show decode cX12_sureOf 168 = .ok (.iload 4, 2) from by decide +kernel) rfl rfl ?_
              refine sr_aload_n (i := 0) (q := 171) C (show decode cX12_sureOf 170 = .ok (.aload_n 0, 1) from by decide +kernel) rfl rfl rfl ?_
              refine sr_iload (i := 4) (q := 173) C (show decode cX12_sureOf 171 = .ok (.iload 4, 2) from by decide +kernel) rfl rfl ?_
              refine sr_iload_n (i := 2) (q := 174) C (show decode cX12_sureOf 173 = .ok (.iload_n 2, 1) from by decide +kernel) rfl rfl rfl ?_
              refine sr_aload_n (i := 0) (q := 175) C (show decode cX12_sureOf 174 = .ok (.aload_n 0, 1) from by decide +kernel) rfl rfl rfl ?_
              refine sr_getr (q := 178) C fl_X12_82 hv0 (show decode cX12_sureOf 175 = .ok (.getfield 82, 3) from by decide +kernel) rfl ?_
              refine sr_iload (i := 5) (q := 180) C (show decode cX12_sureOf 178 = .ok (.iload 5, 2) from by decide +kernel) rfl rfl ?_
              refine sr_laload (q := 181) C (kt hv0 kp_12_41) (show decode cX12_sureOf 180 = .ok (.laload, 1) from by decide +kernel) rfl (fun x180 => ?_)
              refine sr_cVl (As := [.int v4, .int v2, .long x180]) (st := [.int v4, xad κ (lk v0 41)]) (b := v0) (q := 184) C yvX12_on ml_X12_483 (cnX12_on (xo κ) v0 v4 v2 x180 hv0) hv0 (by decide) rfl rfl rfl (by decide) (by decide) (Nat.le_of_ble_eq_true rfl) rfl (show decode cX12_sureOf 181 = .ok (.invokevirtual 483, 3) from by decide +kernel) rfl (fun x181 => ?_)
              refine sr_lastore (q := 185) C (kt hv0 kp_12_41) (show decode cX12_sureOf 184 = .ok (.lastore, 1) from by decide +kernel) rfl ?_
              refine sr_iconst (v := (1 : Int32)) (q := 186) C (show decode cX12_sureOf 185 = .ok (.iconst 1, 1) from by decide +kernel) (by decide) rfl ?_
              refine sr_istore_n (i := 3) (L' := [some (xad κ v0), some (.int v1), some (.int v2), some (.int (1 : Int32)), some (.int v4), some (.int v5), none]) (q := 187) C (show decode cX12_sureOf 186 = .ok (.istore_n 3, 1) from by decide +kernel) rfl (by decide) rfl rfl ?_
              exact slX12_sureOf_J187 C K73 K82 K96 v0 v1 v2 (1 : Int32) v4 v5 hv0
            · refine sr_goto (q := 187) C (show decode cX12_sureOf 161 = .ok (.goto 26, 3) from by decide +kernel) (by decide) ?_
              exact slX12_sureOf_J187 C K73 K82 K96 v0 v1 v2 v3 v4 v5 hv0
def fnX12_sureOf_L82 (k73 : Nat → Int32 → Int32 → Int32 → sm_M Int64) : Nat → Nat → Int32 → Int32 → Int32 → Int32 → sm_M Int64
  | 0, _, _, _, _, _ => m_fail
  | n + 1, v0, v1, v2, v3, v4 => m_ai (lk v0 1) (3 : Int32) fun x89 => m_br (x89 ≤ v4)
    (fnX12_sureOf_J199 k73 v0 v1 v2 v3)
    (fnX12_sureOf_L96 k73 (fnX12_sureOf_L82 k73 n) 4096 v0 v1 v2 v3 v4 (0 : Int32))
set_option maxHeartbeats 4000000 in
set_option maxRecDepth 100000 in
theorem slX12_sureOf_L82 {κ : sm_X} (C : sm_C κ RX12 cX12_sureOf 7 5) {k73 : Nat → Int32 → Int32 → Int32 → sm_M Int64} (K73 : ∀ (v0 : Nat) (v1 : Int32) (v2 : Int32) (v3 : Int32) (hv0 : kd v0 = 12), sm_S κ (fun r : Int64 => .inr (some (.long r))) (.inl (73, [some (xad κ v0), some (.int v1), some (.int v2), some (.int v3), none, none, none], [])) (k73 v0 v1 v2 v3)) : ∀ (n : Nat) (v0 : Nat) (v1 : Int32) (v2 : Int32) (v3 : Int32) (v4 : Int32) (hv0 : kd v0 = 12), sm_S κ (fun r : Int64 => .inr (some (.long r))) (.inl (82, [some (xad κ v0), some (.int v1), some (.int v2), some (.int v3), some (.int v4), none, none], [])) (fnX12_sureOf_L82 k73 n v0 v1 v2 v3 v4) := by
  intro n
  induction n with
  | zero =>
    intros
    exact sr_fail
  | succ n K82 =>
    intro v0 v1 v2 v3 v4 hv0
    unfold fnX12_sureOf_L82
    refine sr_iload (i := 4) (q := 84) C (show decode cX12_sureOf 82 = .ok (.iload 4, 2) from by decide +kernel) rfl rfl ?_
    refine sr_aload_n (i := 0) (q := 85) C (show decode cX12_sureOf 84 = .ok (.aload_n 0, 1) from by decide +kernel) rfl rfl rfl ?_
    refine sr_getr (q := 88) C fl_X12_9 hv0 (show decode cX12_sureOf 85 = .ok (.getfield 9, 3) from by decide +kernel) rfl ?_
    refine sr_iconst (v := (3 : Int32)) (q := 89) C (show decode cX12_sureOf 88 = .ok (.iconst 3, 1) from by decide +kernel) (by decide) rfl ?_
    refine sr_iaload (q := 90) C (kt hv0 kp_12_1) (show decode cX12_sureOf 89 = .ok (.iaload, 1) from by decide +kernel) rfl (fun x89 => ?_)
    refine sr_icmp_ge (q := 93) C 199 (show decode cX12_sureOf 90 = .ok (.if_icmp .ge 109, 3) from by decide +kernel) (by decide) rfl ?_ ?_
    · refine sr_weak (L' := [some (xad κ v0), some (.int v1), some (.int v2), some (.int v3), none, none, none]) ⟨rfl, rfl, rfl, rfl, trivial⟩ ?_
      exact slX12_sureOf_J199 C K73 v0 v1 v2 v3 hv0
    · refine sr_iconst (v := (0 : Int32)) (q := 94) C (show decode cX12_sureOf 93 = .ok (.iconst 0, 1) from by decide +kernel) (by decide) rfl ?_
      refine sr_istore (i := 5) (L' := [some (xad κ v0), some (.int v1), some (.int v2), some (.int v3), some (.int v4), some (.int (0 : Int32)), none]) (q := 96) C (show decode cX12_sureOf 94 = .ok (.istore 5, 2) from by decide +kernel) (by decide) rfl rfl ?_
      exact slX12_sureOf_L96 C K73 K82 4096 v0 v1 v2 v3 v4 (0 : Int32) hv0
def fnX12_sureOf_L73 : Nat → Nat → Int32 → Int32 → Int32 → sm_M Int64
  | 0, _, _, _, _ => m_fail
  | n + 1, v0, v1, v2, v3 => m_br (v3 = 0)
    (fnX12_sureOf_J202 v0 v1)
    (fnX12_sureOf_L82 (fnX12_sureOf_L73 n) 4096 v0 v1 v2 (0 : Int32) (0 : Int32))
set_option maxHeartbeats 4000000 in
set_option maxRecDepth 100000 in
theorem slX12_sureOf_L73 {κ : sm_X} (C : sm_C κ RX12 cX12_sureOf 7 5) : ∀ (n : Nat) (v0 : Nat) (v1 : Int32) (v2 : Int32) (v3 : Int32) (hv0 : kd v0 = 12), sm_S κ (fun r : Int64 => .inr (some (.long r))) (.inl (73, [some (xad κ v0), some (.int v1), some (.int v2), some (.int v3), none, none, none], [])) (fnX12_sureOf_L73 n v0 v1 v2 v3) := by
  intro n
  induction n with
  | zero =>
    intros
    exact sr_fail
  | succ n K73 =>
    intro v0 v1 v2 v3 hv0
    unfold fnX12_sureOf_L73
    refine sr_iload_n (i := 3) (q := 74) C (show decode cX12_sureOf 73 = .ok (.iload_n 3, 1) from by decide +kernel) rfl rfl rfl ?_
    refine sr_if_eq (q := 77) C 202 (show decode cX12_sureOf 74 = .ok (.ifCond .eq 128, 3) from by decide +kernel) (by decide) rfl ?_ ?_
    · refine sr_weak (L' := [some (xad κ v0), some (.int v1), none, none, none, none, none]) ⟨rfl, rfl, trivial⟩ ?_
      exact slX12_sureOf_J202 C v0 v1 hv0
    · refine sr_iconst (v := (0 : Int32)) (q := 78) C (show decode cX12_sureOf 77 = .ok (.iconst 0, 1) from by decide +kernel) (by decide) rfl ?_
      refine sr_istore_n (i := 3) (L' := [some (xad κ v0), some (.int v1), some (.int v2), some (.int (0 : Int32)), none, none, none]) (q := 79) C (show decode cX12_sureOf 78 = .ok (.istore_n 3, 1) from by decide +kernel) rfl (by decide) rfl rfl ?_
      refine sr_iconst (v := (0 : Int32)) (q := 80) C (show decode cX12_sureOf 79 = .ok (.iconst 0, 1) from by decide +kernel) (by decide) rfl ?_
      refine sr_istore (i := 4) (L' := [some (xad κ v0), some (.int v1), some (.int v2), some (.int (0 : Int32)), some (.int (0 : Int32)), none, none]) (q := 82) C (show decode cX12_sureOf 80 = .ok (.istore 4, 2) from by decide +kernel) (by decide) rfl rfl ?_
      exact slX12_sureOf_L82 C K73 4096 v0 v1 v2 (0 : Int32) (0 : Int32) hv0
def fnX12_sureOf_J71 (v0 : Nat) (v1 : Int32) (v2 : Int32) : sm_M Int64 := fnX12_sureOf_L73 4096 v0 v1 v2 (1 : Int32)
set_option maxHeartbeats 4000000 in
set_option maxRecDepth 100000 in
theorem slX12_sureOf_J71 {κ : sm_X} (C : sm_C κ RX12 cX12_sureOf 7 5) (v0 : Nat) (v1 : Int32) (v2 : Int32) (hv0 : kd v0 = 12) : sm_S κ (fun r : Int64 => .inr (some (.long r))) (.inl (71, [some (xad κ v0), some (.int v1), some (.int v2), none, none, none, none], [])) (fnX12_sureOf_J71 v0 v1 v2) := by
  unfold fnX12_sureOf_J71
  refine sr_iconst (v := (1 : Int32)) (q := 72) C (show decode cX12_sureOf 71 = .ok (.iconst 1, 1) from by decide +kernel) (by decide) rfl ?_
  refine sr_istore_n (i := 3) (L' := [some (xad κ v0), some (.int v1), some (.int v2), some (.int (1 : Int32)), none, none, none]) (q := 73) C (show decode cX12_sureOf 72 = .ok (.istore_n 3, 1) from by decide +kernel) rfl (by decide) rfl rfl ?_
  exact slX12_sureOf_L73 C 4096 v0 v1 v2 (1 : Int32) hv0
def fnX12_sureOf_J64 (k16 : Nat → Int32 → Int32 → Int32 → sm_M Int64) (v0 : Nat) (v1 : Int32) (v2 : Int32) (v3 : Int32) (s0 : Int64) (s1 : Int32) (s2 : Nat) : sm_M Int64 := m_sal s2 s1 s0 <| k16 v0 v1 v2 (v3 + (1 : Int32))
set_option maxHeartbeats 4000000 in
set_option maxRecDepth 100000 in
theorem slX12_sureOf_J64 {κ : sm_X} (C : sm_C κ RX12 cX12_sureOf 7 5) {k16 : Nat → Int32 → Int32 → Int32 → sm_M Int64} (K16 : ∀ (v0 : Nat) (v1 : Int32) (v2 : Int32) (v3 : Int32) (hv0 : kd v0 = 12), sm_S κ (fun r : Int64 => .inr (some (.long r))) (.inl (16, [some (xad κ v0), some (.int v1), some (.int v2), some (.int v3), none, none, none], [])) (k16 v0 v1 v2 v3)) (v0 : Nat) (v1 : Int32) (v2 : Int32) (v3 : Int32) (s0 : Int64) (s1 : Int32) (s2 : Nat) (hv0 : kd v0 = 12) (hs2 : kd s2 = 23) : sm_S κ (fun r : Int64 => .inr (some (.long r))) (.inl (64, [some (xad κ v0), some (.int v1), some (.int v2), some (.int v3), none, none, none], [.long s0, .int s1, xad κ s2])) (fnX12_sureOf_J64 k16 v0 v1 v2 v3 s0 s1 s2) := by
  unfold fnX12_sureOf_J64
  refine sr_lastore (q := 65) C hs2 (show decode cX12_sureOf 64 = .ok (.lastore, 1) from by decide +kernel) rfl ?_
  refine sr_iinc (v := v3 + (1 : Int32)) (L' := [some (xad κ v0), some (.int v1), some (.int v2), some (.int (v3 + (1 : Int32))), none, none, none]) (q := 68) C (show decode cX12_sureOf 65 = .ok (.iinc 3 1, 3) from by decide +kernel) rfl rfl (by decide) rfl rfl ?_
  refine sr_goto (q := 16) C (show decode cX12_sureOf 68 = .ok (.goto (-52), 3) from by decide +kernel) (by decide) ?_
  exact K16 v0 v1 v2 (v3 + (1 : Int32)) hv0
def fnX12_sureOf_J63 (k16 : Nat → Int32 → Int32 → Int32 → sm_M Int64) (v0 : Nat) (v1 : Int32) (v2 : Int32) (v3 : Int32) (s0 : Int32) (s1 : Nat) : sm_M Int64 := fnX12_sureOf_J64 k16 v0 v1 v2 v3 (0 : Int64) s0 s1
set_option maxHeartbeats 4000000 in
set_option maxRecDepth 100000 in
theorem slX12_sureOf_J63 {κ : sm_X} (C : sm_C κ RX12 cX12_sureOf 7 5) {k16 : Nat → Int32 → Int32 → Int32 → sm_M Int64} (K16 : ∀ (v0 : Nat) (v1 : Int32) (v2 : Int32) (v3 : Int32) (hv0 : kd v0 = 12), sm_S κ (fun r : Int64 => .inr (some (.long r))) (.inl (16, [some (xad κ v0), some (.int v1), some (.int v2), some (.int v3), none, none, none], [])) (k16 v0 v1 v2 v3)) (v0 : Nat) (v1 : Int32) (v2 : Int32) (v3 : Int32) (s0 : Int32) (s1 : Nat) (hv0 : kd v0 = 12) (hs1 : kd s1 = 23) : sm_S κ (fun r : Int64 => .inr (some (.long r))) (.inl (63, [some (xad κ v0), some (.int v1), some (.int v2), some (.int v3), none, none, none], [.int s0, xad κ s1])) (fnX12_sureOf_J63 k16 v0 v1 v2 v3 s0 s1) := by
  unfold fnX12_sureOf_J63
  refine sr_lconst (v := (0 : Int64)) (q := 64) C (show decode cX12_sureOf 63 = .ok (.lconst 0, 1) from by decide +kernel) (by decide) rfl ?_
  exact slX12_sureOf_J64 C K16 v0 v1 v2 v3 (0 : Int64) s0 s1 hv0 hs1
def fnX12_sureOf_L16 : Nat → Nat → Int32 → Int32 → Int32 → sm_M Int64
  | 0, _, _, _, _ => m_fail
  | n + 1, v0, v1, v2, v3 => m_ai (lk v0 1) (3 : Int32) fun x22 => m_br (x22 ≤ v3)
    (fnX12_sureOf_J71 v0 v1 v2)
    (m_bnd (fnX12_left v0 v3) fun x33 => m_br (x33 < v2)
    (fnX12_sureOf_J63 (fnX12_sureOf_L16 n) v0 v1 v2 v3 v3 (lk v0 41))
    (m_bnd (fnX12_isStep v0 (98 : Int32) v3 v1) fun x45 => m_br ((bI x45) = 0)
    (fnX12_sureOf_J63 (fnX12_sureOf_L16 n) v0 v1 v2 v3 v3 (lk v0 41))
    (m_bnd (fnX12_on v0 v3 v2 (1000000000 : Int64)) fun x57 => fnX12_sureOf_J64 (fnX12_sureOf_L16 n) v0 v1 v2 v3 x57 v3 (lk v0 41))))
set_option maxHeartbeats 4000000 in
set_option maxRecDepth 100000 in
theorem slX12_sureOf_L16 {κ : sm_X} (C : sm_C κ RX12 cX12_sureOf 7 5) : ∀ (n : Nat) (v0 : Nat) (v1 : Int32) (v2 : Int32) (v3 : Int32) (hv0 : kd v0 = 12), sm_S κ (fun r : Int64 => .inr (some (.long r))) (.inl (16, [some (xad κ v0), some (.int v1), some (.int v2), some (.int v3), none, none, none], [])) (fnX12_sureOf_L16 n v0 v1 v2 v3) := by
  intro n
  induction n with
  | zero =>
    intros
    exact sr_fail
  | succ n K16 =>
    intro v0 v1 v2 v3 hv0
    unfold fnX12_sureOf_L16
    refine sr_iload_n (i := 3) (q := 17) C (show decode cX12_sureOf 16 = .ok (.iload_n 3, 1) from by decide +kernel) rfl rfl rfl ?_
    refine sr_aload_n (i := 0) (q := 18) C (show decode cX12_sureOf 17 = .ok (.aload_n 0, 1) from by decide +kernel) rfl rfl rfl ?_
    refine sr_getr (q := 21) C fl_X12_9 hv0 (show decode cX12_sureOf 18 = .ok (.getfield 9, 3) from by decide +kernel) rfl ?_
    refine sr_iconst (v := (3 : Int32)) (q := 22) C (show decode cX12_sureOf 21 = .ok (.iconst 3, 1) from by decide +kernel) (by decide) rfl ?_
    refine sr_iaload (q := 23) C (kt hv0 kp_12_1) (show decode cX12_sureOf 22 = .ok (.iaload, 1) from by decide +kernel) rfl (fun x22 => ?_)
    refine sr_icmp_ge (q := 26) C 71 (show decode cX12_sureOf 23 = .ok (.if_icmp .ge 48, 3) from by decide +kernel) (by decide) rfl ?_ ?_
    · refine sr_weak (L' := [some (xad κ v0), some (.int v1), some (.int v2), none, none, none, none]) ⟨rfl, rfl, rfl, trivial⟩ ?_
      exact slX12_sureOf_J71 C v0 v1 v2 hv0
    · refine sr_aload_n (i := 0) (q := 27) C (show decode cX12_sureOf 26 = .ok (.aload_n 0, 1) from by decide +kernel) rfl rfl rfl ?_
      refine sr_getr (q := 30) C fl_X12_82 hv0 (show decode cX12_sureOf 27 = .ok (.getfield 82, 3) from by decide +kernel) rfl ?_
      refine sr_iload_n (i := 3) (q := 31) C (show decode cX12_sureOf 30 = .ok (.iload_n 3, 1) from by decide +kernel) rfl rfl rfl ?_
      refine sr_aload_n (i := 0) (q := 32) C (show decode cX12_sureOf 31 = .ok (.aload_n 0, 1) from by decide +kernel) rfl rfl rfl ?_
      refine sr_iload_n (i := 3) (q := 33) C (show decode cX12_sureOf 32 = .ok (.iload_n 3, 1) from by decide +kernel) rfl rfl rfl ?_
      refine sr_cVi (As := [.int v3]) (st := [.int v3, xad κ (lk v0 41)]) (b := v0) (q := 36) C yvX12_left ml_X12_250 (cnX12_left (xo κ) v0 v3 hv0) hv0 (by decide) rfl rfl rfl (by decide) (by decide) (Nat.le_of_ble_eq_true rfl) rfl (show decode cX12_sureOf 33 = .ok (.invokevirtual 250, 3) from by decide +kernel) rfl (fun x33 => ?_)
      refine sr_iload_n (i := 2) (q := 37) C (show decode cX12_sureOf 36 = .ok (.iload_n 2, 1) from by decide +kernel) rfl rfl rfl ?_
      refine sr_icmp_lt (q := 40) C 63 (show decode cX12_sureOf 37 = .ok (.if_icmp .lt 26, 3) from by decide +kernel) (by decide) rfl ?_ ?_
      · exact slX12_sureOf_J63 C K16 v0 v1 v2 v3 v3 (lk v0 41) hv0 (kt hv0 kp_12_41)
      · refine sr_aload_n (i := 0) (q := 41) C (show decode cX12_sureOf 40 = .ok (.aload_n 0, 1) from by decide +kernel) rfl rfl rfl ?_
        refine sr_bipush (v := (98 : Int32)) (q := 43) C (show decode cX12_sureOf 41 = .ok (.bipush 98, 2) from by decide +kernel) (by decide) rfl ?_
        refine sr_iload_n (i := 3) (q := 44) C (show decode cX12_sureOf 43 = .ok (.iload_n 3, 1) from by decide +kernel) rfl rfl rfl ?_
        refine sr_iload_n (i := 1) (q := 45) C (show decode cX12_sureOf 44 = .ok (.iload_n 1, 1) from by decide +kernel) rfl rfl rfl ?_
        refine sr_cVz (As := [.int (98 : Int32), .int v3, .int v1]) (st := [.int v3, xad κ (lk v0 41)]) (b := v0) (q := 48) C yvX12_isStep ml_X12_270 (cnX12_isStep (xo κ) v0 (98 : Int32) v3 v1 hv0) hv0 (by decide) rfl rfl rfl (by decide) (by decide) (Nat.le_of_ble_eq_true rfl) rfl (show decode cX12_sureOf 45 = .ok (.invokevirtual 270, 3) from by decide +kernel) rfl (fun x45 => ?_)
        refine sr_if_eq (q := 51) C 63 (show decode cX12_sureOf 48 = .ok (.ifCond .eq 15, 3) from by decide +kernel) (by decide) rfl ?_ ?_
        · exact slX12_sureOf_J63 C K16 v0 v1 v2 v3 v3 (lk v0 41) hv0 (kt hv0 kp_12_41)
        · refine sr_aload_n (i := 0) (q := 52) C (show decode cX12_sureOf 51 = .ok (.aload_n 0, 1) from by decide +kernel) rfl rfl rfl ?_
          refine sr_iload_n (i := 3) (q := 53) C (show decode cX12_sureOf 52 = .ok (.iload_n 3, 1) from by decide +kernel) rfl rfl rfl ?_
          refine sr_iload_n (i := 2) (q := 54) C (show decode cX12_sureOf 53 = .ok (.iload_n 2, 1) from by decide +kernel) rfl rfl rfl ?_
          refine sr_ldc2 (q := 57) C co_X12_481 (show decode cX12_sureOf 54 = .ok (.ldc2_w 481, 3) from by decide +kernel) rfl ?_
          refine sr_cVl (As := [.int v3, .int v2, .long (1000000000 : Int64)]) (st := [.int v3, xad κ (lk v0 41)]) (b := v0) (q := 60) C yvX12_on ml_X12_483 (cnX12_on (xo κ) v0 v3 v2 (1000000000 : Int64) hv0) hv0 (by decide) rfl rfl rfl (by decide) (by decide) (Nat.le_of_ble_eq_true rfl) rfl (show decode cX12_sureOf 57 = .ok (.invokevirtual 483, 3) from by decide +kernel) rfl (fun x57 => ?_)
          refine sr_goto (q := 64) C (show decode cX12_sureOf 60 = .ok (.goto 4, 3) from by decide +kernel) (by decide) ?_
          exact slX12_sureOf_J64 C K16 v0 v1 v2 v3 x57 v3 (lk v0 41) hv0 (kt hv0 kp_12_41)
def fnX12_sureOf (v0 : Nat) (v1 : Int32) (v2 : Int32) : sm_M Int64 := m_ai (lk v0 1) (1 : Int32) fun x6 => m_br (v1 < x6)
    (fnX12_sureOf_L16 4096 v0 v1 v2 (0 : Int32))
    (m_ret (1000000000 : Int64))
set_option maxHeartbeats 4000000 in
set_option maxRecDepth 100000 in
theorem slX12_sureOf {κ : sm_X} (C : sm_C κ RX12 cX12_sureOf 7 5) (v0 : Nat) (v1 : Int32) (v2 : Int32) (hv0 : kd v0 = 12) : sm_S κ (fun r : Int64 => .inr (some (.long r))) (.inl (0, [some (xad κ v0), some (.int v1), some (.int v2), none, none, none, none], [])) (fnX12_sureOf v0 v1 v2) := by
  unfold fnX12_sureOf
  refine sr_iload_n (i := 1) (q := 1) C (show decode cX12_sureOf 0 = .ok (.iload_n 1, 1) from by decide +kernel) rfl rfl rfl ?_
  refine sr_aload_n (i := 0) (q := 2) C (show decode cX12_sureOf 1 = .ok (.aload_n 0, 1) from by decide +kernel) rfl rfl rfl ?_
  refine sr_getr (q := 5) C fl_X12_9 hv0 (show decode cX12_sureOf 2 = .ok (.getfield 9, 3) from by decide +kernel) rfl ?_
  refine sr_iconst (v := (1 : Int32)) (q := 6) C (show decode cX12_sureOf 5 = .ok (.iconst 1, 1) from by decide +kernel) (by decide) rfl ?_
  refine sr_iaload (q := 7) C (kt hv0 kp_12_1) (show decode cX12_sureOf 6 = .ok (.iaload, 1) from by decide +kernel) rfl (fun x6 => ?_)
  refine sr_icmp_lt (q := 10) C 14 (show decode cX12_sureOf 7 = .ok (.if_icmp .lt 7, 3) from by decide +kernel) (by decide) rfl ?_ ?_
  · refine sr_iconst (v := (0 : Int32)) (q := 15) C (show decode cX12_sureOf 14 = .ok (.iconst 0, 1) from by decide +kernel) (by decide) rfl ?_
    refine sr_istore_n (i := 3) (L' := [some (xad κ v0), some (.int v1), some (.int v2), some (.int (0 : Int32)), none, none, none]) (q := 16) C (show decode cX12_sureOf 15 = .ok (.istore_n 3, 1) from by decide +kernel) rfl (by decide) rfl rfl ?_
    exact slX12_sureOf_L16 C 4096 v0 v1 v2 (0 : Int32) hv0
  · refine sr_ldc2 (q := 13) C co_X12_481 (show decode cX12_sureOf 10 = .ok (.ldc2_w 481, 3) from by decide +kernel) rfl ?_
    exact sr_lreturn C _ rfl (show decode cX12_sureOf 13 = .ok (.lreturn, 1) from by decide +kernel)
theorem cnX12_sureOf (ω : sm_O) (v0 : Nat) (v1 : Int32) (v2 : Int32) (hv0 : kd v0 = 12) : sm_Mt 5 yX12_sureOf cX12_sureOf 7 (some .long) ω [.ref (ω.1 + v0), .int v1, .int v2] (fun a => some (.long a)) (fnX12_sureOf v0 v1 v2) := by
  refine sm_conL (r := fun a => a) (by decide) (Nat.le_of_ble_eq_true rfl) ?_
  intro κ hκ C
  subst hκ
  exact slX12_sureOf C v0 v1 v2 hv0
def fnX12_treadOf (v0 : Nat) (v1 : Int32) (v2 : Int32) (v3 : Int32) : sm_M Int64 := m_bnd (fnX12_isInDoubt v0 v1) fun x2 => m_br ((bI x2) = 0)
    (m_ret (0 : Int64))
    (m_bnd (fnX12_sureOf v0 v2 v3) fun x13 => m_bnd (fnX12_setStone v0 v1 (5 : Int32) (2 : Int32)) fun _ => m_bnd (fnX12_sureOf v0 v2 v3) fun x28 => m_bnd (fnX12_setStone v0 v1 (5 : Int32) (1 : Int32)) fun _ => m_bnd (fnX12_sureOf v0 v2 v3) fun x43 => m_bnd (fnX12_setStone v0 v1 (5 : Int32) (0 : Int32)) fun _ => m_bnd (fnX12_ofStone v0 v1 (4 : Int32)) fun x58 => m_gd (¬ (100 : Int64) = 0) <| m_ret ((((x58.toInt64 * x28) + ((((100 : Int32) - x58).toInt64) * x43)) / (100 : Int64)) - x13))
set_option maxHeartbeats 4000000 in
set_option maxRecDepth 100000 in
theorem slX12_treadOf {κ : sm_X} (C : sm_C κ RX12 cX12_treadOf 11 6) (v0 : Nat) (v1 : Int32) (v2 : Int32) (v3 : Int32) (hv0 : kd v0 = 12) : sm_S κ (fun r : Int64 => .inr (some (.long r))) (.inl (0, [some (xad κ v0), some (.int v1), some (.int v2), some (.int v3), none, none, none, none, none, none, none], [])) (fnX12_treadOf v0 v1 v2 v3) := by
  unfold fnX12_treadOf
  refine sr_aload_n (i := 0) (q := 1) C (show decode cX12_treadOf 0 = .ok (.aload_n 0, 1) from by decide +kernel) rfl rfl rfl ?_
  refine sr_iload_n (i := 1) (q := 2) C (show decode cX12_treadOf 1 = .ok (.iload_n 1, 1) from by decide +kernel) rfl rfl rfl ?_
  refine sr_cVz (As := [.int v1]) (st := []) (b := v0) (q := 5) C yvX12_isInDoubt ml_X12_253 (cnX12_isInDoubt (xo κ) v0 v1 hv0) hv0 (by decide) rfl rfl rfl (by decide) (by decide) (Nat.le_of_ble_eq_true rfl) rfl (show decode cX12_treadOf 2 = .ok (.invokevirtual 253, 3) from by decide +kernel) rfl (fun x2 => ?_)
  refine sr_if_ne (q := 8) C 10 (show decode cX12_treadOf 5 = .ok (.ifCond .ne 5, 3) from by decide +kernel) (by decide) rfl ?_ ?_
  · refine sr_aload_n (i := 0) (q := 11) C (show decode cX12_treadOf 10 = .ok (.aload_n 0, 1) from by decide +kernel) rfl rfl rfl ?_
    refine sr_iload_n (i := 2) (q := 12) C (show decode cX12_treadOf 11 = .ok (.iload_n 2, 1) from by decide +kernel) rfl rfl rfl ?_
    refine sr_iload_n (i := 3) (q := 13) C (show decode cX12_treadOf 12 = .ok (.iload_n 3, 1) from by decide +kernel) rfl rfl rfl ?_
    refine sr_cVl (As := [.int v2, .int v3]) (st := []) (b := v0) (q := 16) C yvX12_sureOf ml_X12_490 (cnX12_sureOf (xo κ) v0 v2 v3 hv0) hv0 (by decide) rfl rfl rfl (by decide) (by decide) (Nat.le_of_ble_eq_true rfl) rfl (show decode cX12_treadOf 13 = .ok (.invokevirtual 490, 3) from by decide +kernel) rfl (fun x13 => ?_)
    refine sr_lstore (i := 4) (L' := [some (xad κ v0), some (.int v1), some (.int v2), some (.int v3), some (.long x13), none, none, none, none, none, none]) (q := 18) C (show decode cX12_treadOf 16 = .ok (.lstore 4, 2) from by decide +kernel) (by decide) rfl rfl ?_
    refine sr_aload_n (i := 0) (q := 19) C (show decode cX12_treadOf 18 = .ok (.aload_n 0, 1) from by decide +kernel) rfl rfl rfl ?_
    refine sr_iload_n (i := 1) (q := 20) C (show decode cX12_treadOf 19 = .ok (.iload_n 1, 1) from by decide +kernel) rfl rfl rfl ?_
    refine sr_iconst (v := (5 : Int32)) (q := 21) C (show decode cX12_treadOf 20 = .ok (.iconst 5, 1) from by decide +kernel) (by decide) rfl ?_
    refine sr_iconst (v := (2 : Int32)) (q := 22) C (show decode cX12_treadOf 21 = .ok (.iconst 2, 1) from by decide +kernel) (by decide) rfl ?_
    refine sr_cVv (As := [.int v1, .int (5 : Int32), .int (2 : Int32)]) (st := []) (b := v0) (q := 25) C yvX12_setStone ml_X12_279 (cnX12_setStone (xo κ) v0 v1 (5 : Int32) (2 : Int32) hv0) hv0 (by decide) rfl rfl rfl (by decide) (by decide) (Nat.le_of_ble_eq_true rfl) rfl (show decode cX12_treadOf 22 = .ok (.invokevirtual 279, 3) from by decide +kernel) rfl (fun _ => ?_)
    refine sr_aload_n (i := 0) (q := 26) C (show decode cX12_treadOf 25 = .ok (.aload_n 0, 1) from by decide +kernel) rfl rfl rfl ?_
    refine sr_iload_n (i := 2) (q := 27) C (show decode cX12_treadOf 26 = .ok (.iload_n 2, 1) from by decide +kernel) rfl rfl rfl ?_
    refine sr_iload_n (i := 3) (q := 28) C (show decode cX12_treadOf 27 = .ok (.iload_n 3, 1) from by decide +kernel) rfl rfl rfl ?_
    refine sr_cVl (As := [.int v2, .int v3]) (st := []) (b := v0) (q := 31) C yvX12_sureOf ml_X12_490 (cnX12_sureOf (xo κ) v0 v2 v3 hv0) hv0 (by decide) rfl rfl rfl (by decide) (by decide) (Nat.le_of_ble_eq_true rfl) rfl (show decode cX12_treadOf 28 = .ok (.invokevirtual 490, 3) from by decide +kernel) rfl (fun x28 => ?_)
    refine sr_lstore (i := 6) (L' := [some (xad κ v0), some (.int v1), some (.int v2), some (.int v3), some (.long x13), none, some (.long x28), none, none, none, none]) (q := 33) C (show decode cX12_treadOf 31 = .ok (.lstore 6, 2) from by decide +kernel) (by decide) rfl rfl ?_
    refine sr_aload_n (i := 0) (q := 34) C (show decode cX12_treadOf 33 = .ok (.aload_n 0, 1) from by decide +kernel) rfl rfl rfl ?_
    refine sr_iload_n (i := 1) (q := 35) C (show decode cX12_treadOf 34 = .ok (.iload_n 1, 1) from by decide +kernel) rfl rfl rfl ?_
    refine sr_iconst (v := (5 : Int32)) (q := 36) C (show decode cX12_treadOf 35 = .ok (.iconst 5, 1) from by decide +kernel) (by decide) rfl ?_
    refine sr_iconst (v := (1 : Int32)) (q := 37) C (show decode cX12_treadOf 36 = .ok (.iconst 1, 1) from by decide +kernel) (by decide) rfl ?_
    refine sr_cVv (As := [.int v1, .int (5 : Int32), .int (1 : Int32)]) (st := []) (b := v0) (q := 40) C yvX12_setStone ml_X12_279 (cnX12_setStone (xo κ) v0 v1 (5 : Int32) (1 : Int32) hv0) hv0 (by decide) rfl rfl rfl (by decide) (by decide) (Nat.le_of_ble_eq_true rfl) rfl (show decode cX12_treadOf 37 = .ok (.invokevirtual 279, 3) from by decide +kernel) rfl (fun _ => ?_)
    refine sr_aload_n (i := 0) (q := 41) C (show decode cX12_treadOf 40 = .ok (.aload_n 0, 1) from by decide +kernel) rfl rfl rfl ?_
    refine sr_iload_n (i := 2) (q := 42) C (show decode cX12_treadOf 41 = .ok (.iload_n 2, 1) from by decide +kernel) rfl rfl rfl ?_
    refine sr_iload_n (i := 3) (q := 43) C (show decode cX12_treadOf 42 = .ok (.iload_n 3, 1) from by decide +kernel) rfl rfl rfl ?_
    refine sr_cVl (As := [.int v2, .int v3]) (st := []) (b := v0) (q := 46) C yvX12_sureOf ml_X12_490 (cnX12_sureOf (xo κ) v0 v2 v3 hv0) hv0 (by decide) rfl rfl rfl (by decide) (by decide) (Nat.le_of_ble_eq_true rfl) rfl (show decode cX12_treadOf 43 = .ok (.invokevirtual 490, 3) from by decide +kernel) rfl (fun x43 => ?_)
    refine sr_lstore (i := 8) (L' := [some (xad κ v0), some (.int v1), some (.int v2), some (.int v3), some (.long x13), none, some (.long x28), none, some (.long x43), none, none]) (q := 48) C (show decode cX12_treadOf 46 = .ok (.lstore 8, 2) from by decide +kernel) (by decide) rfl rfl ?_
    refine sr_aload_n (i := 0) (q := 49) C (show decode cX12_treadOf 48 = .ok (.aload_n 0, 1) from by decide +kernel) rfl rfl rfl ?_
    refine sr_iload_n (i := 1) (q := 50) C (show decode cX12_treadOf 49 = .ok (.iload_n 1, 1) from by decide +kernel) rfl rfl rfl ?_
    refine sr_iconst (v := (5 : Int32)) (q := 51) C (show decode cX12_treadOf 50 = .ok (.iconst 5, 1) from by decide +kernel) (by decide) rfl ?_
    refine sr_iconst (v := (0 : Int32)) (q := 52) C (show decode cX12_treadOf 51 = .ok (.iconst 0, 1) from by decide +kernel) (by decide) rfl ?_
    refine sr_cVv (As := [.int v1, .int (5 : Int32), .int (0 : Int32)]) (st := []) (b := v0) (q := 55) C yvX12_setStone ml_X12_279 (cnX12_setStone (xo κ) v0 v1 (5 : Int32) (0 : Int32) hv0) hv0 (by decide) rfl rfl rfl (by decide) (by decide) (Nat.le_of_ble_eq_true rfl) rfl (show decode cX12_treadOf 52 = .ok (.invokevirtual 279, 3) from by decide +kernel) rfl (fun _ => ?_)
    refine sr_aload_n (i := 0) (q := 56) C (show decode cX12_treadOf 55 = .ok (.aload_n 0, 1) from by decide +kernel) rfl rfl rfl ?_
    refine sr_iload_n (i := 1) (q := 57) C (show decode cX12_treadOf 56 = .ok (.iload_n 1, 1) from by decide +kernel) rfl rfl rfl ?_
    refine sr_iconst (v := (4 : Int32)) (q := 58) C (show decode cX12_treadOf 57 = .ok (.iconst 4, 1) from by decide +kernel) (by decide) rfl ?_
    refine sr_cVi (As := [.int v1, .int (4 : Int32)]) (st := []) (b := v0) (q := 61) C yvX12_ofStone ml_X12_239 (cnX12_ofStone (xo κ) v0 v1 (4 : Int32) hv0) hv0 (by decide) rfl rfl rfl (by decide) (by decide) (Nat.le_of_ble_eq_true rfl) rfl (show decode cX12_treadOf 58 = .ok (.invokevirtual 239, 3) from by decide +kernel) rfl (fun x58 => ?_)
    refine sr_istore (i := 10) (L' := [some (xad κ v0), some (.int v1), some (.int v2), some (.int v3), some (.long x13), none, some (.long x28), none, some (.long x43), none, some (.int x58)]) (q := 63) C (show decode cX12_treadOf 61 = .ok (.istore 10, 2) from by decide +kernel) (by decide) rfl rfl ?_
    refine sr_iload (i := 10) (q := 65) C (show decode cX12_treadOf 63 = .ok (.iload 10, 2) from by decide +kernel) rfl rfl ?_
    refine sr_i2l (q := 66) C (show decode cX12_treadOf 65 = .ok (.i2l, 1) from by decide +kernel) rfl ?_
    refine sr_lload (i := 6) (q := 68) C (show decode cX12_treadOf 66 = .ok (.lload 6, 2) from by decide +kernel) rfl rfl ?_
    refine sr_lmul (q := 69) C (show decode cX12_treadOf 68 = .ok (.lmul, 1) from by decide +kernel) rfl ?_
    refine sr_bipush (v := (100 : Int32)) (q := 71) C (show decode cX12_treadOf 69 = .ok (.bipush 100, 2) from by decide +kernel) (by decide) rfl ?_
    refine sr_iload (i := 10) (q := 73) C (show decode cX12_treadOf 71 = .ok (.iload 10, 2) from by decide +kernel) rfl rfl ?_
    refine sr_isub (q := 74) C (show decode cX12_treadOf 73 = .ok (.isub, 1) from by decide +kernel) rfl ?_
    refine sr_i2l (q := 75) C (show decode cX12_treadOf 74 = .ok (.i2l, 1) from by decide +kernel) rfl ?_
    refine sr_lload (i := 8) (q := 77) C (show decode cX12_treadOf 75 = .ok (.lload 8, 2) from by decide +kernel) rfl rfl ?_
    refine sr_lmul (q := 78) C (show decode cX12_treadOf 77 = .ok (.lmul, 1) from by decide +kernel) rfl ?_
    refine sr_ladd (q := 79) C (show decode cX12_treadOf 78 = .ok (.ladd, 1) from by decide +kernel) rfl ?_
    refine sr_ldc2 (q := 82) C co_X12_479 (show decode cX12_treadOf 79 = .ok (.ldc2_w 479, 3) from by decide +kernel) rfl ?_
    refine sr_ldiv (q := 83) C (show decode cX12_treadOf 82 = .ok (.ldiv, 1) from by decide +kernel) rfl ?_
    refine sr_lload (i := 4) (q := 85) C (show decode cX12_treadOf 83 = .ok (.lload 4, 2) from by decide +kernel) rfl rfl ?_
    refine sr_lsub (q := 86) C (show decode cX12_treadOf 85 = .ok (.lsub, 1) from by decide +kernel) rfl ?_
    exact sr_lreturn C _ rfl (show decode cX12_treadOf 86 = .ok (.lreturn, 1) from by decide +kernel)
  · refine sr_lconst (v := (0 : Int64)) (q := 9) C (show decode cX12_treadOf 8 = .ok (.lconst 0, 1) from by decide +kernel) (by decide) rfl ?_
    exact sr_lreturn C _ rfl (show decode cX12_treadOf 9 = .ok (.lreturn, 1) from by decide +kernel)
theorem cnX12_treadOf (ω : sm_O) (v0 : Nat) (v1 : Int32) (v2 : Int32) (v3 : Int32) (hv0 : kd v0 = 12) : sm_Mt 6 yX12_treadOf cX12_treadOf 11 (some .long) ω [.ref (ω.1 + v0), .int v1, .int v2, .int v3] (fun a => some (.long a)) (fnX12_treadOf v0 v1 v2 v3) := by
  refine sm_conL (r := fun a => a) (by decide) (Nat.le_of_ble_eq_true rfl) ?_
  intro κ hκ C
  subst hκ
  exact slX12_treadOf C v0 v1 v2 v3 hv0
def fnX12_first_J59 (k20 : Nat → Int32 → Int32 → Int32 → Int64 → Int32 → sm_M Int32) (v0 : Nat) (v1 : Int32) (v2 : Int32) (v3 : Int32) (v4 : Int64) (v6 : Int32) : sm_M Int32 := k20 v0 v1 v2 v3 v4 (v6 + (1 : Int32))
set_option maxHeartbeats 4000000 in
set_option maxRecDepth 100000 in
theorem slX12_first_J59 {κ : sm_X} (C : sm_C κ RX12 cX12_first 9 7) {k20 : Nat → Int32 → Int32 → Int32 → Int64 → Int32 → sm_M Int32} (K20 : ∀ (v0 : Nat) (v1 : Int32) (v2 : Int32) (v3 : Int32) (v4 : Int64) (v6 : Int32) (hv0 : kd v0 = 12), sm_S κ (fun r : Int32 => .inr (some (.int r))) (.inl (20, [some (xad κ v0), some (.int v1), some (.int v2), some (.int v3), some (.long v4), none, some (.int v6), none, none], [])) (k20 v0 v1 v2 v3 v4 v6)) (v0 : Nat) (v1 : Int32) (v2 : Int32) (v3 : Int32) (v4 : Int64) (v6 : Int32) (hv0 : kd v0 = 12) : sm_S κ (fun r : Int32 => .inr (some (.int r))) (.inl (59, [some (xad κ v0), some (.int v1), some (.int v2), some (.int v3), some (.long v4), none, some (.int v6), none, none], [])) (fnX12_first_J59 k20 v0 v1 v2 v3 v4 v6) := by
  unfold fnX12_first_J59
  refine sr_iinc (v := v6 + (1 : Int32)) (L' := [some (xad κ v0), some (.int v1), some (.int v2), some (.int v3), some (.long v4), none, some (.int (v6 + (1 : Int32))), none, none]) (q := 62) C (show decode cX12_first 59 = .ok (.iinc 6 1, 3) from by decide +kernel) rfl rfl (by decide) rfl rfl ?_
  refine sr_goto (q := 20) C (show decode cX12_first 62 = .ok (.goto (-42), 3) from by decide +kernel) (by decide) ?_
  exact K20 v0 v1 v2 v3 v4 (v6 + (1 : Int32)) hv0
def fnX12_first_L20 : Nat → Nat → Int32 → Int32 → Int32 → Int64 → Int32 → sm_M Int32
  | 0, _, _, _, _, _, _ => m_fail
  | n + 1, v0, v1, v2, v3, v4, v6 => m_ai (lk v0 1) (3 : Int32) fun x27 => m_br (x27 ≤ v6)
    (m_ret v3)
    (m_bnd (fnX12_treadOf v0 v6 v1 v2) fun x36 => m_br (0 < (lg_cmp x36 v4))
    (fnX12_first_J59 (fnX12_first_L20 n) v0 v1 v2 v6 x36 v6)
    (fnX12_first_J59 (fnX12_first_L20 n) v0 v1 v2 v3 v4 v6))
set_option maxHeartbeats 4000000 in
set_option maxRecDepth 100000 in
theorem slX12_first_L20 {κ : sm_X} (C : sm_C κ RX12 cX12_first 9 7) : ∀ (n : Nat) (v0 : Nat) (v1 : Int32) (v2 : Int32) (v3 : Int32) (v4 : Int64) (v6 : Int32) (hv0 : kd v0 = 12), sm_S κ (fun r : Int32 => .inr (some (.int r))) (.inl (20, [some (xad κ v0), some (.int v1), some (.int v2), some (.int v3), some (.long v4), none, some (.int v6), none, none], [])) (fnX12_first_L20 n v0 v1 v2 v3 v4 v6) := by
  intro n
  induction n with
  | zero =>
    intros
    exact sr_fail
  | succ n K20 =>
    intro v0 v1 v2 v3 v4 v6 hv0
    unfold fnX12_first_L20
    refine sr_iload (i := 6) (q := 22) C (show decode cX12_first 20 = .ok (.iload 6, 2) from by decide +kernel) rfl rfl ?_
    refine sr_aload_n (i := 0) (q := 23) C (show decode cX12_first 22 = .ok (.aload_n 0, 1) from by decide +kernel) rfl rfl rfl ?_
    refine sr_getr (q := 26) C fl_X12_9 hv0 (show decode cX12_first 23 = .ok (.getfield 9, 3) from by decide +kernel) rfl ?_
    refine sr_iconst (v := (3 : Int32)) (q := 27) C (show decode cX12_first 26 = .ok (.iconst 3, 1) from by decide +kernel) (by decide) rfl ?_
    refine sr_iaload (q := 28) C (kt hv0 kp_12_1) (show decode cX12_first 27 = .ok (.iaload, 1) from by decide +kernel) rfl (fun x27 => ?_)
    refine sr_icmp_ge (q := 31) C 65 (show decode cX12_first 28 = .ok (.if_icmp .ge 37, 3) from by decide +kernel) (by decide) rfl ?_ ?_
    · refine sr_iload_n (i := 3) (q := 66) C (show decode cX12_first 65 = .ok (.iload_n 3, 1) from by decide +kernel) rfl rfl rfl ?_
      exact sr_ireturn C _ rfl (show decode cX12_first 66 = .ok (.ireturn, 1) from by decide +kernel)
    · refine sr_aload_n (i := 0) (q := 32) C (show decode cX12_first 31 = .ok (.aload_n 0, 1) from by decide +kernel) rfl rfl rfl ?_
      refine sr_iload (i := 6) (q := 34) C (show decode cX12_first 32 = .ok (.iload 6, 2) from by decide +kernel) rfl rfl ?_
      refine sr_iload_n (i := 1) (q := 35) C (show decode cX12_first 34 = .ok (.iload_n 1, 1) from by decide +kernel) rfl rfl rfl ?_
      refine sr_iload_n (i := 2) (q := 36) C (show decode cX12_first 35 = .ok (.iload_n 2, 1) from by decide +kernel) rfl rfl rfl ?_
      refine sr_cVl (As := [.int v6, .int v1, .int v2]) (st := []) (b := v0) (q := 39) C yvX12_treadOf ml_X12_496 (cnX12_treadOf (xo κ) v0 v6 v1 v2 hv0) hv0 (by decide) rfl rfl rfl (by decide) (by decide) (Nat.le_of_ble_eq_true rfl) rfl (show decode cX12_first 36 = .ok (.invokevirtual 496, 3) from by decide +kernel) rfl (fun x36 => ?_)
      refine sr_lstore (i := 7) (L' := [some (xad κ v0), some (.int v1), some (.int v2), some (.int v3), some (.long v4), none, some (.int v6), some (.long x36), none]) (q := 41) C (show decode cX12_first 39 = .ok (.lstore 7, 2) from by decide +kernel) (by decide) rfl rfl ?_
      refine sr_lload (i := 7) (q := 43) C (show decode cX12_first 41 = .ok (.lload 7, 2) from by decide +kernel) rfl rfl ?_
      refine sr_lload (i := 4) (q := 45) C (show decode cX12_first 43 = .ok (.lload 4, 2) from by decide +kernel) rfl rfl ?_
      refine sr_lcmp (q := 46) C (show decode cX12_first 45 = .ok (.lcmp, 1) from by decide +kernel) rfl ?_
      refine sr_if_gt (q := 49) C 52 (show decode cX12_first 46 = .ok (.ifCond .gt 6, 3) from by decide +kernel) (by decide) rfl ?_ ?_
      · refine sr_iload (i := 6) (q := 54) C (show decode cX12_first 52 = .ok (.iload 6, 2) from by decide +kernel) rfl rfl ?_
        refine sr_istore_n (i := 3) (L' := [some (xad κ v0), some (.int v1), some (.int v2), some (.int v6), some (.long v4), none, some (.int v6), some (.long x36), none]) (q := 55) C (show decode cX12_first 54 = .ok (.istore_n 3, 1) from by decide +kernel) rfl (by decide) rfl rfl ?_
        refine sr_lload (i := 7) (q := 57) C (show decode cX12_first 55 = .ok (.lload 7, 2) from by decide +kernel) rfl rfl ?_
        refine sr_lstore (i := 4) (L' := [some (xad κ v0), some (.int v1), some (.int v2), some (.int v6), some (.long x36), none, some (.int v6), some (.long x36), none]) (q := 59) C (show decode cX12_first 57 = .ok (.lstore 4, 2) from by decide +kernel) (by decide) rfl rfl ?_
        refine sr_weak (L' := [some (xad κ v0), some (.int v1), some (.int v2), some (.int v6), some (.long x36), none, some (.int v6), none, none]) ⟨rfl, rfl, rfl, rfl, rfl, rfl, trivial⟩ ?_
        exact slX12_first_J59 C K20 v0 v1 v2 v6 x36 v6 hv0
      · refine sr_goto (q := 59) C (show decode cX12_first 49 = .ok (.goto 10, 3) from by decide +kernel) (by decide) ?_
        refine sr_weak (L' := [some (xad κ v0), some (.int v1), some (.int v2), some (.int v3), some (.long v4), none, some (.int v6), none, none]) ⟨rfl, rfl, rfl, rfl, rfl, rfl, trivial⟩ ?_
        exact slX12_first_J59 C K20 v0 v1 v2 v3 v4 v6 hv0
def fnX12_first (v0 : Nat) (v1 : Int32) (v2 : Int32) : sm_M Int32 := m_bnd (fnX12_isLoad v0 v1 v2) fun x3 => m_br ((bI x3) = 0)
    (m_ret (-2 : Int32))
    (fnX12_first_L20 4096 v0 v1 v2 (-1 : Int32) (0 : Int64) (0 : Int32))
set_option maxHeartbeats 4000000 in
set_option maxRecDepth 100000 in
theorem slX12_first {κ : sm_X} (C : sm_C κ RX12 cX12_first 9 7) (v0 : Nat) (v1 : Int32) (v2 : Int32) (hv0 : kd v0 = 12) : sm_S κ (fun r : Int32 => .inr (some (.int r))) (.inl (0, [some (xad κ v0), some (.int v1), some (.int v2), none, none, none, none, none, none], [])) (fnX12_first v0 v1 v2) := by
  unfold fnX12_first
  refine sr_aload_n (i := 0) (q := 1) C (show decode cX12_first 0 = .ok (.aload_n 0, 1) from by decide +kernel) rfl rfl rfl ?_
  refine sr_iload_n (i := 1) (q := 2) C (show decode cX12_first 1 = .ok (.iload_n 1, 1) from by decide +kernel) rfl rfl rfl ?_
  refine sr_iload_n (i := 2) (q := 3) C (show decode cX12_first 2 = .ok (.iload_n 2, 1) from by decide +kernel) rfl rfl rfl ?_
  refine sr_cVz (As := [.int v1, .int v2]) (st := []) (b := v0) (q := 6) C yvX12_isLoad ml_X12_453 (cnX12_isLoad (xo κ) v0 v1 v2 hv0) hv0 (by decide) rfl rfl rfl (by decide) (by decide) (Nat.le_of_ble_eq_true rfl) rfl (show decode cX12_first 3 = .ok (.invokevirtual 453, 3) from by decide +kernel) rfl (fun x3 => ?_)
  refine sr_if_ne (q := 9) C 12 (show decode cX12_first 6 = .ok (.ifCond .ne 6, 3) from by decide +kernel) (by decide) rfl ?_ ?_
  · refine sr_iconst (v := (-1 : Int32)) (q := 13) C (show decode cX12_first 12 = .ok (.iconst (-1), 1) from by decide +kernel) (by decide) rfl ?_
    refine sr_istore_n (i := 3) (L' := [some (xad κ v0), some (.int v1), some (.int v2), some (.int (-1 : Int32)), none, none, none, none, none]) (q := 14) C (show decode cX12_first 13 = .ok (.istore_n 3, 1) from by decide +kernel) rfl (by decide) rfl rfl ?_
    refine sr_lconst (v := (0 : Int64)) (q := 15) C (show decode cX12_first 14 = .ok (.lconst 0, 1) from by decide +kernel) (by decide) rfl ?_
    refine sr_lstore (i := 4) (L' := [some (xad κ v0), some (.int v1), some (.int v2), some (.int (-1 : Int32)), some (.long (0 : Int64)), none, none, none, none]) (q := 17) C (show decode cX12_first 15 = .ok (.lstore 4, 2) from by decide +kernel) (by decide) rfl rfl ?_
    refine sr_iconst (v := (0 : Int32)) (q := 18) C (show decode cX12_first 17 = .ok (.iconst 0, 1) from by decide +kernel) (by decide) rfl ?_
    refine sr_istore (i := 6) (L' := [some (xad κ v0), some (.int v1), some (.int v2), some (.int (-1 : Int32)), some (.long (0 : Int64)), none, some (.int (0 : Int32)), none, none]) (q := 20) C (show decode cX12_first 18 = .ok (.istore 6, 2) from by decide +kernel) (by decide) rfl rfl ?_
    exact slX12_first_L20 C 4096 v0 v1 v2 (-1 : Int32) (0 : Int64) (0 : Int32) hv0
  · refine sr_bipush (v := (-2 : Int32)) (q := 11) C (show decode cX12_first 9 = .ok (.bipush (-2), 2) from by decide +kernel) (by decide) rfl ?_
    exact sr_ireturn C _ rfl (show decode cX12_first 11 = .ok (.ireturn, 1) from by decide +kernel)
theorem cnX12_first (ω : sm_O) (v0 : Nat) (v1 : Int32) (v2 : Int32) (hv0 : kd v0 = 12) : sm_Mt 7 yX12_first cX12_first 9 (some .int) ω [.ref (ω.1 + v0), .int v1, .int v2] (fun a => some (.int a)) (fnX12_first v0 v1 v2) := by
  refine sm_conI (r := fun a => a) (by decide) (fun _ => rfl) (Nat.le_of_ble_eq_true rfl) ?_
  intro κ hκ C
  subst hκ
  exact slX12_first C v0 v1 v2 hv0
def fnX12_fresh (v0 : Nat) : sm_M Int32 := m_bnd (fnX12_borneAll v0) fun x1 => m_bnd (fnX12_freshens v0) fun _ => m_ret x1
set_option maxHeartbeats 4000000 in
set_option maxRecDepth 100000 in
theorem slX12_fresh {κ : sm_X} (C : sm_C κ RX12 cX12_fresh 2 3) (v0 : Nat) (hv0 : kd v0 = 12) : sm_S κ (fun r : Int32 => .inr (some (.int r))) (.inl (0, [some (xad κ v0), none], [])) (fnX12_fresh v0) := by
  unfold fnX12_fresh
  refine sr_aload_n (i := 0) (q := 1) C (show decode cX12_fresh 0 = .ok (.aload_n 0, 1) from by decide +kernel) rfl rfl rfl ?_
  refine sr_cVi (As := []) (st := []) (b := v0) (q := 4) C yvX12_borneAll ml_X12_283 (cnX12_borneAll (xo κ) v0 hv0) hv0 (by decide) rfl rfl rfl (by decide) (by decide) (Nat.le_of_ble_eq_true rfl) rfl (show decode cX12_fresh 1 = .ok (.invokevirtual 283, 3) from by decide +kernel) rfl (fun x1 => ?_)
  refine sr_istore_n (i := 1) (L' := [some (xad κ v0), some (.int x1)]) (q := 5) C (show decode cX12_fresh 4 = .ok (.istore_n 1, 1) from by decide +kernel) rfl (by decide) rfl rfl ?_
  refine sr_aload_n (i := 0) (q := 6) C (show decode cX12_fresh 5 = .ok (.aload_n 0, 1) from by decide +kernel) rfl rfl rfl ?_
  refine sr_cVv (As := []) (st := []) (b := v0) (q := 9) C yvX12_freshens ml_X12_286 (cnX12_freshens (xo κ) v0 hv0) hv0 (by decide) rfl rfl rfl (by decide) (by decide) (Nat.le_of_ble_eq_true rfl) rfl (show decode cX12_fresh 6 = .ok (.invokevirtual 286, 3) from by decide +kernel) rfl (fun _ => ?_)
  refine sr_iload_n (i := 1) (q := 10) C (show decode cX12_fresh 9 = .ok (.iload_n 1, 1) from by decide +kernel) rfl rfl rfl ?_
  exact sr_ireturn C _ rfl (show decode cX12_fresh 10 = .ok (.ireturn, 1) from by decide +kernel)
theorem cnX12_fresh (ω : sm_O) (v0 : Nat) (hv0 : kd v0 = 12) : sm_Mt 3 yX12_fresh cX12_fresh 2 (some .int) ω [.ref (ω.1 + v0)] (fun a => some (.int a)) (fnX12_fresh v0) := by
  refine sm_conI (r := fun a => a) (by decide) (fun _ => rfl) (Nat.le_of_ble_eq_true rfl) ?_
  intro κ hκ C
  subst hκ
  exact slX12_fresh C v0 hv0
def fnX12_freshOn_J50 (k2 : Nat → Int32 → Int32 → Int32 → sm_M Int32) (v0 : Nat) (v1 : Int32) (v2 : Int32) (v3 : Int32) : sm_M Int32 := k2 v0 v1 v2 (v3 + (1 : Int32))
set_option maxHeartbeats 4000000 in
set_option maxRecDepth 100000 in
theorem slX12_freshOn_J50 {κ : sm_X} (C : sm_C κ RX12 cX12_freshOn 4 1) {k2 : Nat → Int32 → Int32 → Int32 → sm_M Int32} (K2 : ∀ (v0 : Nat) (v1 : Int32) (v2 : Int32) (v3 : Int32) (hv0 : kd v0 = 12), sm_S κ (fun r : Int32 => .inr (some (.int r))) (.inl (2, [some (xad κ v0), some (.int v1), some (.int v2), some (.int v3)], [])) (k2 v0 v1 v2 v3)) (v0 : Nat) (v1 : Int32) (v2 : Int32) (v3 : Int32) (hv0 : kd v0 = 12) : sm_S κ (fun r : Int32 => .inr (some (.int r))) (.inl (50, [some (xad κ v0), some (.int v1), some (.int v2), some (.int v3)], [])) (fnX12_freshOn_J50 k2 v0 v1 v2 v3) := by
  unfold fnX12_freshOn_J50
  refine sr_iinc (v := v3 + (1 : Int32)) (L' := [some (xad κ v0), some (.int v1), some (.int v2), some (.int (v3 + (1 : Int32)))]) (q := 53) C (show decode cX12_freshOn 50 = .ok (.iinc 3 1, 3) from by decide +kernel) rfl rfl (by decide) rfl rfl ?_
  refine sr_goto (q := 2) C (show decode cX12_freshOn 53 = .ok (.goto (-51), 3) from by decide +kernel) (by decide) ?_
  exact K2 v0 v1 v2 (v3 + (1 : Int32)) hv0
def fnX12_freshOn_L2 : Nat → Nat → Int32 → Int32 → Int32 → sm_M Int32
  | 0, _, _, _, _ => m_fail
  | n + 1, v0, v1, v2, v3 => m_ai (lk v0 14) (3 : Int32) fun x8 => m_br (x8 ≤ v3)
    (m_ret (-1 : Int32))
    (m_ai (lk v0 14) (((10 : Int32) + ((7 : Int32) * v3)) + (0 : Int32)) fun x25 => m_br (x25 = v1)
    (m_ai (lk v0 14) (((10 : Int32) + ((7 : Int32) * v3)) + (1 : Int32)) fun x43 => m_br (x43 = v2)
    (m_ret v3)
    (fnX12_freshOn_J50 (fnX12_freshOn_L2 n) v0 v1 v2 v3))
    (fnX12_freshOn_J50 (fnX12_freshOn_L2 n) v0 v1 v2 v3))
set_option maxHeartbeats 4000000 in
set_option maxRecDepth 100000 in
theorem slX12_freshOn_L2 {κ : sm_X} (C : sm_C κ RX12 cX12_freshOn 4 1) : ∀ (n : Nat) (v0 : Nat) (v1 : Int32) (v2 : Int32) (v3 : Int32) (hv0 : kd v0 = 12), sm_S κ (fun r : Int32 => .inr (some (.int r))) (.inl (2, [some (xad κ v0), some (.int v1), some (.int v2), some (.int v3)], [])) (fnX12_freshOn_L2 n v0 v1 v2 v3) := by
  intro n
  induction n with
  | zero =>
    intros
    exact sr_fail
  | succ n K2 =>
    intro v0 v1 v2 v3 hv0
    unfold fnX12_freshOn_L2
    refine sr_iload_n (i := 3) (q := 3) C (show decode cX12_freshOn 2 = .ok (.iload_n 3, 1) from by decide +kernel) rfl rfl rfl ?_
    refine sr_aload_n (i := 0) (q := 4) C (show decode cX12_freshOn 3 = .ok (.aload_n 0, 1) from by decide +kernel) rfl rfl rfl ?_
    refine sr_getr (q := 7) C fl_X12_31 hv0 (show decode cX12_freshOn 4 = .ok (.getfield 31, 3) from by decide +kernel) rfl ?_
    refine sr_iconst (v := (3 : Int32)) (q := 8) C (show decode cX12_freshOn 7 = .ok (.iconst 3, 1) from by decide +kernel) (by decide) rfl ?_
    refine sr_iaload (q := 9) C (kt hv0 kp_12_14) (show decode cX12_freshOn 8 = .ok (.iaload, 1) from by decide +kernel) rfl (fun x8 => ?_)
    refine sr_icmp_ge (q := 12) C 56 (show decode cX12_freshOn 9 = .ok (.if_icmp .ge 47, 3) from by decide +kernel) (by decide) rfl ?_ ?_
    · refine sr_iconst (v := (-1 : Int32)) (q := 57) C (show decode cX12_freshOn 56 = .ok (.iconst (-1), 1) from by decide +kernel) (by decide) rfl ?_
      exact sr_ireturn C _ rfl (show decode cX12_freshOn 57 = .ok (.ireturn, 1) from by decide +kernel)
    · refine sr_aload_n (i := 0) (q := 13) C (show decode cX12_freshOn 12 = .ok (.aload_n 0, 1) from by decide +kernel) rfl rfl rfl ?_
      refine sr_getr (q := 16) C fl_X12_31 hv0 (show decode cX12_freshOn 13 = .ok (.getfield 31, 3) from by decide +kernel) rfl ?_
      refine sr_bipush (v := (10 : Int32)) (q := 18) C (show decode cX12_freshOn 16 = .ok (.bipush 10, 2) from by decide +kernel) (by decide) rfl ?_
      refine sr_bipush (v := (7 : Int32)) (q := 20) C (show decode cX12_freshOn 18 = .ok (.bipush 7, 2) from by decide +kernel) (by decide) rfl ?_
      refine sr_iload_n (i := 3) (q := 21) C (show decode cX12_freshOn 20 = .ok (.iload_n 3, 1) from by decide +kernel) rfl rfl rfl ?_
      refine sr_imul (q := 22) C (show decode cX12_freshOn 21 = .ok (.imul, 1) from by decide +kernel) rfl ?_
      refine sr_iadd (q := 23) C (show decode cX12_freshOn 22 = .ok (.iadd, 1) from by decide +kernel) rfl ?_
      refine sr_iconst (v := (0 : Int32)) (q := 24) C (show decode cX12_freshOn 23 = .ok (.iconst 0, 1) from by decide +kernel) (by decide) rfl ?_
      refine sr_iadd (q := 25) C (show decode cX12_freshOn 24 = .ok (.iadd, 1) from by decide +kernel) rfl ?_
      refine sr_iaload (q := 26) C (kt hv0 kp_12_14) (show decode cX12_freshOn 25 = .ok (.iaload, 1) from by decide +kernel) rfl (fun x25 => ?_)
      refine sr_iload_n (i := 1) (q := 27) C (show decode cX12_freshOn 26 = .ok (.iload_n 1, 1) from by decide +kernel) rfl rfl rfl ?_
      refine sr_icmp_ne (q := 30) C 50 (show decode cX12_freshOn 27 = .ok (.if_icmp .ne 23, 3) from by decide +kernel) (by decide) rfl ?_ ?_
      · exact slX12_freshOn_J50 C K2 v0 v1 v2 v3 hv0
      · refine sr_aload_n (i := 0) (q := 31) C (show decode cX12_freshOn 30 = .ok (.aload_n 0, 1) from by decide +kernel) rfl rfl rfl ?_
        refine sr_getr (q := 34) C fl_X12_31 hv0 (show decode cX12_freshOn 31 = .ok (.getfield 31, 3) from by decide +kernel) rfl ?_
        refine sr_bipush (v := (10 : Int32)) (q := 36) C (show decode cX12_freshOn 34 = .ok (.bipush 10, 2) from by decide +kernel) (by decide) rfl ?_
        refine sr_bipush (v := (7 : Int32)) (q := 38) C (show decode cX12_freshOn 36 = .ok (.bipush 7, 2) from by decide +kernel) (by decide) rfl ?_
        refine sr_iload_n (i := 3) (q := 39) C (show decode cX12_freshOn 38 = .ok (.iload_n 3, 1) from by decide +kernel) rfl rfl rfl ?_
        refine sr_imul (q := 40) C (show decode cX12_freshOn 39 = .ok (.imul, 1) from by decide +kernel) rfl ?_
        refine sr_iadd (q := 41) C (show decode cX12_freshOn 40 = .ok (.iadd, 1) from by decide +kernel) rfl ?_
        refine sr_iconst (v := (1 : Int32)) (q := 42) C (show decode cX12_freshOn 41 = .ok (.iconst 1, 1) from by decide +kernel) (by decide) rfl ?_
        refine sr_iadd (q := 43) C (show decode cX12_freshOn 42 = .ok (.iadd, 1) from by decide +kernel) rfl ?_
        refine sr_iaload (q := 44) C (kt hv0 kp_12_14) (show decode cX12_freshOn 43 = .ok (.iaload, 1) from by decide +kernel) rfl (fun x43 => ?_)
        refine sr_iload_n (i := 2) (q := 45) C (show decode cX12_freshOn 44 = .ok (.iload_n 2, 1) from by decide +kernel) rfl rfl rfl ?_
        refine sr_icmp_ne (q := 48) C 50 (show decode cX12_freshOn 45 = .ok (.if_icmp .ne 5, 3) from by decide +kernel) (by decide) rfl ?_ ?_
        · exact slX12_freshOn_J50 C K2 v0 v1 v2 v3 hv0
        · refine sr_iload_n (i := 3) (q := 49) C (show decode cX12_freshOn 48 = .ok (.iload_n 3, 1) from by decide +kernel) rfl rfl rfl ?_
          exact sr_ireturn C _ rfl (show decode cX12_freshOn 49 = .ok (.ireturn, 1) from by decide +kernel)
def fnX12_freshOn (v0 : Nat) (v1 : Int32) (v2 : Int32) : sm_M Int32 := fnX12_freshOn_L2 4096 v0 v1 v2 (0 : Int32)
set_option maxHeartbeats 4000000 in
set_option maxRecDepth 100000 in
theorem slX12_freshOn {κ : sm_X} (C : sm_C κ RX12 cX12_freshOn 4 1) (v0 : Nat) (v1 : Int32) (v2 : Int32) (hv0 : kd v0 = 12) : sm_S κ (fun r : Int32 => .inr (some (.int r))) (.inl (0, [some (xad κ v0), some (.int v1), some (.int v2), none], [])) (fnX12_freshOn v0 v1 v2) := by
  unfold fnX12_freshOn
  refine sr_iconst (v := (0 : Int32)) (q := 1) C (show decode cX12_freshOn 0 = .ok (.iconst 0, 1) from by decide +kernel) (by decide) rfl ?_
  refine sr_istore_n (i := 3) (L' := [some (xad κ v0), some (.int v1), some (.int v2), some (.int (0 : Int32))]) (q := 2) C (show decode cX12_freshOn 1 = .ok (.istore_n 3, 1) from by decide +kernel) rfl (by decide) rfl rfl ?_
  exact slX12_freshOn_L2 C 4096 v0 v1 v2 (0 : Int32) hv0
theorem cnX12_freshOn (ω : sm_O) (v0 : Nat) (v1 : Int32) (v2 : Int32) (hv0 : kd v0 = 12) : sm_Mt 1 yX12_freshOn cX12_freshOn 4 (some .int) ω [.ref (ω.1 + v0), .int v1, .int v2] (fun a => some (.int a)) (fnX12_freshOn v0 v1 v2) := by
  refine sm_conI (r := fun a => a) (by decide) (fun _ => rfl) (Nat.le_of_ble_eq_true rfl) ?_
  intro κ hκ C
  subst hκ
  exact slX12_freshOn C v0 v1 v2 hv0
def fnX12_gap (v0 : Nat) (v1 : Int32) : sm_M Int32 := m_bnd (fnX12_isWay v0 v1) fun x2 => m_br ((bI x2) = 0)
    (m_ret (-1000000 : Int32))
    (m_bnd (fnX12_fillWaiting v0) fun _ => m_gi v0 27 fun x17 => m_br (x17 ≤ (6 : Int32))
    (m_bnd (fnX12_findsOrder v0 v1) fun _ => m_bnd (fnX12_thinks v0) fun _ => m_bnd (fnX12_allGoOver v0 v1) fun _ => m_bnd (fnX12_wakes v0) fun _ => m_gi v0 30 fun x48 => m_gi v0 23 fun x52 => m_ret (x48 - x52))
    (m_ret (-1000000 : Int32)))
set_option maxHeartbeats 4000000 in
set_option maxRecDepth 100000 in
theorem slX12_gap {κ : sm_X} (C : sm_C κ RX12 cX12_gap 2 11) (v0 : Nat) (v1 : Int32) (hv0 : kd v0 = 12) : sm_S κ (fun r : Int32 => .inr (some (.int r))) (.inl (0, [some (xad κ v0), some (.int v1)], [])) (fnX12_gap v0 v1) := by
  unfold fnX12_gap
  refine sr_aload_n (i := 0) (q := 1) C (show decode cX12_gap 0 = .ok (.aload_n 0, 1) from by decide +kernel) rfl rfl rfl ?_
  refine sr_iload_n (i := 1) (q := 2) C (show decode cX12_gap 1 = .ok (.iload_n 1, 1) from by decide +kernel) rfl rfl rfl ?_
  refine sr_cVz (As := [.int v1]) (st := []) (b := v0) (q := 5) C yvX12_isWay ml_X12_366 (cnX12_isWay (xo κ) v0 v1 hv0) hv0 (by decide) rfl rfl rfl (by decide) (by decide) (Nat.le_of_ble_eq_true rfl) rfl (show decode cX12_gap 2 = .ok (.invokevirtual 366, 3) from by decide +kernel) rfl (fun x2 => ?_)
  refine sr_if_ne (q := 8) C 12 (show decode cX12_gap 5 = .ok (.ifCond .ne 7, 3) from by decide +kernel) (by decide) rfl ?_ ?_
  · refine sr_aload_n (i := 0) (q := 13) C (show decode cX12_gap 12 = .ok (.aload_n 0, 1) from by decide +kernel) rfl rfl rfl ?_
    refine sr_cVv (As := []) (st := []) (b := v0) (q := 16) C yvX12_fillWaiting ml_X12_422 (cnX12_fillWaiting (xo κ) v0 hv0) hv0 (by decide) rfl rfl rfl (by decide) (by decide) (Nat.le_of_ble_eq_true rfl) rfl (show decode cX12_gap 13 = .ok (.invokevirtual 422, 3) from by decide +kernel) rfl (fun _ => ?_)
    refine sr_aload_n (i := 0) (q := 17) C (show decode cX12_gap 16 = .ok (.aload_n 0, 1) from by decide +kernel) rfl rfl rfl ?_
    refine sr_geti (q := 20) C fl_X12_405 (Or.inl rfl) hv0 (show decode cX12_gap 17 = .ok (.getfield 405, 3) from by decide +kernel) rfl (fun x17 => ?_)
    refine sr_bipush (v := (6 : Int32)) (q := 22) C (show decode cX12_gap 20 = .ok (.bipush 6, 2) from by decide +kernel) (by decide) rfl ?_
    refine sr_icmp_le (q := 25) C 29 (show decode cX12_gap 22 = .ok (.if_icmp .le 7, 3) from by decide +kernel) (by decide) rfl ?_ ?_
    · refine sr_aload_n (i := 0) (q := 30) C (show decode cX12_gap 29 = .ok (.aload_n 0, 1) from by decide +kernel) rfl rfl rfl ?_
      refine sr_iload_n (i := 1) (q := 31) C (show decode cX12_gap 30 = .ok (.iload_n 1, 1) from by decide +kernel) rfl rfl rfl ?_
      refine sr_cVv (As := [.int v1]) (st := []) (b := v0) (q := 34) C yvX12_findsOrder ml_X12_425 (cnX12_findsOrder (xo κ) v0 v1 hv0) hv0 (by decide) rfl rfl rfl (by decide) (by decide) (Nat.le_of_ble_eq_true rfl) rfl (show decode cX12_gap 31 = .ok (.invokevirtual 425, 3) from by decide +kernel) rfl (fun _ => ?_)
      refine sr_aload_n (i := 0) (q := 35) C (show decode cX12_gap 34 = .ok (.aload_n 0, 1) from by decide +kernel) rfl rfl rfl ?_
      refine sr_cVv (As := []) (st := []) (b := v0) (q := 38) C yvX12_thinks ml_X12_339 (cnX12_thinks (xo κ) v0 hv0) hv0 (by decide) rfl rfl rfl (by decide) (by decide) (Nat.le_of_ble_eq_true rfl) rfl (show decode cX12_gap 35 = .ok (.invokevirtual 339, 3) from by decide +kernel) rfl (fun _ => ?_)
      refine sr_aload_n (i := 0) (q := 39) C (show decode cX12_gap 38 = .ok (.aload_n 0, 1) from by decide +kernel) rfl rfl rfl ?_
      refine sr_iload_n (i := 1) (q := 40) C (show decode cX12_gap 39 = .ok (.iload_n 1, 1) from by decide +kernel) rfl rfl rfl ?_
      refine sr_cVv (As := [.int v1]) (st := []) (b := v0) (q := 43) C yvX12_allGoOver ml_X12_399 (cnX12_allGoOver (xo κ) v0 v1 hv0) hv0 (by decide) rfl rfl rfl (by decide) (by decide) (Nat.le_of_ble_eq_true rfl) rfl (show decode cX12_gap 40 = .ok (.invokevirtual 399, 3) from by decide +kernel) rfl (fun _ => ?_)
      refine sr_aload_n (i := 0) (q := 44) C (show decode cX12_gap 43 = .ok (.aload_n 0, 1) from by decide +kernel) rfl rfl rfl ?_
      refine sr_cVv (As := []) (st := []) (b := v0) (q := 47) C yvX12_wakes ml_X12_345 (cnX12_wakes (xo κ) v0 hv0) hv0 (by decide) rfl rfl rfl (by decide) (by decide) (Nat.le_of_ble_eq_true rfl) rfl (show decode cX12_gap 44 = .ok (.invokevirtual 345, 3) from by decide +kernel) rfl (fun _ => ?_)
      refine sr_aload_n (i := 0) (q := 48) C (show decode cX12_gap 47 = .ok (.aload_n 0, 1) from by decide +kernel) rfl rfl rfl ?_
      refine sr_geti (q := 51) C fl_X12_414 (Or.inl rfl) hv0 (show decode cX12_gap 48 = .ok (.getfield 414, 3) from by decide +kernel) rfl (fun x48 => ?_)
      refine sr_aload_n (i := 0) (q := 52) C (show decode cX12_gap 51 = .ok (.aload_n 0, 1) from by decide +kernel) rfl rfl rfl ?_
      refine sr_geti (q := 55) C fl_X12_375 (Or.inl rfl) hv0 (show decode cX12_gap 52 = .ok (.getfield 375, 3) from by decide +kernel) rfl (fun x52 => ?_)
      refine sr_isub (q := 56) C (show decode cX12_gap 55 = .ok (.isub, 1) from by decide +kernel) rfl ?_
      exact sr_ireturn C _ rfl (show decode cX12_gap 56 = .ok (.ireturn, 1) from by decide +kernel)
    · refine sr_ldcw (q := 28) C co_X12_428 (show decode cX12_gap 25 = .ok (.ldc_w 428, 3) from by decide +kernel) rfl ?_
      exact sr_ireturn C _ rfl (show decode cX12_gap 28 = .ok (.ireturn, 1) from by decide +kernel)
  · refine sr_ldcw (q := 11) C co_X12_428 (show decode cX12_gap 8 = .ok (.ldc_w 428, 3) from by decide +kernel) rfl ?_
    exact sr_ireturn C _ rfl (show decode cX12_gap 11 = .ok (.ireturn, 1) from by decide +kernel)
theorem cnX12_gap (ω : sm_O) (v0 : Nat) (v1 : Int32) (hv0 : kd v0 = 12) : sm_Mt 11 yX12_gap cX12_gap 2 (some .int) ω [.ref (ω.1 + v0), .int v1] (fun a => some (.int a)) (fnX12_gap v0 v1) := by
  refine sm_conI (r := fun a => a) (by decide) (fun _ => rfl) (Nat.le_of_ble_eq_true rfl) ?_
  intro κ hκ C
  subst hκ
  exact slX12_gap C v0 v1 hv0
def fnX12_go_J44 (v0 : Nat) (v1 : Int32) (v2 : Int32) (s0 : Int32) : sm_M Int32 := m_bnd (fnX12_goes v0 v1 v2 s0) fun x49 => m_br ((bI x49) = 0)
    (m_ret (-5 : Int32))
    (m_gi v0 19 fun x56 => m_ret x56)
set_option maxHeartbeats 4000000 in
set_option maxRecDepth 100000 in
theorem slX12_go_J44 {κ : sm_X} (C : sm_C κ RX12 cX12_go 4 9) (v0 : Nat) (v1 : Int32) (v2 : Int32) (s0 : Int32) (hv0 : kd v0 = 12) : sm_S κ (fun r : Int32 => .inr (some (.int r))) (.inl (44, [some (xad κ v0), some (.int v1), some (.int v2), none], [.int s0])) (fnX12_go_J44 v0 v1 v2 s0) := by
  unfold fnX12_go_J44
  refine sr_istore_n (i := 3) (L' := [some (xad κ v0), some (.int v1), some (.int v2), some (.int s0)]) (q := 45) C (show decode cX12_go 44 = .ok (.istore_n 3, 1) from by decide +kernel) rfl (by decide) rfl rfl ?_
  refine sr_aload_n (i := 0) (q := 46) C (show decode cX12_go 45 = .ok (.aload_n 0, 1) from by decide +kernel) rfl rfl rfl ?_
  refine sr_iload_n (i := 1) (q := 47) C (show decode cX12_go 46 = .ok (.iload_n 1, 1) from by decide +kernel) rfl rfl rfl ?_
  refine sr_iload_n (i := 2) (q := 48) C (show decode cX12_go 47 = .ok (.iload_n 2, 1) from by decide +kernel) rfl rfl rfl ?_
  refine sr_iload_n (i := 3) (q := 49) C (show decode cX12_go 48 = .ok (.iload_n 3, 1) from by decide +kernel) rfl rfl rfl ?_
  refine sr_cVz (As := [.int v1, .int v2, .int s0]) (st := []) (b := v0) (q := 52) C yvX12_goes ml_X12_369 (cnX12_goes (xo κ) v0 v1 v2 s0 hv0) hv0 (by decide) rfl rfl rfl (by decide) (by decide) (Nat.le_of_ble_eq_true rfl) rfl (show decode cX12_go 49 = .ok (.invokevirtual 369, 3) from by decide +kernel) rfl (fun x49 => ?_)
  refine sr_if_eq (q := 55) C 62 (show decode cX12_go 52 = .ok (.ifCond .eq 10, 3) from by decide +kernel) (by decide) rfl ?_ ?_
  · refine sr_bipush (v := (-5 : Int32)) (q := 64) C (show decode cX12_go 62 = .ok (.bipush (-5), 2) from by decide +kernel) (by decide) rfl ?_
    exact sr_ireturn C _ rfl (show decode cX12_go 64 = .ok (.ireturn, 1) from by decide +kernel)
  · refine sr_aload_n (i := 0) (q := 56) C (show decode cX12_go 55 = .ok (.aload_n 0, 1) from by decide +kernel) rfl rfl rfl ?_
    refine sr_geti (q := 59) C fl_X12_297 (Or.inl rfl) hv0 (show decode cX12_go 56 = .ok (.getfield 297, 3) from by decide +kernel) rfl (fun x56 => ?_)
    refine sr_goto (q := 64) C (show decode cX12_go 59 = .ok (.goto 5, 3) from by decide +kernel) (by decide) ?_
    exact sr_ireturn C _ rfl (show decode cX12_go 64 = .ok (.ireturn, 1) from by decide +kernel)
def fnX12_go (v0 : Nat) (v1 : Int32) (v2 : Int32) : sm_M Int32 := m_bnd (fnX12_isWay v0 v2) fun x2 => m_br ((bI x2) = 0)
    (m_ret (-2 : Int32))
    (m_bnd (fnX12_isPerson v0 v1) fun x10 => m_br ((bI x10) = 0)
    (m_ret (-2 : Int32))
    (m_bnd (fnX12_leads v0 v1) fun x18 => m_br ((bI x18) = 0)
    (m_ret (-2 : Int32))
    (m_bnd (fnX12_isAt v0 v1 (98 : Int32)) fun x31 => m_br ((bI x31) = 0)
    (fnX12_go_J44 v0 v1 v2 (99 : Int32))
    (fnX12_go_J44 v0 v1 v2 (98 : Int32)))))
set_option maxHeartbeats 4000000 in
set_option maxRecDepth 100000 in
theorem slX12_go {κ : sm_X} (C : sm_C κ RX12 cX12_go 4 9) (v0 : Nat) (v1 : Int32) (v2 : Int32) (hv0 : kd v0 = 12) : sm_S κ (fun r : Int32 => .inr (some (.int r))) (.inl (0, [some (xad κ v0), some (.int v1), some (.int v2), none], [])) (fnX12_go v0 v1 v2) := by
  unfold fnX12_go
  refine sr_aload_n (i := 0) (q := 1) C (show decode cX12_go 0 = .ok (.aload_n 0, 1) from by decide +kernel) rfl rfl rfl ?_
  refine sr_iload_n (i := 2) (q := 2) C (show decode cX12_go 1 = .ok (.iload_n 2, 1) from by decide +kernel) rfl rfl rfl ?_
  refine sr_cVz (As := [.int v2]) (st := []) (b := v0) (q := 5) C yvX12_isWay ml_X12_366 (cnX12_isWay (xo κ) v0 v2 hv0) hv0 (by decide) rfl rfl rfl (by decide) (by decide) (Nat.le_of_ble_eq_true rfl) rfl (show decode cX12_go 2 = .ok (.invokevirtual 366, 3) from by decide +kernel) rfl (fun x2 => ?_)
  refine sr_if_eq (q := 8) C 24 (show decode cX12_go 5 = .ok (.ifCond .eq 19, 3) from by decide +kernel) (by decide) rfl ?_ ?_
  · refine sr_bipush (v := (-2 : Int32)) (q := 26) C (show decode cX12_go 24 = .ok (.bipush (-2), 2) from by decide +kernel) (by decide) rfl ?_
    exact sr_ireturn C _ rfl (show decode cX12_go 26 = .ok (.ireturn, 1) from by decide +kernel)
  · refine sr_aload_n (i := 0) (q := 9) C (show decode cX12_go 8 = .ok (.aload_n 0, 1) from by decide +kernel) rfl rfl rfl ?_
    refine sr_iload_n (i := 1) (q := 10) C (show decode cX12_go 9 = .ok (.iload_n 1, 1) from by decide +kernel) rfl rfl rfl ?_
    refine sr_cVz (As := [.int v1]) (st := []) (b := v0) (q := 13) C yvX12_isPerson ml_X12_322 (cnX12_isPerson (xo κ) v0 v1 hv0) hv0 (by decide) rfl rfl rfl (by decide) (by decide) (Nat.le_of_ble_eq_true rfl) rfl (show decode cX12_go 10 = .ok (.invokevirtual 322, 3) from by decide +kernel) rfl (fun x10 => ?_)
    refine sr_if_eq (q := 16) C 24 (show decode cX12_go 13 = .ok (.ifCond .eq 11, 3) from by decide +kernel) (by decide) rfl ?_ ?_
    · refine sr_bipush (v := (-2 : Int32)) (q := 26) C (show decode cX12_go 24 = .ok (.bipush (-2), 2) from by decide +kernel) (by decide) rfl ?_
      exact sr_ireturn C _ rfl (show decode cX12_go 26 = .ok (.ireturn, 1) from by decide +kernel)
    · refine sr_aload_n (i := 0) (q := 17) C (show decode cX12_go 16 = .ok (.aload_n 0, 1) from by decide +kernel) rfl rfl rfl ?_
      refine sr_iload_n (i := 1) (q := 18) C (show decode cX12_go 17 = .ok (.iload_n 1, 1) from by decide +kernel) rfl rfl rfl ?_
      refine sr_cVz (As := [.int v1]) (st := []) (b := v0) (q := 21) C yvX12_leads ml_X12_351 (cnX12_leads (xo κ) v0 v1 hv0) hv0 (by decide) rfl rfl rfl (by decide) (by decide) (Nat.le_of_ble_eq_true rfl) rfl (show decode cX12_go 18 = .ok (.invokevirtual 351, 3) from by decide +kernel) rfl (fun x18 => ?_)
      refine sr_if_ne (q := 24) C 27 (show decode cX12_go 21 = .ok (.ifCond .ne 6, 3) from by decide +kernel) (by decide) rfl ?_ ?_
      · refine sr_aload_n (i := 0) (q := 28) C (show decode cX12_go 27 = .ok (.aload_n 0, 1) from by decide +kernel) rfl rfl rfl ?_
        refine sr_iload_n (i := 1) (q := 29) C (show decode cX12_go 28 = .ok (.iload_n 1, 1) from by decide +kernel) rfl rfl rfl ?_
        refine sr_bipush (v := (98 : Int32)) (q := 31) C (show decode cX12_go 29 = .ok (.bipush 98, 2) from by decide +kernel) (by decide) rfl ?_
        refine sr_cVz (As := [.int v1, .int (98 : Int32)]) (st := []) (b := v0) (q := 34) C yvX12_isAt ml_X12_354 (cnX12_isAt (xo κ) v0 v1 (98 : Int32) hv0) hv0 (by decide) rfl rfl rfl (by decide) (by decide) (Nat.le_of_ble_eq_true rfl) rfl (show decode cX12_go 31 = .ok (.invokevirtual 354, 3) from by decide +kernel) rfl (fun x31 => ?_)
        refine sr_if_eq (q := 37) C 42 (show decode cX12_go 34 = .ok (.ifCond .eq 8, 3) from by decide +kernel) (by decide) rfl ?_ ?_
        · refine sr_bipush (v := (99 : Int32)) (q := 44) C (show decode cX12_go 42 = .ok (.bipush 99, 2) from by decide +kernel) (by decide) rfl ?_
          exact slX12_go_J44 C v0 v1 v2 (99 : Int32) hv0
        · refine sr_bipush (v := (98 : Int32)) (q := 39) C (show decode cX12_go 37 = .ok (.bipush 98, 2) from by decide +kernel) (by decide) rfl ?_
          refine sr_goto (q := 44) C (show decode cX12_go 39 = .ok (.goto 5, 3) from by decide +kernel) (by decide) ?_
          exact slX12_go_J44 C v0 v1 v2 (98 : Int32) hv0
      · refine sr_bipush (v := (-2 : Int32)) (q := 26) C (show decode cX12_go 24 = .ok (.bipush (-2), 2) from by decide +kernel) (by decide) rfl ?_
        exact sr_ireturn C _ rfl (show decode cX12_go 26 = .ok (.ireturn, 1) from by decide +kernel)
theorem cnX12_go (ω : sm_O) (v0 : Nat) (v1 : Int32) (v2 : Int32) (hv0 : kd v0 = 12) : sm_Mt 9 yX12_go cX12_go 4 (some .int) ω [.ref (ω.1 + v0), .int v1, .int v2] (fun a => some (.int a)) (fnX12_go v0 v1 v2) := by
  refine sm_conI (r := fun a => a) (by decide) (fun _ => rfl) (Nat.le_of_ble_eq_true rfl) ?_
  intro κ hκ C
  subst hκ
  exact slX12_go C v0 v1 v2 hv0
def fnX12_home_J66 (v0 : Nat) (v2 : Int32) : sm_M Int32 := m_bnd (fnX12_wakes v0) fun _ => m_ret v2
set_option maxHeartbeats 4000000 in
set_option maxRecDepth 100000 in
theorem slX12_home_J66 {κ : sm_X} (C : sm_C κ RX12 cX12_home 4 11) (v0 : Nat) (v2 : Int32) (hv0 : kd v0 = 12) : sm_S κ (fun r : Int32 => .inr (some (.int r))) (.inl (66, [some (xad κ v0), none, some (.int v2), none], [])) (fnX12_home_J66 v0 v2) := by
  unfold fnX12_home_J66
  refine sr_aload_n (i := 0) (q := 67) C (show decode cX12_home 66 = .ok (.aload_n 0, 1) from by decide +kernel) rfl rfl rfl ?_
  refine sr_cVv (As := []) (st := []) (b := v0) (q := 70) C yvX12_wakes ml_X12_345 (cnX12_wakes (xo κ) v0 hv0) hv0 (by decide) rfl rfl rfl (by decide) (by decide) (Nat.le_of_ble_eq_true rfl) rfl (show decode cX12_home 67 = .ok (.invokevirtual 345, 3) from by decide +kernel) rfl (fun _ => ?_)
  refine sr_iload_n (i := 2) (q := 71) C (show decode cX12_home 70 = .ok (.iload_n 2, 1) from by decide +kernel) rfl rfl rfl ?_
  exact sr_ireturn C _ rfl (show decode cX12_home 71 = .ok (.ireturn, 1) from by decide +kernel)
def fnX12_home_J60 (k24 : Nat → Int32 → Int32 → Int32 → sm_M Int32) (v0 : Nat) (v1 : Int32) (v2 : Int32) (v3 : Int32) : sm_M Int32 := k24 v0 v1 v2 (v3 + (1 : Int32))
set_option maxHeartbeats 4000000 in
set_option maxRecDepth 100000 in
theorem slX12_home_J60 {κ : sm_X} (C : sm_C κ RX12 cX12_home 4 11) {k24 : Nat → Int32 → Int32 → Int32 → sm_M Int32} (K24 : ∀ (v0 : Nat) (v1 : Int32) (v2 : Int32) (v3 : Int32) (hv0 : kd v0 = 12), sm_S κ (fun r : Int32 => .inr (some (.int r))) (.inl (24, [some (xad κ v0), some (.int v1), some (.int v2), some (.int v3)], [])) (k24 v0 v1 v2 v3)) (v0 : Nat) (v1 : Int32) (v2 : Int32) (v3 : Int32) (hv0 : kd v0 = 12) : sm_S κ (fun r : Int32 => .inr (some (.int r))) (.inl (60, [some (xad κ v0), some (.int v1), some (.int v2), some (.int v3)], [])) (fnX12_home_J60 k24 v0 v1 v2 v3) := by
  unfold fnX12_home_J60
  refine sr_iinc (v := v3 + (1 : Int32)) (L' := [some (xad κ v0), some (.int v1), some (.int v2), some (.int (v3 + (1 : Int32)))]) (q := 63) C (show decode cX12_home 60 = .ok (.iinc 3 1, 3) from by decide +kernel) rfl rfl (by decide) rfl rfl ?_
  refine sr_goto (q := 24) C (show decode cX12_home 63 = .ok (.goto (-39), 3) from by decide +kernel) (by decide) ?_
  exact K24 v0 v1 v2 (v3 + (1 : Int32)) hv0
def fnX12_home_L24 : Nat → Nat → Int32 → Int32 → Int32 → sm_M Int32
  | 0, _, _, _, _ => m_fail
  | n + 1, v0, v1, v2, v3 => m_bnd (fnX12_units v0) fun x26 => m_br (x26 ≤ v3)
    (fnX12_home_J66 v0 v2)
    (m_bnd (fnX12_sumOf v0 v3 (4 : Int32)) fun x35 => m_br (x35 ≤ 0)
    (fnX12_home_J60 (fnX12_home_L24 n) v0 v1 v2 v3)
    (m_bnd (fnX12_goes v0 v3 v1 (99 : Int32)) fun x46 => m_br ((bI x46) = 0)
    (fnX12_home_J60 (fnX12_home_L24 n) v0 v1 v2 v3)
    (m_bnd (fnX12_manyOf v0 v3) fun x55 => m_nm (v2 + x55) fun y59 => fnX12_home_J60 (fnX12_home_L24 n) v0 v1 y59 v3)))
set_option maxHeartbeats 4000000 in
set_option maxRecDepth 100000 in
theorem slX12_home_L24 {κ : sm_X} (C : sm_C κ RX12 cX12_home 4 11) : ∀ (n : Nat) (v0 : Nat) (v1 : Int32) (v2 : Int32) (v3 : Int32) (hv0 : kd v0 = 12), sm_S κ (fun r : Int32 => .inr (some (.int r))) (.inl (24, [some (xad κ v0), some (.int v1), some (.int v2), some (.int v3)], [])) (fnX12_home_L24 n v0 v1 v2 v3) := by
  intro n
  induction n with
  | zero =>
    intros
    exact sr_fail
  | succ n K24 =>
    intro v0 v1 v2 v3 hv0
    unfold fnX12_home_L24
    refine sr_iload_n (i := 3) (q := 25) C (show decode cX12_home 24 = .ok (.iload_n 3, 1) from by decide +kernel) rfl rfl rfl ?_
    refine sr_aload_n (i := 0) (q := 26) C (show decode cX12_home 25 = .ok (.aload_n 0, 1) from by decide +kernel) rfl rfl rfl ?_
    refine sr_cVi (As := []) (st := [.int v3]) (b := v0) (q := 29) C yvX12_units ml_X12_393 (cnX12_units (xo κ) v0 hv0) hv0 (by decide) rfl rfl rfl (by decide) (by decide) (Nat.le_of_ble_eq_true rfl) rfl (show decode cX12_home 26 = .ok (.invokevirtual 393, 3) from by decide +kernel) rfl (fun x26 => ?_)
    refine sr_icmp_ge (q := 32) C 66 (show decode cX12_home 29 = .ok (.if_icmp .ge 37, 3) from by decide +kernel) (by decide) rfl ?_ ?_
    · refine sr_weak (L' := [some (xad κ v0), none, some (.int v2), none]) ⟨rfl, rfl, trivial⟩ ?_
      exact slX12_home_J66 C v0 v2 hv0
    · refine sr_aload_n (i := 0) (q := 33) C (show decode cX12_home 32 = .ok (.aload_n 0, 1) from by decide +kernel) rfl rfl rfl ?_
      refine sr_iload_n (i := 3) (q := 34) C (show decode cX12_home 33 = .ok (.iload_n 3, 1) from by decide +kernel) rfl rfl rfl ?_
      refine sr_iconst (v := (4 : Int32)) (q := 35) C (show decode cX12_home 34 = .ok (.iconst 4, 1) from by decide +kernel) (by decide) rfl ?_
      refine sr_cVi (As := [.int v3, .int (4 : Int32)]) (st := []) (b := v0) (q := 38) C yvX12_sumOf ml_X12_360 (cnX12_sumOf (xo κ) v0 v3 (4 : Int32) hv0) hv0 (by decide) rfl rfl rfl (by decide) (by decide) (Nat.le_of_ble_eq_true rfl) rfl (show decode cX12_home 35 = .ok (.invokevirtual 360, 3) from by decide +kernel) rfl (fun x35 => ?_)
      refine sr_if_le (q := 41) C 60 (show decode cX12_home 38 = .ok (.ifCond .le 22, 3) from by decide +kernel) (by decide) rfl ?_ ?_
      · exact slX12_home_J60 C K24 v0 v1 v2 v3 hv0
      · refine sr_aload_n (i := 0) (q := 42) C (show decode cX12_home 41 = .ok (.aload_n 0, 1) from by decide +kernel) rfl rfl rfl ?_
        refine sr_iload_n (i := 3) (q := 43) C (show decode cX12_home 42 = .ok (.iload_n 3, 1) from by decide +kernel) rfl rfl rfl ?_
        refine sr_iload_n (i := 1) (q := 44) C (show decode cX12_home 43 = .ok (.iload_n 1, 1) from by decide +kernel) rfl rfl rfl ?_
        refine sr_bipush (v := (99 : Int32)) (q := 46) C (show decode cX12_home 44 = .ok (.bipush 99, 2) from by decide +kernel) (by decide) rfl ?_
        refine sr_cVz (As := [.int v3, .int v1, .int (99 : Int32)]) (st := []) (b := v0) (q := 49) C yvX12_goes ml_X12_369 (cnX12_goes (xo κ) v0 v3 v1 (99 : Int32) hv0) hv0 (by decide) rfl rfl rfl (by decide) (by decide) (Nat.le_of_ble_eq_true rfl) rfl (show decode cX12_home 46 = .ok (.invokevirtual 369, 3) from by decide +kernel) rfl (fun x46 => ?_)
        refine sr_if_eq (q := 52) C 60 (show decode cX12_home 49 = .ok (.ifCond .eq 11, 3) from by decide +kernel) (by decide) rfl ?_ ?_
        · exact slX12_home_J60 C K24 v0 v1 v2 v3 hv0
        · refine sr_iload_n (i := 2) (q := 53) C (show decode cX12_home 52 = .ok (.iload_n 2, 1) from by decide +kernel) rfl rfl rfl ?_
          refine sr_aload_n (i := 0) (q := 54) C (show decode cX12_home 53 = .ok (.aload_n 0, 1) from by decide +kernel) rfl rfl rfl ?_
          refine sr_iload_n (i := 3) (q := 55) C (show decode cX12_home 54 = .ok (.iload_n 3, 1) from by decide +kernel) rfl rfl rfl ?_
          refine sr_cVi (As := [.int v3]) (st := [.int v2]) (b := v0) (q := 58) C yvX12_manyOf ml_X12_384 (cnX12_manyOf (xo κ) v0 v3 hv0) hv0 (by decide) rfl rfl rfl (by decide) (by decide) (Nat.le_of_ble_eq_true rfl) rfl (show decode cX12_home 55 = .ok (.invokevirtual 384, 3) from by decide +kernel) rfl (fun x55 => ?_)
          refine sr_iadd (q := 59) C (show decode cX12_home 58 = .ok (.iadd, 1) from by decide +kernel) rfl ?_
          refine sr_nmi (fun y59 => ?_)
          refine sr_istore_n (i := 2) (L' := [some (xad κ v0), some (.int v1), some (.int y59), some (.int v3)]) (q := 60) C (show decode cX12_home 59 = .ok (.istore_n 2, 1) from by decide +kernel) rfl (by decide) rfl rfl ?_
          exact slX12_home_J60 C K24 v0 v1 y59 v3 hv0
def fnX12_home (v0 : Nat) (v1 : Int32) : sm_M Int32 := m_bnd (fnX12_isWay v0 v1) fun x2 => m_br ((bI x2) = 0)
    (m_ret (-2 : Int32))
    (m_bnd (fnX12_thinks v0) fun _ => m_bnd (fnX12_allGoOver v0 v1) fun _ => fnX12_home_L24 4096 v0 v1 (0 : Int32) (0 : Int32))
set_option maxHeartbeats 4000000 in
set_option maxRecDepth 100000 in
theorem slX12_home {κ : sm_X} (C : sm_C κ RX12 cX12_home 4 11) (v0 : Nat) (v1 : Int32) (hv0 : kd v0 = 12) : sm_S κ (fun r : Int32 => .inr (some (.int r))) (.inl (0, [some (xad κ v0), some (.int v1), none, none], [])) (fnX12_home v0 v1) := by
  unfold fnX12_home
  refine sr_aload_n (i := 0) (q := 1) C (show decode cX12_home 0 = .ok (.aload_n 0, 1) from by decide +kernel) rfl rfl rfl ?_
  refine sr_iload_n (i := 1) (q := 2) C (show decode cX12_home 1 = .ok (.iload_n 1, 1) from by decide +kernel) rfl rfl rfl ?_
  refine sr_cVz (As := [.int v1]) (st := []) (b := v0) (q := 5) C yvX12_isWay ml_X12_366 (cnX12_isWay (xo κ) v0 v1 hv0) hv0 (by decide) rfl rfl rfl (by decide) (by decide) (Nat.le_of_ble_eq_true rfl) rfl (show decode cX12_home 2 = .ok (.invokevirtual 366, 3) from by decide +kernel) rfl (fun x2 => ?_)
  refine sr_if_ne (q := 8) C 11 (show decode cX12_home 5 = .ok (.ifCond .ne 6, 3) from by decide +kernel) (by decide) rfl ?_ ?_
  · refine sr_aload_n (i := 0) (q := 12) C (show decode cX12_home 11 = .ok (.aload_n 0, 1) from by decide +kernel) rfl rfl rfl ?_
    refine sr_cVv (As := []) (st := []) (b := v0) (q := 15) C yvX12_thinks ml_X12_339 (cnX12_thinks (xo κ) v0 hv0) hv0 (by decide) rfl rfl rfl (by decide) (by decide) (Nat.le_of_ble_eq_true rfl) rfl (show decode cX12_home 12 = .ok (.invokevirtual 339, 3) from by decide +kernel) rfl (fun _ => ?_)
    refine sr_aload_n (i := 0) (q := 16) C (show decode cX12_home 15 = .ok (.aload_n 0, 1) from by decide +kernel) rfl rfl rfl ?_
    refine sr_iload_n (i := 1) (q := 17) C (show decode cX12_home 16 = .ok (.iload_n 1, 1) from by decide +kernel) rfl rfl rfl ?_
    refine sr_cVv (As := [.int v1]) (st := []) (b := v0) (q := 20) C yvX12_allGoOver ml_X12_399 (cnX12_allGoOver (xo κ) v0 v1 hv0) hv0 (by decide) rfl rfl rfl (by decide) (by decide) (Nat.le_of_ble_eq_true rfl) rfl (show decode cX12_home 17 = .ok (.invokevirtual 399, 3) from by decide +kernel) rfl (fun _ => ?_)
    refine sr_iconst (v := (0 : Int32)) (q := 21) C (show decode cX12_home 20 = .ok (.iconst 0, 1) from by decide +kernel) (by decide) rfl ?_
    refine sr_istore_n (i := 2) (L' := [some (xad κ v0), some (.int v1), some (.int (0 : Int32)), none]) (q := 22) C (show decode cX12_home 21 = .ok (.istore_n 2, 1) from by decide +kernel) rfl (by decide) rfl rfl ?_
    refine sr_iconst (v := (0 : Int32)) (q := 23) C (show decode cX12_home 22 = .ok (.iconst 0, 1) from by decide +kernel) (by decide) rfl ?_
    refine sr_istore_n (i := 3) (L' := [some (xad κ v0), some (.int v1), some (.int (0 : Int32)), some (.int (0 : Int32))]) (q := 24) C (show decode cX12_home 23 = .ok (.istore_n 3, 1) from by decide +kernel) rfl (by decide) rfl rfl ?_
    exact slX12_home_L24 C 4096 v0 v1 (0 : Int32) (0 : Int32) hv0
  · refine sr_bipush (v := (-2 : Int32)) (q := 10) C (show decode cX12_home 8 = .ok (.bipush (-2), 2) from by decide +kernel) (by decide) rfl ?_
    exact sr_ireturn C _ rfl (show decode cX12_home 10 = .ok (.ireturn, 1) from by decide +kernel)
theorem cnX12_home (ω : sm_O) (v0 : Nat) (v1 : Int32) (hv0 : kd v0 = 12) : sm_Mt 11 yX12_home cX12_home 4 (some .int) ω [.ref (ω.1 + v0), .int v1] (fun a => some (.int a)) (fnX12_home v0 v1) := by
  refine sm_conI (r := fun a => a) (by decide) (fun _ => rfl) (Nat.le_of_ble_eq_true rfl) ?_
  intro κ hκ C
  subst hκ
  exact slX12_home C v0 v1 hv0
def fnX12_hour (v0 : Nat) (v1 : Int32) : sm_M Int32 := m_bnd (fnX12_isRiver v0) fun x1 => m_br ((bI x1) = 0)
    (m_ret (-2 : Int32))
    (m_bnd (fnX12_in v1.toInt64 (0 : Int64) (23 : Int64)) fun x13 => m_br ((bI x13) = 0)
    (m_ret (-2 : Int32))
    (m_ai (lk v0 1) (7 : Int32) fun x28 => m_sai (lk v0 1) (7 : Int32) v1 <| m_ret x28))
set_option maxHeartbeats 4000000 in
set_option maxRecDepth 100000 in
theorem slX12_hour {κ : sm_X} (C : sm_C κ RX12 cX12_hour 3 2) (v0 : Nat) (v1 : Int32) (hv0 : kd v0 = 12) : sm_S κ (fun r : Int32 => .inr (some (.int r))) (.inl (0, [some (xad κ v0), some (.int v1), none], [])) (fnX12_hour v0 v1) := by
  unfold fnX12_hour
  refine sr_aload_n (i := 0) (q := 1) C (show decode cX12_hour 0 = .ok (.aload_n 0, 1) from by decide +kernel) rfl rfl rfl ?_
  refine sr_cVz (As := []) (st := []) (b := v0) (q := 4) C yvX12_isRiver ml_X12_107 (cnX12_isRiver (xo κ) v0 hv0) hv0 (by decide) rfl rfl rfl (by decide) (by decide) (Nat.le_of_ble_eq_true rfl) rfl (show decode cX12_hour 1 = .ok (.invokevirtual 107, 3) from by decide +kernel) rfl (fun x1 => ?_)
  refine sr_if_eq (q := 7) C 19 (show decode cX12_hour 4 = .ok (.ifCond .eq 15, 3) from by decide +kernel) (by decide) rfl ?_ ?_
  · refine sr_bipush (v := (-2 : Int32)) (q := 21) C (show decode cX12_hour 19 = .ok (.bipush (-2), 2) from by decide +kernel) (by decide) rfl ?_
    exact sr_ireturn C _ rfl (show decode cX12_hour 21 = .ok (.ireturn, 1) from by decide +kernel)
  · refine sr_iload_n (i := 1) (q := 8) C (show decode cX12_hour 7 = .ok (.iload_n 1, 1) from by decide +kernel) rfl rfl rfl ?_
    refine sr_i2l (q := 9) C (show decode cX12_hour 8 = .ok (.i2l, 1) from by decide +kernel) rfl ?_
    refine sr_lconst (v := (0 : Int64)) (q := 10) C (show decode cX12_hour 9 = .ok (.lconst 0, 1) from by decide +kernel) (by decide) rfl ?_
    refine sr_ldc2 (q := 13) C co_X12_277 (show decode cX12_hour 10 = .ok (.ldc2_w 277, 3) from by decide +kernel) rfl ?_
    refine sr_cSz (As := [.long v1.toInt64, .long (0 : Int64), .long (23 : Int64)]) (st := []) (q := 16) C ysX12_in ml_X12_103 (cnX12_in (xo κ) v1.toInt64 (0 : Int64) (23 : Int64)) rfl (by decide) (by decide) (Nat.le_of_ble_eq_true rfl) rfl (show decode cX12_hour 13 = .ok (.invokestatic 103, 3) from by decide +kernel) rfl (fun x13 => ?_)
    refine sr_if_ne (q := 19) C 22 (show decode cX12_hour 16 = .ok (.ifCond .ne 6, 3) from by decide +kernel) (by decide) rfl ?_ ?_
    · refine sr_aload_n (i := 0) (q := 23) C (show decode cX12_hour 22 = .ok (.aload_n 0, 1) from by decide +kernel) rfl rfl rfl ?_
      refine sr_getr (q := 26) C fl_X12_9 hv0 (show decode cX12_hour 23 = .ok (.getfield 9, 3) from by decide +kernel) rfl ?_
      refine sr_bipush (v := (7 : Int32)) (q := 28) C (show decode cX12_hour 26 = .ok (.bipush 7, 2) from by decide +kernel) (by decide) rfl ?_
      refine sr_iaload (q := 29) C (kt hv0 kp_12_1) (show decode cX12_hour 28 = .ok (.iaload, 1) from by decide +kernel) rfl (fun x28 => ?_)
      refine sr_istore_n (i := 2) (L' := [some (xad κ v0), some (.int v1), some (.int x28)]) (q := 30) C (show decode cX12_hour 29 = .ok (.istore_n 2, 1) from by decide +kernel) rfl (by decide) rfl rfl ?_
      refine sr_aload_n (i := 0) (q := 31) C (show decode cX12_hour 30 = .ok (.aload_n 0, 1) from by decide +kernel) rfl rfl rfl ?_
      refine sr_getr (q := 34) C fl_X12_9 hv0 (show decode cX12_hour 31 = .ok (.getfield 9, 3) from by decide +kernel) rfl ?_
      refine sr_bipush (v := (7 : Int32)) (q := 36) C (show decode cX12_hour 34 = .ok (.bipush 7, 2) from by decide +kernel) (by decide) rfl ?_
      refine sr_iload_n (i := 1) (q := 37) C (show decode cX12_hour 36 = .ok (.iload_n 1, 1) from by decide +kernel) rfl rfl rfl ?_
      refine sr_iastore (q := 38) C (kt hv0 kp_12_1) (show decode cX12_hour 37 = .ok (.iastore, 1) from by decide +kernel) rfl ?_
      refine sr_iload_n (i := 2) (q := 39) C (show decode cX12_hour 38 = .ok (.iload_n 2, 1) from by decide +kernel) rfl rfl rfl ?_
      exact sr_ireturn C _ rfl (show decode cX12_hour 39 = .ok (.ireturn, 1) from by decide +kernel)
    · refine sr_bipush (v := (-2 : Int32)) (q := 21) C (show decode cX12_hour 19 = .ok (.bipush (-2), 2) from by decide +kernel) (by decide) rfl ?_
      exact sr_ireturn C _ rfl (show decode cX12_hour 21 = .ok (.ireturn, 1) from by decide +kernel)
theorem cnX12_hour (ω : sm_O) (v0 : Nat) (v1 : Int32) (hv0 : kd v0 = 12) : sm_Mt 2 yX12_hour cX12_hour 3 (some .int) ω [.ref (ω.1 + v0), .int v1] (fun a => some (.int a)) (fnX12_hour v0 v1) := by
  refine sm_conI (r := fun a => a) (by decide) (fun _ => rfl) (Nat.le_of_ble_eq_true rfl) ?_
  intro κ hκ C
  subst hκ
  exact slX12_hour C v0 v1 hv0
def fnX12_image_J48 (v0 : Nat) (v1 : Int32) : sm_M Int32 := m_sai (lk v0 3) v1 (vp_nar .boolean (1 : Int32)) <| m_ret (0 : Int32)
set_option maxHeartbeats 4000000 in
set_option maxRecDepth 100000 in
theorem slX12_image_J48 {κ : sm_X} (C : sm_C κ RX12 cX12_image 3 2) (v0 : Nat) (v1 : Int32) (hv0 : kd v0 = 12) : sm_S κ (fun r : Int32 => .inr (some (.int r))) (.inl (48, [some (xad κ v0), some (.int v1), none], [])) (fnX12_image_J48 v0 v1) := by
  unfold fnX12_image_J48
  refine sr_aload_n (i := 0) (q := 49) C (show decode cX12_image 48 = .ok (.aload_n 0, 1) from by decide +kernel) rfl rfl rfl ?_
  refine sr_getr (q := 52) C fl_X12_16 hv0 (show decode cX12_image 49 = .ok (.getfield 16, 3) from by decide +kernel) rfl ?_
  refine sr_iload_n (i := 1) (q := 53) C (show decode cX12_image 52 = .ok (.iload_n 1, 1) from by decide +kernel) rfl rfl rfl ?_
  refine sr_iconst (v := (1 : Int32)) (q := 54) C (show decode cX12_image 53 = .ok (.iconst 1, 1) from by decide +kernel) (by decide) rfl ?_
  refine sr_zastore (q := 55) C (kt hv0 kp_12_3) (show decode cX12_image 54 = .ok (.bastore, 1) from by decide +kernel) rfl ?_
  refine sr_iconst (v := (0 : Int32)) (q := 56) C (show decode cX12_image 55 = .ok (.iconst 0, 1) from by decide +kernel) (by decide) rfl ?_
  exact sr_ireturn C _ rfl (show decode cX12_image 56 = .ok (.ireturn, 1) from by decide +kernel)
def fnX12_image_L17 : Nat → Nat → Int32 → Int32 → sm_M Int32
  | 0, _, _, _ => m_fail
  | n + 1, v0, v1, v2 => m_br ((241 : Int32) ≤ v2)
    (fnX12_image_J48 v0 v1)
    (m_ai (lk v0 1) v2 fun x40 => m_sai (lk v0 2) (((241 : Int32) * v1) + v2) x40 <| (fnX12_image_L17 n) v0 v1 (v2 + (1 : Int32)))
set_option maxHeartbeats 4000000 in
set_option maxRecDepth 100000 in
theorem slX12_image_L17 {κ : sm_X} (C : sm_C κ RX12 cX12_image 3 2) : ∀ (n : Nat) (v0 : Nat) (v1 : Int32) (v2 : Int32) (hv0 : kd v0 = 12), sm_S κ (fun r : Int32 => .inr (some (.int r))) (.inl (17, [some (xad κ v0), some (.int v1), some (.int v2)], [])) (fnX12_image_L17 n v0 v1 v2) := by
  intro n
  induction n with
  | zero =>
    intros
    exact sr_fail
  | succ n K17 =>
    intro v0 v1 v2 hv0
    unfold fnX12_image_L17
    refine sr_iload_n (i := 2) (q := 18) C (show decode cX12_image 17 = .ok (.iload_n 2, 1) from by decide +kernel) rfl rfl rfl ?_
    refine sr_sipush (v := (241 : Int32)) (q := 21) C (show decode cX12_image 18 = .ok (.sipush 241, 3) from by decide +kernel) (by decide) rfl ?_
    refine sr_icmp_ge (q := 24) C 48 (show decode cX12_image 21 = .ok (.if_icmp .ge 27, 3) from by decide +kernel) (by decide) rfl ?_ ?_
    · refine sr_weak (L' := [some (xad κ v0), some (.int v1), none]) ⟨rfl, rfl, trivial⟩ ?_
      exact slX12_image_J48 C v0 v1 hv0
    · refine sr_aload_n (i := 0) (q := 25) C (show decode cX12_image 24 = .ok (.aload_n 0, 1) from by decide +kernel) rfl rfl rfl ?_
      refine sr_getr (q := 28) C fl_X12_13 hv0 (show decode cX12_image 25 = .ok (.getfield 13, 3) from by decide +kernel) rfl ?_
      refine sr_sipush (v := (241 : Int32)) (q := 31) C (show decode cX12_image 28 = .ok (.sipush 241, 3) from by decide +kernel) (by decide) rfl ?_
      refine sr_iload_n (i := 1) (q := 32) C (show decode cX12_image 31 = .ok (.iload_n 1, 1) from by decide +kernel) rfl rfl rfl ?_
      refine sr_imul (q := 33) C (show decode cX12_image 32 = .ok (.imul, 1) from by decide +kernel) rfl ?_
      refine sr_iload_n (i := 2) (q := 34) C (show decode cX12_image 33 = .ok (.iload_n 2, 1) from by decide +kernel) rfl rfl rfl ?_
      refine sr_iadd (q := 35) C (show decode cX12_image 34 = .ok (.iadd, 1) from by decide +kernel) rfl ?_
      refine sr_aload_n (i := 0) (q := 36) C (show decode cX12_image 35 = .ok (.aload_n 0, 1) from by decide +kernel) rfl rfl rfl ?_
      refine sr_getr (q := 39) C fl_X12_9 hv0 (show decode cX12_image 36 = .ok (.getfield 9, 3) from by decide +kernel) rfl ?_
      refine sr_iload_n (i := 2) (q := 40) C (show decode cX12_image 39 = .ok (.iload_n 2, 1) from by decide +kernel) rfl rfl rfl ?_
      refine sr_iaload (q := 41) C (kt hv0 kp_12_1) (show decode cX12_image 40 = .ok (.iaload, 1) from by decide +kernel) rfl (fun x40 => ?_)
      refine sr_iastore (q := 42) C (kt hv0 kp_12_2) (show decode cX12_image 41 = .ok (.iastore, 1) from by decide +kernel) rfl ?_
      refine sr_iinc (v := v2 + (1 : Int32)) (L' := [some (xad κ v0), some (.int v1), some (.int (v2 + (1 : Int32)))]) (q := 45) C (show decode cX12_image 42 = .ok (.iinc 2 1, 3) from by decide +kernel) rfl rfl (by decide) rfl rfl ?_
      refine sr_goto (q := 17) C (show decode cX12_image 45 = .ok (.goto (-28), 3) from by decide +kernel) (by decide) ?_
      exact K17 v0 v1 (v2 + (1 : Int32)) hv0
def fnX12_image (v0 : Nat) (v1 : Int32) : sm_M Int32 := m_bnd (fnX12_in v1.toInt64 (0 : Int64) (2 : Int64)) fun x6 => m_br ((bI x6) = 0)
    (m_ret (-2 : Int32))
    (fnX12_image_L17 4096 v0 v1 (0 : Int32))
set_option maxHeartbeats 4000000 in
set_option maxRecDepth 100000 in
theorem slX12_image {κ : sm_X} (C : sm_C κ RX12 cX12_image 3 2) (v0 : Nat) (v1 : Int32) (hv0 : kd v0 = 12) : sm_S κ (fun r : Int32 => .inr (some (.int r))) (.inl (0, [some (xad κ v0), some (.int v1), none], [])) (fnX12_image v0 v1) := by
  unfold fnX12_image
  refine sr_iload_n (i := 1) (q := 1) C (show decode cX12_image 0 = .ok (.iload_n 1, 1) from by decide +kernel) rfl rfl rfl ?_
  refine sr_i2l (q := 2) C (show decode cX12_image 1 = .ok (.i2l, 1) from by decide +kernel) rfl ?_
  refine sr_lconst (v := (0 : Int64)) (q := 3) C (show decode cX12_image 2 = .ok (.lconst 0, 1) from by decide +kernel) (by decide) rfl ?_
  refine sr_ldc2 (q := 6) C co_X12_101 (show decode cX12_image 3 = .ok (.ldc2_w 101, 3) from by decide +kernel) rfl ?_
  refine sr_cSz (As := [.long v1.toInt64, .long (0 : Int64), .long (2 : Int64)]) (st := []) (q := 9) C ysX12_in ml_X12_103 (cnX12_in (xo κ) v1.toInt64 (0 : Int64) (2 : Int64)) rfl (by decide) (by decide) (Nat.le_of_ble_eq_true rfl) rfl (show decode cX12_image 6 = .ok (.invokestatic 103, 3) from by decide +kernel) rfl (fun x6 => ?_)
  refine sr_if_ne (q := 12) C 15 (show decode cX12_image 9 = .ok (.ifCond .ne 6, 3) from by decide +kernel) (by decide) rfl ?_ ?_
  · refine sr_iconst (v := (0 : Int32)) (q := 16) C (show decode cX12_image 15 = .ok (.iconst 0, 1) from by decide +kernel) (by decide) rfl ?_
    refine sr_istore_n (i := 2) (L' := [some (xad κ v0), some (.int v1), some (.int (0 : Int32))]) (q := 17) C (show decode cX12_image 16 = .ok (.istore_n 2, 1) from by decide +kernel) rfl (by decide) rfl rfl ?_
    exact slX12_image_L17 C 4096 v0 v1 (0 : Int32) hv0
  · refine sr_bipush (v := (-2 : Int32)) (q := 14) C (show decode cX12_image 12 = .ok (.bipush (-2), 2) from by decide +kernel) (by decide) rfl ?_
    exact sr_ireturn C _ rfl (show decode cX12_image 14 = .ok (.ireturn, 1) from by decide +kernel)
theorem cnX12_image (ω : sm_O) (v0 : Nat) (v1 : Int32) (hv0 : kd v0 = 12) : sm_Mt 2 yX12_image cX12_image 3 (some .int) ω [.ref (ω.1 + v0), .int v1] (fun a => some (.int a)) (fnX12_image v0 v1) := by
  refine sm_conI (r := fun a => a) (by decide) (fun _ => rfl) (Nat.le_of_ble_eq_true rfl) ?_
  intro κ hκ C
  subst hκ
  exact slX12_image C v0 v1 hv0
def fnX12_is_J75 (k39 : Nat → Nat → Int32 → Int32 → sm_M Bool) (v0 : Nat) (v1 : Nat) (v3 : Int32) (s0 : Int32) : sm_M Bool := k39 v0 v1 s0 (v3 + (1 : Int32))
set_option maxHeartbeats 4000000 in
set_option maxRecDepth 100000 in
theorem slX12_is_J75 {κ : sm_X} (C : sm_C κ RX12 cX12_is 4 5) {k39 : Nat → Nat → Int32 → Int32 → sm_M Bool} (K39 : ∀ (v0 : Nat) (v1 : Nat) (v2 : Int32) (v3 : Int32) (hv0 : kd v0 = 12) (hv1 : v1 < strN), sm_S κ (fun r : Bool => .inr (some (.int (bI r)))) (.inl (39, [some (xad κ v0), some (xst κ v1), some (.int v2), some (.int v3)], [])) (k39 v0 v1 v2 v3)) (v0 : Nat) (v1 : Nat) (v3 : Int32) (s0 : Int32) (hv0 : kd v0 = 12) (hv1 : v1 < strN) : sm_S κ (fun r : Bool => .inr (some (.int (bI r)))) (.inl (75, [some (xad κ v0), some (xst κ v1), none, some (.int v3)], [.int s0])) (fnX12_is_J75 k39 v0 v1 v3 s0) := by
  unfold fnX12_is_J75
  refine sr_istore_n (i := 2) (L' := [some (xad κ v0), some (xst κ v1), some (.int s0), some (.int v3)]) (q := 76) C (show decode cX12_is 75 = .ok (.istore_n 2, 1) from by decide +kernel) rfl (by decide) rfl rfl ?_
  refine sr_iinc (v := v3 + (1 : Int32)) (L' := [some (xad κ v0), some (xst κ v1), some (.int s0), some (.int (v3 + (1 : Int32)))]) (q := 79) C (show decode cX12_is 76 = .ok (.iinc 3 1, 3) from by decide +kernel) rfl rfl (by decide) rfl rfl ?_
  refine sr_goto (q := 39) C (show decode cX12_is 79 = .ok (.goto (-40), 3) from by decide +kernel) (by decide) ?_
  exact K39 v0 v1 s0 (v3 + (1 : Int32)) hv0 hv1
def fnX12_is_L39 : Nat → Nat → Nat → Int32 → Int32 → sm_M Bool
  | 0, _, _, _, _ => m_fail
  | n + 1, v0, v1, v2, v3 => m_bnd (fnJ0_length_8abf5 v1) fun x41 => m_br (x41 ≤ v3)
    (m_gd (bI (decide (v2 = 1)) = v2) (m_ret (decide (v2 = 1))))
    (m_br (v2 = 0)
    (m_gd (bI (decide (v2 = 1)) = v2) (m_ret (decide (v2 = 1))))
    (m_gi v0 9 fun x56 => m_ai (lk v0 4) (x56 + v3) fun x61 => m_bnd (fnJ0_charAt_5068e v1 v3) fun x64 => m_br (x61 = (cN x64))
    (fnX12_is_J75 (fnX12_is_L39 n) v0 v1 v3 (1 : Int32))
    (fnX12_is_J75 (fnX12_is_L39 n) v0 v1 v3 (0 : Int32))))
set_option maxHeartbeats 4000000 in
set_option maxRecDepth 100000 in
theorem slX12_is_L39 {κ : sm_X} (C : sm_C κ RX12 cX12_is 4 5) : ∀ (n : Nat) (v0 : Nat) (v1 : Nat) (v2 : Int32) (v3 : Int32) (hv0 : kd v0 = 12) (hv1 : v1 < strN), sm_S κ (fun r : Bool => .inr (some (.int (bI r)))) (.inl (39, [some (xad κ v0), some (xst κ v1), some (.int v2), some (.int v3)], [])) (fnX12_is_L39 n v0 v1 v2 v3) := by
  intro n
  induction n with
  | zero =>
    intros
    exact sr_fail
  | succ n K39 =>
    intro v0 v1 v2 v3 hv0 hv1
    unfold fnX12_is_L39
    refine sr_iload_n (i := 3) (q := 40) C (show decode cX12_is 39 = .ok (.iload_n 3, 1) from by decide +kernel) rfl rfl rfl ?_
    refine sr_aload_n (i := 1) (q := 41) C (show decode cX12_is 40 = .ok (.aload_n 1, 1) from by decide +kernel) rfl rfl rfl ?_
    refine sr_cTi (As := []) (st := [.int v3]) (b := v1) (q := 44) C yvJ0_length_8abf5 ml_X12_158 (cnJ0_length_8abf5 (xo κ) v1 hv1) hv1 rfl rfl (by decide) (by decide) (Nat.le_of_ble_eq_true rfl) rfl (show decode cX12_is 41 = .ok (.invokevirtual 158, 3) from by decide +kernel) rfl (fun x41 => ?_)
    refine sr_icmp_ge (q := 47) C 82 (show decode cX12_is 44 = .ok (.if_icmp .ge 38, 3) from by decide +kernel) (by decide) rfl ?_ ?_
    · refine sr_iload_n (i := 2) (q := 83) C (show decode cX12_is 82 = .ok (.iload_n 2, 1) from by decide +kernel) rfl rfl rfl ?_
      exact sr_zreturn C (fun _ => rfl) (show decode cX12_is 83 = .ok (.ireturn, 1) from by decide +kernel)
    · refine sr_iload_n (i := 2) (q := 48) C (show decode cX12_is 47 = .ok (.iload_n 2, 1) from by decide +kernel) rfl rfl rfl ?_
      refine sr_if_eq (q := 51) C 82 (show decode cX12_is 48 = .ok (.ifCond .eq 34, 3) from by decide +kernel) (by decide) rfl ?_ ?_
      · refine sr_iload_n (i := 2) (q := 83) C (show decode cX12_is 82 = .ok (.iload_n 2, 1) from by decide +kernel) rfl rfl rfl ?_
        exact sr_zreturn C (fun _ => rfl) (show decode cX12_is 83 = .ok (.ireturn, 1) from by decide +kernel)
      · refine sr_aload_n (i := 0) (q := 52) C (show decode cX12_is 51 = .ok (.aload_n 0, 1) from by decide +kernel) rfl rfl rfl ?_
        refine sr_getr (q := 55) C fl_X12_20 hv0 (show decode cX12_is 52 = .ok (.getfield 20, 3) from by decide +kernel) rfl ?_
        refine sr_aload_n (i := 0) (q := 56) C (show decode cX12_is 55 = .ok (.aload_n 0, 1) from by decide +kernel) rfl rfl rfl ?_
        refine sr_geti (q := 59) C fl_X12_128 (Or.inl rfl) hv0 (show decode cX12_is 56 = .ok (.getfield 128, 3) from by decide +kernel) rfl (fun x56 => ?_)
        refine sr_iload_n (i := 3) (q := 60) C (show decode cX12_is 59 = .ok (.iload_n 3, 1) from by decide +kernel) rfl rfl rfl ?_
        refine sr_iadd (q := 61) C (show decode cX12_is 60 = .ok (.iadd, 1) from by decide +kernel) rfl ?_
        refine sr_baload (q := 62) C (kt hv0 kp_12_4) (show decode cX12_is 61 = .ok (.baload, 1) from by decide +kernel) rfl (fun x61 => ?_)
        refine sr_aload_n (i := 1) (q := 63) C (show decode cX12_is 62 = .ok (.aload_n 1, 1) from by decide +kernel) rfl rfl rfl ?_
        refine sr_iload_n (i := 3) (q := 64) C (show decode cX12_is 63 = .ok (.iload_n 3, 1) from by decide +kernel) rfl rfl rfl ?_
        refine sr_cTc (As := [.int v3]) (st := [.int x61]) (b := v1) (q := 67) C yvJ0_charAt_5068e ml_X12_164 (cnJ0_charAt_5068e (xo κ) v1 v3 hv1) hv1 rfl rfl (by decide) (by decide) (Nat.le_of_ble_eq_true rfl) rfl (show decode cX12_is 64 = .ok (.invokevirtual 164, 3) from by decide +kernel) rfl (fun x64 => ?_)
        refine sr_icmp_ne (q := 70) C 74 (show decode cX12_is 67 = .ok (.if_icmp .ne 7, 3) from by decide +kernel) (by decide) rfl ?_ ?_
        · refine sr_iconst (v := (0 : Int32)) (q := 75) C (show decode cX12_is 74 = .ok (.iconst 0, 1) from by decide +kernel) (by decide) rfl ?_
          refine sr_weak (L' := [some (xad κ v0), some (xst κ v1), none, some (.int v3)]) ⟨rfl, rfl, rfl, trivial⟩ ?_
          exact slX12_is_J75 C K39 v0 v1 v3 (0 : Int32) hv0 hv1
        · refine sr_iconst (v := (1 : Int32)) (q := 71) C (show decode cX12_is 70 = .ok (.iconst 1, 1) from by decide +kernel) (by decide) rfl ?_
          refine sr_goto (q := 75) C (show decode cX12_is 71 = .ok (.goto 4, 3) from by decide +kernel) (by decide) ?_
          refine sr_weak (L' := [some (xad κ v0), some (xst κ v1), none, some (.int v3)]) ⟨rfl, rfl, rfl, trivial⟩ ?_
          exact slX12_is_J75 C K39 v0 v1 v3 (1 : Int32) hv0 hv1
def fnX12_is_J36 (v0 : Nat) (v1 : Nat) (s0 : Int32) : sm_M Bool := fnX12_is_L39 4096 v0 v1 s0 (0 : Int32)
set_option maxHeartbeats 4000000 in
set_option maxRecDepth 100000 in
theorem slX12_is_J36 {κ : sm_X} (C : sm_C κ RX12 cX12_is 4 5) (v0 : Nat) (v1 : Nat) (s0 : Int32) (hv0 : kd v0 = 12) (hv1 : v1 < strN) : sm_S κ (fun r : Bool => .inr (some (.int (bI r)))) (.inl (36, [some (xad κ v0), some (xst κ v1), none, none], [.int s0])) (fnX12_is_J36 v0 v1 s0) := by
  unfold fnX12_is_J36
  refine sr_istore_n (i := 2) (L' := [some (xad κ v0), some (xst κ v1), some (.int s0), none]) (q := 37) C (show decode cX12_is 36 = .ok (.istore_n 2, 1) from by decide +kernel) rfl (by decide) rfl rfl ?_
  refine sr_iconst (v := (0 : Int32)) (q := 38) C (show decode cX12_is 37 = .ok (.iconst 0, 1) from by decide +kernel) (by decide) rfl ?_
  refine sr_istore_n (i := 3) (L' := [some (xad κ v0), some (xst κ v1), some (.int s0), some (.int (0 : Int32))]) (q := 39) C (show decode cX12_is 38 = .ok (.istore_n 3, 1) from by decide +kernel) rfl (by decide) rfl rfl ?_
  exact slX12_is_L39 C 4096 v0 v1 s0 (0 : Int32) hv0 hv1
def fnX12_is_J35 (v0 : Nat) (v1 : Nat) : sm_M Bool := fnX12_is_J36 v0 v1 (0 : Int32)
set_option maxHeartbeats 4000000 in
set_option maxRecDepth 100000 in
theorem slX12_is_J35 {κ : sm_X} (C : sm_C κ RX12 cX12_is 4 5) (v0 : Nat) (v1 : Nat) (hv0 : kd v0 = 12) (hv1 : v1 < strN) : sm_S κ (fun r : Bool => .inr (some (.int (bI r)))) (.inl (35, [some (xad κ v0), some (xst κ v1), none, none], [])) (fnX12_is_J35 v0 v1) := by
  unfold fnX12_is_J35
  refine sr_iconst (v := (0 : Int32)) (q := 36) C (show decode cX12_is 35 = .ok (.iconst 0, 1) from by decide +kernel) (by decide) rfl ?_
  exact slX12_is_J36 C v0 v1 (0 : Int32) hv0 hv1
def fnX12_is (v0 : Nat) (v1 : Nat) : sm_M Bool := m_bnd (fnX12_good v0) fun x1 => m_br ((bI x1) = 0)
    (fnX12_is_J35 v0 v1)
    (m_gi v0 10 fun x8 => m_br (x8 = (1 : Int32))
    (m_gi v0 8 fun x16 => m_gi v0 9 fun x20 => m_bnd (fnJ0_length_8abf5 v1) fun x25 => m_br ((x16 - x20) = x25)
    (fnX12_is_J36 v0 v1 (1 : Int32))
    (fnX12_is_J35 v0 v1))
    (fnX12_is_J35 v0 v1))
set_option maxHeartbeats 4000000 in
set_option maxRecDepth 100000 in
theorem slX12_is {κ : sm_X} (C : sm_C κ RX12 cX12_is 4 5) (v0 : Nat) (v1 : Nat) (hv0 : kd v0 = 12) (hv1 : v1 < strN) : sm_S κ (fun r : Bool => .inr (some (.int (bI r)))) (.inl (0, [some (xad κ v0), some (xst κ v1), none, none], [])) (fnX12_is v0 v1) := by
  unfold fnX12_is
  refine sr_aload_n (i := 0) (q := 1) C (show decode cX12_is 0 = .ok (.aload_n 0, 1) from by decide +kernel) rfl rfl rfl ?_
  refine sr_cVz (As := []) (st := []) (b := v0) (q := 4) C yvX12_good ml_X12_155 (cnX12_good (xo κ) v0 hv0) hv0 (by decide) rfl rfl rfl (by decide) (by decide) (Nat.le_of_ble_eq_true rfl) rfl (show decode cX12_is 1 = .ok (.invokevirtual 155, 3) from by decide +kernel) rfl (fun x1 => ?_)
  refine sr_if_eq (q := 7) C 35 (show decode cX12_is 4 = .ok (.ifCond .eq 31, 3) from by decide +kernel) (by decide) rfl ?_ ?_
  · exact slX12_is_J35 C v0 v1 hv0 hv1
  · refine sr_aload_n (i := 0) (q := 8) C (show decode cX12_is 7 = .ok (.aload_n 0, 1) from by decide +kernel) rfl rfl rfl ?_
    refine sr_geti (q := 11) C fl_X12_131 (Or.inl rfl) hv0 (show decode cX12_is 8 = .ok (.getfield 131, 3) from by decide +kernel) rfl (fun x8 => ?_)
    refine sr_iconst (v := (1 : Int32)) (q := 12) C (show decode cX12_is 11 = .ok (.iconst 1, 1) from by decide +kernel) (by decide) rfl ?_
    refine sr_icmp_ne (q := 15) C 35 (show decode cX12_is 12 = .ok (.if_icmp .ne 23, 3) from by decide +kernel) (by decide) rfl ?_ ?_
    · exact slX12_is_J35 C v0 v1 hv0 hv1
    · refine sr_aload_n (i := 0) (q := 16) C (show decode cX12_is 15 = .ok (.aload_n 0, 1) from by decide +kernel) rfl rfl rfl ?_
      refine sr_geti (q := 19) C fl_X12_121 (Or.inl rfl) hv0 (show decode cX12_is 16 = .ok (.getfield 121, 3) from by decide +kernel) rfl (fun x16 => ?_)
      refine sr_aload_n (i := 0) (q := 20) C (show decode cX12_is 19 = .ok (.aload_n 0, 1) from by decide +kernel) rfl rfl rfl ?_
      refine sr_geti (q := 23) C fl_X12_128 (Or.inl rfl) hv0 (show decode cX12_is 20 = .ok (.getfield 128, 3) from by decide +kernel) rfl (fun x20 => ?_)
      refine sr_isub (q := 24) C (show decode cX12_is 23 = .ok (.isub, 1) from by decide +kernel) rfl ?_
      refine sr_aload_n (i := 1) (q := 25) C (show decode cX12_is 24 = .ok (.aload_n 1, 1) from by decide +kernel) rfl rfl rfl ?_
      refine sr_cTi (As := []) (st := [.int (x16 - x20)]) (b := v1) (q := 28) C yvJ0_length_8abf5 ml_X12_158 (cnJ0_length_8abf5 (xo κ) v1 hv1) hv1 rfl rfl (by decide) (by decide) (Nat.le_of_ble_eq_true rfl) rfl (show decode cX12_is 25 = .ok (.invokevirtual 158, 3) from by decide +kernel) rfl (fun x25 => ?_)
      refine sr_icmp_ne (q := 31) C 35 (show decode cX12_is 28 = .ok (.if_icmp .ne 7, 3) from by decide +kernel) (by decide) rfl ?_ ?_
      · exact slX12_is_J35 C v0 v1 hv0 hv1
      · refine sr_iconst (v := (1 : Int32)) (q := 32) C (show decode cX12_is 31 = .ok (.iconst 1, 1) from by decide +kernel) (by decide) rfl ?_
        refine sr_goto (q := 36) C (show decode cX12_is 32 = .ok (.goto 4, 3) from by decide +kernel) (by decide) ?_
        exact slX12_is_J36 C v0 v1 (1 : Int32) hv0 hv1
theorem cnX12_is (ω : sm_O) (v0 : Nat) (v1 : Nat) (hv0 : kd v0 = 12) (hv1 : v1 < strN) : sm_Mt 5 yX12_is cX12_is 4 (some .boolean) ω [.ref (ω.1 + v0), .ref (ω.2.2.2.1 v1)] (fun a => some (.int (bI a))) (fnX12_is v0 v1) := by
  refine sm_conI (r := bI) (by decide) bI_nar (Nat.le_of_ble_eq_true rfl) ?_
  intro κ hκ C
  subst hκ
  exact slX12_is C v0 v1 hv0 hv1
