def fnX10_spread_J189 (k69 : Nat → Int32 → Int32 → Int32 → Int32 → Int32 → Int32 → sm_M Unit) (v0 : Nat) (v1 : Int32) (v3 : Int32) (v5 : Int32) (v6 : Int32) (v8 : Int32) : sm_M Unit := m_bnd (fnX10_least v0 (v5 &&& v6)) fun x195 => k69 v0 v1 v3 v5 v6 x195 (v8 + (1 : Int32))
set_option maxHeartbeats 4000000 in
set_option maxRecDepth 100000 in
theorem slX10_spread_J189 {κ : sm_X} (C : sm_C κ RX10 cX10_spread 12 3) {k69 : Nat → Int32 → Int32 → Int32 → Int32 → Int32 → Int32 → sm_M Unit} (K69 : ∀ (v0 : Nat) (v1 : Int32) (v3 : Int32) (v5 : Int32) (v6 : Int32) (v7 : Int32) (v8 : Int32) (hv0 : kd v0 = 10), sm_S κ (fun _ : Unit => .inr none) (.inl (69, [some (xad κ v0), some (.int v1), none, some (.int v3), none, some (.int v5), some (.int v6), some (.int v7), some (.int v8), none, none, none], [])) (k69 v0 v1 v3 v5 v6 v7 v8)) (v0 : Nat) (v1 : Int32) (v3 : Int32) (v5 : Int32) (v6 : Int32) (v8 : Int32) (hv0 : kd v0 = 10) : sm_S κ (fun _ : Unit => .inr none) (.inl (189, [some (xad κ v0), some (.int v1), none, some (.int v3), none, some (.int v5), some (.int v6), none, some (.int v8), none, none, none], [])) (fnX10_spread_J189 k69 v0 v1 v3 v5 v6 v8) := by
  unfold fnX10_spread_J189
  refine sr_aload_n (i := 0) (q := 190) C (show decode cX10_spread 189 = .ok (.aload_n 0, 1) from by decide +kernel) rfl rfl rfl ?_
  refine sr_iload (i := 5) (q := 192) C (show decode cX10_spread 190 = .ok (.iload 5, 2) from by decide +kernel) rfl rfl ?_
  refine sr_iload (i := 6) (q := 194) C (show decode cX10_spread 192 = .ok (.iload 6, 2) from by decide +kernel) rfl rfl ?_
  refine sr_iand (q := 195) C (show decode cX10_spread 194 = .ok (.iand, 1) from by decide +kernel) rfl ?_
  refine sr_cVi (As := [.int (v5 &&& v6)]) (st := []) (b := v0) (q := 198) C yvX10_least ml_X10_103 (cnX10_least (xo κ) v0 (v5 &&& v6) hv0) hv0 (by decide) rfl rfl rfl (by decide) (by decide) (Nat.le_of_ble_eq_true rfl) rfl (show decode cX10_spread 195 = .ok (.invokevirtual 103, 3) from by decide +kernel) rfl (fun x195 => ?_)
  refine sr_istore (i := 7) (L' := [some (xad κ v0), some (.int v1), none, some (.int v3), none, some (.int v5), some (.int v6), some (.int x195), some (.int v8), none, none, none]) (q := 200) C (show decode cX10_spread 198 = .ok (.istore 7, 2) from by decide +kernel) (by decide) rfl rfl ?_
  refine sr_iinc (v := v8 + (1 : Int32)) (L' := [some (xad κ v0), some (.int v1), none, some (.int v3), none, some (.int v5), some (.int v6), some (.int x195), some (.int (v8 + (1 : Int32))), none, none, none]) (q := 203) C (show decode cX10_spread 200 = .ok (.iinc 8 1, 3) from by decide +kernel) rfl rfl (by decide) rfl rfl ?_
  refine sr_goto (q := 69) C (show decode cX10_spread 203 = .ok (.goto (-134), 3) from by decide +kernel) (by decide) ?_
  exact K69 v0 v1 v3 v5 v6 x195 (v8 + (1 : Int32)) hv0
def fnX10_spread_L133 (k69 : Nat → Int32 → Int32 → Int32 → Int32 → Int32 → Int32 → sm_M Unit) : Nat → Nat → Int32 → Int32 → Int32 → Int32 → Int32 → Int32 → Int32 → sm_M Unit
  | 0, _, _, _, _, _, _, _, _ => m_fail
  | n + 1, v0, v1, v3, v5, v6, v7, v8, v10 => m_br (v10 = 0)
    (fnX10_spread_J189 k69 v0 v1 v3 v5 v6 v8)
    (m_bnd (fnJ6_numberOfTrailingZeros_0f7a4 v10) fun x140 => m_ai (lk v0 4) x140 fun x157 => m_ai (lk v0 4) v7 fun x164 => m_ai (lk v0 3) x140 fun x171 => m_sai (lk v0 4) x140 (jmin x157 (x164 + x171)) <| m_nm (v10 &&& (v10 - (1 : Int32))) fun y184 => (fnX10_spread_L133 k69 n) v0 v1 v3 v5 v6 v7 v8 y184)
set_option maxHeartbeats 4000000 in
set_option maxRecDepth 100000 in
theorem slX10_spread_L133 {κ : sm_X} (C : sm_C κ RX10 cX10_spread 12 3) {k69 : Nat → Int32 → Int32 → Int32 → Int32 → Int32 → Int32 → sm_M Unit} (K69 : ∀ (v0 : Nat) (v1 : Int32) (v3 : Int32) (v5 : Int32) (v6 : Int32) (v7 : Int32) (v8 : Int32) (hv0 : kd v0 = 10), sm_S κ (fun _ : Unit => .inr none) (.inl (69, [some (xad κ v0), some (.int v1), none, some (.int v3), none, some (.int v5), some (.int v6), some (.int v7), some (.int v8), none, none, none], [])) (k69 v0 v1 v3 v5 v6 v7 v8)) : ∀ (n : Nat) (v0 : Nat) (v1 : Int32) (v3 : Int32) (v5 : Int32) (v6 : Int32) (v7 : Int32) (v8 : Int32) (v10 : Int32) (hv0 : kd v0 = 10), sm_S κ (fun _ : Unit => .inr none) (.inl (133, [some (xad κ v0), some (.int v1), none, some (.int v3), none, some (.int v5), some (.int v6), some (.int v7), some (.int v8), none, some (.int v10), none], [])) (fnX10_spread_L133 k69 n v0 v1 v3 v5 v6 v7 v8 v10) := by
  intro n
  induction n with
  | zero =>
    intros
    exact sr_fail
  | succ n K133 =>
    intro v0 v1 v3 v5 v6 v7 v8 v10 hv0
    unfold fnX10_spread_L133
    refine sr_iload (i := 10) (q := 135) C (show decode cX10_spread 133 = .ok (.iload 10, 2) from by decide +kernel) rfl rfl ?_
    refine sr_if_eq (q := 138) C 189 (show decode cX10_spread 135 = .ok (.ifCond .eq 54, 3) from by decide +kernel) (by decide) rfl ?_ ?_
    · refine sr_weak (L' := [some (xad κ v0), some (.int v1), none, some (.int v3), none, some (.int v5), some (.int v6), none, some (.int v8), none, none, none]) ⟨rfl, rfl, rfl, rfl, rfl, rfl, trivial⟩ ?_
      exact slX10_spread_J189 C K69 v0 v1 v3 v5 v6 v8 hv0
    · refine sr_iload (i := 10) (q := 140) C (show decode cX10_spread 138 = .ok (.iload 10, 2) from by decide +kernel) rfl rfl ?_
      refine sr_cSi (As := [.int v10]) (st := []) (q := 143) C ysJ6_numberOfTrailingZeros_0f7a4 ml_X10_98 (cnJ6_numberOfTrailingZeros_0f7a4 (xo κ) v10) rfl (by decide) (by decide) (Nat.le_of_ble_eq_true rfl) rfl (show decode cX10_spread 140 = .ok (.invokestatic 98, 3) from by decide +kernel) rfl (fun x140 => ?_)
      refine sr_istore (i := 11) (L' := [some (xad κ v0), some (.int v1), none, some (.int v3), none, some (.int v5), some (.int v6), some (.int v7), some (.int v8), none, some (.int v10), some (.int x140)]) (q := 145) C (show decode cX10_spread 143 = .ok (.istore 11, 2) from by decide +kernel) (by decide) rfl rfl ?_
      refine sr_aload_n (i := 0) (q := 146) C (show decode cX10_spread 145 = .ok (.aload_n 0, 1) from by decide +kernel) rfl rfl rfl ?_
      refine sr_getr (q := 149) C fl_X10_18 hv0 (show decode cX10_spread 146 = .ok (.getfield 18, 3) from by decide +kernel) rfl ?_
      refine sr_iload (i := 11) (q := 151) C (show decode cX10_spread 149 = .ok (.iload 11, 2) from by decide +kernel) rfl rfl ?_
      refine sr_aload_n (i := 0) (q := 152) C (show decode cX10_spread 151 = .ok (.aload_n 0, 1) from by decide +kernel) rfl rfl rfl ?_
      refine sr_getr (q := 155) C fl_X10_18 hv0 (show decode cX10_spread 152 = .ok (.getfield 18, 3) from by decide +kernel) rfl ?_
      refine sr_iload (i := 11) (q := 157) C (show decode cX10_spread 155 = .ok (.iload 11, 2) from by decide +kernel) rfl rfl ?_
      refine sr_iaload (q := 158) C (kt hv0 kp_10_4) (show decode cX10_spread 157 = .ok (.iaload, 1) from by decide +kernel) rfl (fun x157 => ?_)
      refine sr_aload_n (i := 0) (q := 159) C (show decode cX10_spread 158 = .ok (.aload_n 0, 1) from by decide +kernel) rfl rfl rfl ?_
      refine sr_getr (q := 162) C fl_X10_18 hv0 (show decode cX10_spread 159 = .ok (.getfield 18, 3) from by decide +kernel) rfl ?_
      refine sr_iload (i := 7) (q := 164) C (show decode cX10_spread 162 = .ok (.iload 7, 2) from by decide +kernel) rfl rfl ?_
      refine sr_iaload (q := 165) C (kt hv0 kp_10_4) (show decode cX10_spread 164 = .ok (.iaload, 1) from by decide +kernel) rfl (fun x164 => ?_)
      refine sr_aload_n (i := 0) (q := 166) C (show decode cX10_spread 165 = .ok (.aload_n 0, 1) from by decide +kernel) rfl rfl rfl ?_
      refine sr_getr (q := 169) C fl_X10_15 hv0 (show decode cX10_spread 166 = .ok (.getfield 15, 3) from by decide +kernel) rfl ?_
      refine sr_iload (i := 11) (q := 171) C (show decode cX10_spread 169 = .ok (.iload 11, 2) from by decide +kernel) rfl rfl ?_
      refine sr_iaload (q := 172) C (kt hv0 kp_10_3) (show decode cX10_spread 171 = .ok (.iaload, 1) from by decide +kernel) rfl (fun x171 => ?_)
      refine sr_iadd (q := 173) C (show decode cX10_spread 172 = .ok (.iadd, 1) from by decide +kernel) rfl ?_
      refine sr_jmin (st := [.int x140, xad κ (lk v0 4)]) (q := 176) C ml_X10_109 (by decide) (Nat.le_of_ble_eq_true rfl) (show decode cX10_spread 173 = .ok (.invokestatic 109, 3) from by decide +kernel) rfl ?_
      refine sr_iastore (q := 177) C (kt hv0 kp_10_4) (show decode cX10_spread 176 = .ok (.iastore, 1) from by decide +kernel) rfl ?_
      refine sr_iload (i := 10) (q := 179) C (show decode cX10_spread 177 = .ok (.iload 10, 2) from by decide +kernel) rfl rfl ?_
      refine sr_iload (i := 10) (q := 181) C (show decode cX10_spread 179 = .ok (.iload 10, 2) from by decide +kernel) rfl rfl ?_
      refine sr_iconst (v := (1 : Int32)) (q := 182) C (show decode cX10_spread 181 = .ok (.iconst 1, 1) from by decide +kernel) (by decide) rfl ?_
      refine sr_isub (q := 183) C (show decode cX10_spread 182 = .ok (.isub, 1) from by decide +kernel) rfl ?_
      refine sr_iand (q := 184) C (show decode cX10_spread 183 = .ok (.iand, 1) from by decide +kernel) rfl ?_
      refine sr_nmi (fun y184 => ?_)
      refine sr_istore (i := 10) (L' := [some (xad κ v0), some (.int v1), none, some (.int v3), none, some (.int v5), some (.int v6), some (.int v7), some (.int v8), none, some (.int y184), some (.int x140)]) (q := 186) C (show decode cX10_spread 184 = .ok (.istore 10, 2) from by decide +kernel) (by decide) rfl rfl ?_
      refine sr_goto (q := 133) C (show decode cX10_spread 186 = .ok (.goto (-53), 3) from by decide +kernel) (by decide) ?_
      refine sr_weak (L' := [some (xad κ v0), some (.int v1), none, some (.int v3), none, some (.int v5), some (.int v6), some (.int v7), some (.int v8), none, some (.int y184), none]) ⟨rfl, rfl, rfl, rfl, rfl, rfl, rfl, rfl, trivial⟩ ?_
      exact K133 v0 v1 v3 v5 v6 v7 v8 y184 hv0
def fnX10_spread_L69 : Nat → Nat → Int32 → Int32 → Int32 → Int32 → Int32 → Int32 → sm_M Unit
  | 0, _, _, _, _, _, _, _ => m_fail
  | n + 1, v0, v1, v3, v5, v6, v7, v8 => m_br ((24 : Int32) ≤ v8)
    (m_ret ())
    (m_br (v7 = (-1 : Int32))
    (m_ret ())
    (m_br (((v3 >>> (v7 &&& 31)) &&& (1 : Int32)) = 0)
    (m_nm (v6 &&& (((1 : Int32) <<< (v7 &&& 31)) ^^^ (-1 : Int32))) fun y100 => m_ai (lk (lk v0 2) 2) ((v1 * (24 : Int32)) + v7) fun x116 => m_nm (x116 &&& y100) fun y120 => m_nm (v5 ||| y120) fun y127 => fnX10_spread_L133 (fnX10_spread_L69 n) 4096 v0 v1 v3 y127 y100 v7 v8 y120)
    (m_ret ())))
set_option maxHeartbeats 4000000 in
set_option maxRecDepth 100000 in
theorem slX10_spread_L69 {κ : sm_X} (C : sm_C κ RX10 cX10_spread 12 3) : ∀ (n : Nat) (v0 : Nat) (v1 : Int32) (v3 : Int32) (v5 : Int32) (v6 : Int32) (v7 : Int32) (v8 : Int32) (hv0 : kd v0 = 10), sm_S κ (fun _ : Unit => .inr none) (.inl (69, [some (xad κ v0), some (.int v1), none, some (.int v3), none, some (.int v5), some (.int v6), some (.int v7), some (.int v8), none, none, none], [])) (fnX10_spread_L69 n v0 v1 v3 v5 v6 v7 v8) := by
  intro n
  induction n with
  | zero =>
    intros
    exact sr_fail
  | succ n K69 =>
    intro v0 v1 v3 v5 v6 v7 v8 hv0
    unfold fnX10_spread_L69
    refine sr_iload (i := 8) (q := 71) C (show decode cX10_spread 69 = .ok (.iload 8, 2) from by decide +kernel) rfl rfl ?_
    refine sr_bipush (v := (24 : Int32)) (q := 73) C (show decode cX10_spread 71 = .ok (.bipush 24, 2) from by decide +kernel) (by decide) rfl ?_
    refine sr_icmp_ge (q := 76) C 206 (show decode cX10_spread 73 = .ok (.if_icmp .ge 133, 3) from by decide +kernel) (by decide) rfl ?_ ?_
    · exact sr_vreturn C _ rfl (show decode cX10_spread 206 = .ok (.return_, 1) from by decide +kernel)
    · refine sr_iload (i := 7) (q := 78) C (show decode cX10_spread 76 = .ok (.iload 7, 2) from by decide +kernel) rfl rfl ?_
      refine sr_iconst (v := (-1 : Int32)) (q := 79) C (show decode cX10_spread 78 = .ok (.iconst (-1), 1) from by decide +kernel) (by decide) rfl ?_
      refine sr_icmp_eq (q := 82) C 206 (show decode cX10_spread 79 = .ok (.if_icmp .eq 127, 3) from by decide +kernel) (by decide) rfl ?_ ?_
      · exact sr_vreturn C _ rfl (show decode cX10_spread 206 = .ok (.return_, 1) from by decide +kernel)
      · refine sr_iload_n (i := 3) (q := 83) C (show decode cX10_spread 82 = .ok (.iload_n 3, 1) from by decide +kernel) rfl rfl rfl ?_
        refine sr_iload (i := 7) (q := 85) C (show decode cX10_spread 83 = .ok (.iload 7, 2) from by decide +kernel) rfl rfl ?_
        refine sr_ishr (q := 86) C (show decode cX10_spread 85 = .ok (.ishr, 1) from by decide +kernel) rfl ?_
        refine sr_iconst (v := (1 : Int32)) (q := 87) C (show decode cX10_spread 86 = .ok (.iconst 1, 1) from by decide +kernel) (by decide) rfl ?_
        refine sr_iand (q := 88) C (show decode cX10_spread 87 = .ok (.iand, 1) from by decide +kernel) rfl ?_
        refine sr_if_ne (q := 91) C 206 (show decode cX10_spread 88 = .ok (.ifCond .ne 118, 3) from by decide +kernel) (by decide) rfl ?_ ?_
        · exact sr_vreturn C _ rfl (show decode cX10_spread 206 = .ok (.return_, 1) from by decide +kernel)
        · refine sr_iload (i := 6) (q := 93) C (show decode cX10_spread 91 = .ok (.iload 6, 2) from by decide +kernel) rfl rfl ?_
          refine sr_iconst (v := (1 : Int32)) (q := 94) C (show decode cX10_spread 93 = .ok (.iconst 1, 1) from by decide +kernel) (by decide) rfl ?_
          refine sr_iload (i := 7) (q := 96) C (show decode cX10_spread 94 = .ok (.iload 7, 2) from by decide +kernel) rfl rfl ?_
          refine sr_ishl (q := 97) C (show decode cX10_spread 96 = .ok (.ishl, 1) from by decide +kernel) rfl ?_
          refine sr_iconst (v := (-1 : Int32)) (q := 98) C (show decode cX10_spread 97 = .ok (.iconst (-1), 1) from by decide +kernel) (by decide) rfl ?_
          refine sr_ixor (q := 99) C (show decode cX10_spread 98 = .ok (.ixor, 1) from by decide +kernel) rfl ?_
          refine sr_iand (q := 100) C (show decode cX10_spread 99 = .ok (.iand, 1) from by decide +kernel) rfl ?_
          refine sr_nmi (fun y100 => ?_)
          refine sr_istore (i := 6) (L' := [some (xad κ v0), some (.int v1), none, some (.int v3), none, some (.int v5), some (.int y100), some (.int v7), some (.int v8), none, none, none]) (q := 102) C (show decode cX10_spread 100 = .ok (.istore 6, 2) from by decide +kernel) (by decide) rfl rfl ?_
          refine sr_aload_n (i := 0) (q := 103) C (show decode cX10_spread 102 = .ok (.aload_n 0, 1) from by decide +kernel) rfl rfl rfl ?_
          refine sr_getr (q := 106) C fl_X10_24 hv0 (show decode cX10_spread 103 = .ok (.getfield 24, 3) from by decide +kernel) rfl ?_
          refine sr_getr (q := 109) C fl_X10_106 (kt hv0 kp_10_2) (show decode cX10_spread 106 = .ok (.getfield 106, 3) from by decide +kernel) rfl ?_
          refine sr_iload_n (i := 1) (q := 110) C (show decode cX10_spread 109 = .ok (.iload_n 1, 1) from by decide +kernel) rfl rfl rfl ?_
          refine sr_bipush (v := (24 : Int32)) (q := 112) C (show decode cX10_spread 110 = .ok (.bipush 24, 2) from by decide +kernel) (by decide) rfl ?_
          refine sr_imul (q := 113) C (show decode cX10_spread 112 = .ok (.imul, 1) from by decide +kernel) rfl ?_
          refine sr_iload (i := 7) (q := 115) C (show decode cX10_spread 113 = .ok (.iload 7, 2) from by decide +kernel) rfl rfl ?_
          refine sr_iadd (q := 116) C (show decode cX10_spread 115 = .ok (.iadd, 1) from by decide +kernel) rfl ?_
          refine sr_iaload (q := 117) C (kt (kt hv0 kp_10_2) kp_3_2) (show decode cX10_spread 116 = .ok (.iaload, 1) from by decide +kernel) rfl (fun x116 => ?_)
          refine sr_iload (i := 6) (q := 119) C (show decode cX10_spread 117 = .ok (.iload 6, 2) from by decide +kernel) rfl rfl ?_
          refine sr_iand (q := 120) C (show decode cX10_spread 119 = .ok (.iand, 1) from by decide +kernel) rfl ?_
          refine sr_nmi (fun y120 => ?_)
          refine sr_istore (i := 9) (L' := [some (xad κ v0), some (.int v1), none, some (.int v3), none, some (.int v5), some (.int y100), some (.int v7), some (.int v8), some (.int y120), none, none]) (q := 122) C (show decode cX10_spread 120 = .ok (.istore 9, 2) from by decide +kernel) (by decide) rfl rfl ?_
          refine sr_iload (i := 5) (q := 124) C (show decode cX10_spread 122 = .ok (.iload 5, 2) from by decide +kernel) rfl rfl ?_
          refine sr_iload (i := 9) (q := 126) C (show decode cX10_spread 124 = .ok (.iload 9, 2) from by decide +kernel) rfl rfl ?_
          refine sr_ior (q := 127) C (show decode cX10_spread 126 = .ok (.ior, 1) from by decide +kernel) rfl ?_
          refine sr_nmi (fun y127 => ?_)
          refine sr_istore (i := 5) (L' := [some (xad κ v0), some (.int v1), none, some (.int v3), none, some (.int y127), some (.int y100), some (.int v7), some (.int v8), some (.int y120), none, none]) (q := 129) C (show decode cX10_spread 127 = .ok (.istore 5, 2) from by decide +kernel) (by decide) rfl rfl ?_
          refine sr_iload (i := 9) (q := 131) C (show decode cX10_spread 129 = .ok (.iload 9, 2) from by decide +kernel) rfl rfl ?_
          refine sr_istore (i := 10) (L' := [some (xad κ v0), some (.int v1), none, some (.int v3), none, some (.int y127), some (.int y100), some (.int v7), some (.int v8), some (.int y120), some (.int y120), none]) (q := 133) C (show decode cX10_spread 131 = .ok (.istore 10, 2) from by decide +kernel) (by decide) rfl rfl ?_
          refine sr_weak (L' := [some (xad κ v0), some (.int v1), none, some (.int v3), none, some (.int y127), some (.int y100), some (.int v7), some (.int v8), none, some (.int y120), none]) ⟨rfl, rfl, rfl, rfl, rfl, rfl, rfl, rfl, trivial⟩ ?_
          exact slX10_spread_L133 C K69 4096 v0 v1 v3 y127 y100 v7 v8 y120 hv0
def fnX10_spread_J51 (v0 : Nat) (v1 : Int32) (v2 : Int32) (v3 : Int32) (v4 : Int32) : sm_M Unit := m_bnd (fnX10_least v0 v4) fun x61 => fnX10_spread_L69 4096 v0 v1 v3 v4 v2 x61 (0 : Int32)
set_option maxHeartbeats 4000000 in
set_option maxRecDepth 100000 in
theorem slX10_spread_J51 {κ : sm_X} (C : sm_C κ RX10 cX10_spread 12 3) (v0 : Nat) (v1 : Int32) (v2 : Int32) (v3 : Int32) (v4 : Int32) (hv0 : kd v0 = 10) : sm_S κ (fun _ : Unit => .inr none) (.inl (51, [some (xad κ v0), some (.int v1), some (.int v2), some (.int v3), some (.int v4), none, none, none, none, none, none, none], [])) (fnX10_spread_J51 v0 v1 v2 v3 v4) := by
  unfold fnX10_spread_J51
  refine sr_iload (i := 4) (q := 53) C (show decode cX10_spread 51 = .ok (.iload 4, 2) from by decide +kernel) rfl rfl ?_
  refine sr_istore (i := 5) (L' := [some (xad κ v0), some (.int v1), some (.int v2), some (.int v3), some (.int v4), some (.int v4), none, none, none, none, none, none]) (q := 55) C (show decode cX10_spread 53 = .ok (.istore 5, 2) from by decide +kernel) (by decide) rfl rfl ?_
  refine sr_iload_n (i := 2) (q := 56) C (show decode cX10_spread 55 = .ok (.iload_n 2, 1) from by decide +kernel) rfl rfl rfl ?_
  refine sr_istore (i := 6) (L' := [some (xad κ v0), some (.int v1), some (.int v2), some (.int v3), some (.int v4), some (.int v4), some (.int v2), none, none, none, none, none]) (q := 58) C (show decode cX10_spread 56 = .ok (.istore 6, 2) from by decide +kernel) (by decide) rfl rfl ?_
  refine sr_aload_n (i := 0) (q := 59) C (show decode cX10_spread 58 = .ok (.aload_n 0, 1) from by decide +kernel) rfl rfl rfl ?_
  refine sr_iload (i := 4) (q := 61) C (show decode cX10_spread 59 = .ok (.iload 4, 2) from by decide +kernel) rfl rfl ?_
  refine sr_cVi (As := [.int v4]) (st := []) (b := v0) (q := 64) C yvX10_least ml_X10_103 (cnX10_least (xo κ) v0 v4 hv0) hv0 (by decide) rfl rfl rfl (by decide) (by decide) (Nat.le_of_ble_eq_true rfl) rfl (show decode cX10_spread 61 = .ok (.invokevirtual 103, 3) from by decide +kernel) rfl (fun x61 => ?_)
  refine sr_istore (i := 7) (L' := [some (xad κ v0), some (.int v1), some (.int v2), some (.int v3), some (.int v4), some (.int v4), some (.int v2), some (.int x61), none, none, none, none]) (q := 66) C (show decode cX10_spread 64 = .ok (.istore 7, 2) from by decide +kernel) (by decide) rfl rfl ?_
  refine sr_iconst (v := (0 : Int32)) (q := 67) C (show decode cX10_spread 66 = .ok (.iconst 0, 1) from by decide +kernel) (by decide) rfl ?_
  refine sr_istore (i := 8) (L' := [some (xad κ v0), some (.int v1), some (.int v2), some (.int v3), some (.int v4), some (.int v4), some (.int v2), some (.int x61), some (.int (0 : Int32)), none, none, none]) (q := 69) C (show decode cX10_spread 67 = .ok (.istore 8, 2) from by decide +kernel) (by decide) rfl rfl ?_
  refine sr_weak (L' := [some (xad κ v0), some (.int v1), none, some (.int v3), none, some (.int v4), some (.int v2), some (.int x61), some (.int (0 : Int32)), none, none, none]) ⟨rfl, rfl, rfl, rfl, rfl, rfl, rfl, trivial⟩ ?_
  exact slX10_spread_L69 C 4096 v0 v1 v3 v4 v2 x61 (0 : Int32) hv0
def fnX10_spread_L13 : Nat → Nat → Int32 → Int32 → Int32 → Int32 → Int32 → sm_M Unit
  | 0, _, _, _, _, _, _ => m_fail
  | n + 1, v0, v1, v2, v3, v4, v5 => m_br (v5 = 0)
    (fnX10_spread_J51 v0 v1 v2 v3 v4)
    (m_bnd (fnJ6_numberOfTrailingZeros_0f7a4 v5) fun x20 => m_ai (lk v0 3) x20 fun x37 => m_sai (lk v0 4) x20 x37 <| m_nm (v5 &&& (v5 - (1 : Int32))) fun y46 => (fnX10_spread_L13 n) v0 v1 v2 v3 v4 y46)
set_option maxHeartbeats 4000000 in
set_option maxRecDepth 100000 in
theorem slX10_spread_L13 {κ : sm_X} (C : sm_C κ RX10 cX10_spread 12 3) : ∀ (n : Nat) (v0 : Nat) (v1 : Int32) (v2 : Int32) (v3 : Int32) (v4 : Int32) (v5 : Int32) (hv0 : kd v0 = 10), sm_S κ (fun _ : Unit => .inr none) (.inl (13, [some (xad κ v0), some (.int v1), some (.int v2), some (.int v3), some (.int v4), some (.int v5), none, none, none, none, none, none], [])) (fnX10_spread_L13 n v0 v1 v2 v3 v4 v5) := by
  intro n
  induction n with
  | zero =>
    intros
    exact sr_fail
  | succ n K13 =>
    intro v0 v1 v2 v3 v4 v5 hv0
    unfold fnX10_spread_L13
    refine sr_iload (i := 5) (q := 15) C (show decode cX10_spread 13 = .ok (.iload 5, 2) from by decide +kernel) rfl rfl ?_
    refine sr_if_eq (q := 18) C 51 (show decode cX10_spread 15 = .ok (.ifCond .eq 36, 3) from by decide +kernel) (by decide) rfl ?_ ?_
    · refine sr_weak (L' := [some (xad κ v0), some (.int v1), some (.int v2), some (.int v3), some (.int v4), none, none, none, none, none, none, none]) ⟨rfl, rfl, rfl, rfl, rfl, trivial⟩ ?_
      exact slX10_spread_J51 C v0 v1 v2 v3 v4 hv0
    · refine sr_iload (i := 5) (q := 20) C (show decode cX10_spread 18 = .ok (.iload 5, 2) from by decide +kernel) rfl rfl ?_
      refine sr_cSi (As := [.int v5]) (st := []) (q := 23) C ysJ6_numberOfTrailingZeros_0f7a4 ml_X10_98 (cnJ6_numberOfTrailingZeros_0f7a4 (xo κ) v5) rfl (by decide) (by decide) (Nat.le_of_ble_eq_true rfl) rfl (show decode cX10_spread 20 = .ok (.invokestatic 98, 3) from by decide +kernel) rfl (fun x20 => ?_)
      refine sr_istore (i := 6) (L' := [some (xad κ v0), some (.int v1), some (.int v2), some (.int v3), some (.int v4), some (.int v5), some (.int x20), none, none, none, none, none]) (q := 25) C (show decode cX10_spread 23 = .ok (.istore 6, 2) from by decide +kernel) (by decide) rfl rfl ?_
      refine sr_aload_n (i := 0) (q := 26) C (show decode cX10_spread 25 = .ok (.aload_n 0, 1) from by decide +kernel) rfl rfl rfl ?_
      refine sr_getr (q := 29) C fl_X10_18 hv0 (show decode cX10_spread 26 = .ok (.getfield 18, 3) from by decide +kernel) rfl ?_
      refine sr_iload (i := 6) (q := 31) C (show decode cX10_spread 29 = .ok (.iload 6, 2) from by decide +kernel) rfl rfl ?_
      refine sr_aload_n (i := 0) (q := 32) C (show decode cX10_spread 31 = .ok (.aload_n 0, 1) from by decide +kernel) rfl rfl rfl ?_
      refine sr_getr (q := 35) C fl_X10_15 hv0 (show decode cX10_spread 32 = .ok (.getfield 15, 3) from by decide +kernel) rfl ?_
      refine sr_iload (i := 6) (q := 37) C (show decode cX10_spread 35 = .ok (.iload 6, 2) from by decide +kernel) rfl rfl ?_
      refine sr_iaload (q := 38) C (kt hv0 kp_10_3) (show decode cX10_spread 37 = .ok (.iaload, 1) from by decide +kernel) rfl (fun x37 => ?_)
      refine sr_iastore (q := 39) C (kt hv0 kp_10_4) (show decode cX10_spread 38 = .ok (.iastore, 1) from by decide +kernel) rfl ?_
      refine sr_iload (i := 5) (q := 41) C (show decode cX10_spread 39 = .ok (.iload 5, 2) from by decide +kernel) rfl rfl ?_
      refine sr_iload (i := 5) (q := 43) C (show decode cX10_spread 41 = .ok (.iload 5, 2) from by decide +kernel) rfl rfl ?_
      refine sr_iconst (v := (1 : Int32)) (q := 44) C (show decode cX10_spread 43 = .ok (.iconst 1, 1) from by decide +kernel) (by decide) rfl ?_
      refine sr_isub (q := 45) C (show decode cX10_spread 44 = .ok (.isub, 1) from by decide +kernel) rfl ?_
      refine sr_iand (q := 46) C (show decode cX10_spread 45 = .ok (.iand, 1) from by decide +kernel) rfl ?_
      refine sr_nmi (fun y46 => ?_)
      refine sr_istore (i := 5) (L' := [some (xad κ v0), some (.int v1), some (.int v2), some (.int v3), some (.int v4), some (.int y46), some (.int x20), none, none, none, none, none]) (q := 48) C (show decode cX10_spread 46 = .ok (.istore 5, 2) from by decide +kernel) (by decide) rfl rfl ?_
      refine sr_goto (q := 13) C (show decode cX10_spread 48 = .ok (.goto (-35), 3) from by decide +kernel) (by decide) ?_
      refine sr_weak (L' := [some (xad κ v0), some (.int v1), some (.int v2), some (.int v3), some (.int v4), some (.int y46), none, none, none, none, none, none]) ⟨rfl, rfl, rfl, rfl, rfl, rfl, trivial⟩ ?_
      exact K13 v0 v1 v2 v3 v4 y46 hv0
def fnX10_spread (v0 : Nat) (v1 : Int32) (v2 : Int32) (v3 : Int32) (v4 : Int32) : sm_M Unit := m_bnd (fnJ7_fill_53178 (lk v0 4) (1048576 : Int32)) fun _ => fnX10_spread_L13 4096 v0 v1 v2 v3 v4 v4
set_option maxHeartbeats 4000000 in
set_option maxRecDepth 100000 in
theorem slX10_spread {κ : sm_X} (C : sm_C κ RX10 cX10_spread 12 3) (v0 : Nat) (v1 : Int32) (v2 : Int32) (v3 : Int32) (v4 : Int32) (hv0 : kd v0 = 10) : sm_S κ (fun _ : Unit => .inr none) (.inl (0, [some (xad κ v0), some (.int v1), some (.int v2), some (.int v3), some (.int v4), none, none, none, none, none, none, none], [])) (fnX10_spread v0 v1 v2 v3 v4) := by
  unfold fnX10_spread
  refine sr_aload_n (i := 0) (q := 1) C (show decode cX10_spread 0 = .ok (.aload_n 0, 1) from by decide +kernel) rfl rfl rfl ?_
  refine sr_getr (q := 4) C fl_X10_18 hv0 (show decode cX10_spread 1 = .ok (.getfield 18, 3) from by decide +kernel) rfl ?_
  refine sr_ldc (q := 6) C co_X10_97 (show decode cX10_spread 4 = .ok (.ldc 97, 2) from by decide +kernel) rfl ?_
  refine sr_cSv (As := [xad κ (lk v0 4), .int (1048576 : Int32)]) (st := []) (q := 9) C ysJ7_fill_53178 ml_X10_81 (cnJ7_fill_53178 (xo κ) (lk v0 4) (1048576 : Int32) (kt hv0 kp_10_4)) rfl (by decide) (by decide) (Nat.le_of_ble_eq_true rfl) rfl (show decode cX10_spread 6 = .ok (.invokestatic 81, 3) from by decide +kernel) rfl (fun _ => ?_)
  refine sr_iload (i := 4) (q := 11) C (show decode cX10_spread 9 = .ok (.iload 4, 2) from by decide +kernel) rfl rfl ?_
  refine sr_istore (i := 5) (L' := [some (xad κ v0), some (.int v1), some (.int v2), some (.int v3), some (.int v4), some (.int v4), none, none, none, none, none, none]) (q := 13) C (show decode cX10_spread 11 = .ok (.istore 5, 2) from by decide +kernel) (by decide) rfl rfl ?_
  exact slX10_spread_L13 C 4096 v0 v1 v2 v3 v4 v4 hv0
theorem cnX10_spread (ω : sm_O) (v0 : Nat) (v1 : Int32) (v2 : Int32) (v3 : Int32) (v4 : Int32) (hv0 : kd v0 = 10) : sm_Mt 3 yX10_spread cX10_spread 12 none ω [.ref (ω.1 + v0), .int v1, .int v2, .int v3, .int v4] (fun _ => none) (fnX10_spread v0 v1 v2 v3 v4) := by
  refine sm_conV (by decide) (Nat.le_of_ble_eq_true rfl) ?_
  intro κ hκ C
  subst hκ
  exact slX10_spread C v0 v1 v2 v3 v4 hv0
def fnX10_walk_J85 (k7 : Nat → Int32 → Int32 → Int32 → sm_M Unit) (v0 : Nat) (v1 : Int32) (v2 : Int32) (s0 : Int32) : sm_M Unit := k7 v0 v1 v2 s0
set_option maxHeartbeats 4000000 in
set_option maxRecDepth 100000 in
theorem slX10_walk_J85 {κ : sm_X} (C : sm_C κ RX10 cX10_walk 5 3) {k7 : Nat → Int32 → Int32 → Int32 → sm_M Unit} (K7 : ∀ (v0 : Nat) (v1 : Int32) (v2 : Int32) (v4 : Int32) (hv0 : kd v0 = 10), sm_S κ (fun _ : Unit => .inr none) (.inl (7, [some (xad κ v0), some (.int v1), some (.int v2), none, some (.int v4)], [])) (k7 v0 v1 v2 v4)) (v0 : Nat) (v1 : Int32) (v2 : Int32) (s0 : Int32) (hv0 : kd v0 = 10) : sm_S κ (fun _ : Unit => .inr none) (.inl (85, [some (xad κ v0), some (.int v1), some (.int v2), none, none], [.int s0])) (fnX10_walk_J85 k7 v0 v1 v2 s0) := by
  unfold fnX10_walk_J85
  refine sr_istore (i := 4) (L' := [some (xad κ v0), some (.int v1), some (.int v2), none, some (.int s0)]) (q := 87) C (show decode cX10_walk 85 = .ok (.istore 4, 2) from by decide +kernel) (by decide) rfl rfl ?_
  refine sr_goto (q := 7) C (show decode cX10_walk 87 = .ok (.goto (-80), 3) from by decide +kernel) (by decide) ?_
  exact K7 v0 v1 v2 s0 hv0
def fnX10_walk_L7 : Nat → Nat → Int32 → Int32 → Int32 → sm_M Unit
  | 0, _, _, _, _ => m_fail
  | n + 1, v0, v1, v2, v4 => m_br (v4 = (-1 : Int32))
    (m_ret ())
    (m_gi v0 1 fun x14 => m_br ((24 : Int32) ≤ x14)
    (m_ret ())
    (m_gi v0 1 fun x27 => m_sai (lk v0 0) x27 v4 <| m_gi v0 1 fun x35 => m_si v0 1 (x35 + (1 : Int32)) <| m_ai (lk v0 4) v4 fun x49 => m_ai (lk v0 3) v4 fun x56 => m_br (x49 ≤ x56)
    (fnX10_walk_J85 (fnX10_walk_L7 n) v0 v1 v2 (-1 : Int32))
    (m_ai (lk (lk v0 2) 2) ((v1 * (24 : Int32)) + v4) fun x75 => m_bnd (fnX10_least v0 (x75 &&& v2)) fun x78 => fnX10_walk_J85 (fnX10_walk_L7 n) v0 v1 v2 x78)))
set_option maxHeartbeats 4000000 in
set_option maxRecDepth 100000 in
theorem slX10_walk_L7 {κ : sm_X} (C : sm_C κ RX10 cX10_walk 5 3) : ∀ (n : Nat) (v0 : Nat) (v1 : Int32) (v2 : Int32) (v4 : Int32) (hv0 : kd v0 = 10), sm_S κ (fun _ : Unit => .inr none) (.inl (7, [some (xad κ v0), some (.int v1), some (.int v2), none, some (.int v4)], [])) (fnX10_walk_L7 n v0 v1 v2 v4) := by
  intro n
  induction n with
  | zero =>
    intros
    exact sr_fail
  | succ n K7 =>
    intro v0 v1 v2 v4 hv0
    unfold fnX10_walk_L7
    refine sr_iload (i := 4) (q := 9) C (show decode cX10_walk 7 = .ok (.iload 4, 2) from by decide +kernel) rfl rfl ?_
    refine sr_iconst (v := (-1 : Int32)) (q := 10) C (show decode cX10_walk 9 = .ok (.iconst (-1), 1) from by decide +kernel) (by decide) rfl ?_
    refine sr_icmp_eq (q := 13) C 90 (show decode cX10_walk 10 = .ok (.if_icmp .eq 80, 3) from by decide +kernel) (by decide) rfl ?_ ?_
    · exact sr_vreturn C _ rfl (show decode cX10_walk 90 = .ok (.return_, 1) from by decide +kernel)
    · refine sr_aload_n (i := 0) (q := 14) C (show decode cX10_walk 13 = .ok (.aload_n 0, 1) from by decide +kernel) rfl rfl rfl ?_
      refine sr_geti (q := 17) C fl_X10_28 (Or.inl rfl) hv0 (show decode cX10_walk 14 = .ok (.getfield 28, 3) from by decide +kernel) rfl (fun x14 => ?_)
      refine sr_bipush (v := (24 : Int32)) (q := 19) C (show decode cX10_walk 17 = .ok (.bipush 24, 2) from by decide +kernel) (by decide) rfl ?_
      refine sr_icmp_ge (q := 22) C 90 (show decode cX10_walk 19 = .ok (.if_icmp .ge 71, 3) from by decide +kernel) (by decide) rfl ?_ ?_
      · exact sr_vreturn C _ rfl (show decode cX10_walk 90 = .ok (.return_, 1) from by decide +kernel)
      · refine sr_aload_n (i := 0) (q := 23) C (show decode cX10_walk 22 = .ok (.aload_n 0, 1) from by decide +kernel) rfl rfl rfl ?_
        refine sr_getr (q := 26) C fl_X10_9 hv0 (show decode cX10_walk 23 = .ok (.getfield 9, 3) from by decide +kernel) rfl ?_
        refine sr_aload_n (i := 0) (q := 27) C (show decode cX10_walk 26 = .ok (.aload_n 0, 1) from by decide +kernel) rfl rfl rfl ?_
        refine sr_geti (q := 30) C fl_X10_28 (Or.inl rfl) hv0 (show decode cX10_walk 27 = .ok (.getfield 28, 3) from by decide +kernel) rfl (fun x27 => ?_)
        refine sr_iload (i := 4) (q := 32) C (show decode cX10_walk 30 = .ok (.iload 4, 2) from by decide +kernel) rfl rfl ?_
        refine sr_iastore (q := 33) C (kt hv0 kp_10_0) (show decode cX10_walk 32 = .ok (.iastore, 1) from by decide +kernel) rfl ?_
        refine sr_aload_n (i := 0) (q := 34) C (show decode cX10_walk 33 = .ok (.aload_n 0, 1) from by decide +kernel) rfl rfl rfl ?_
        refine sr_dup (q := 35) C (show decode cX10_walk 34 = .ok (.dup, 1) from by decide +kernel) rfl rfl ?_
        refine sr_geti (q := 38) C fl_X10_28 (Or.inl rfl) hv0 (show decode cX10_walk 35 = .ok (.getfield 28, 3) from by decide +kernel) rfl (fun x35 => ?_)
        refine sr_iconst (v := (1 : Int32)) (q := 39) C (show decode cX10_walk 38 = .ok (.iconst 1, 1) from by decide +kernel) (by decide) rfl ?_
        refine sr_iadd (q := 40) C (show decode cX10_walk 39 = .ok (.iadd, 1) from by decide +kernel) rfl ?_
        refine sr_puti (q := 43) C fp_X10_28 hv0 (show decode cX10_walk 40 = .ok (.putfield 28, 3) from by decide +kernel) rfl ?_
        refine sr_aload_n (i := 0) (q := 44) C (show decode cX10_walk 43 = .ok (.aload_n 0, 1) from by decide +kernel) rfl rfl rfl ?_
        refine sr_getr (q := 47) C fl_X10_18 hv0 (show decode cX10_walk 44 = .ok (.getfield 18, 3) from by decide +kernel) rfl ?_
        refine sr_iload (i := 4) (q := 49) C (show decode cX10_walk 47 = .ok (.iload 4, 2) from by decide +kernel) rfl rfl ?_
        refine sr_iaload (q := 50) C (kt hv0 kp_10_4) (show decode cX10_walk 49 = .ok (.iaload, 1) from by decide +kernel) rfl (fun x49 => ?_)
        refine sr_aload_n (i := 0) (q := 51) C (show decode cX10_walk 50 = .ok (.aload_n 0, 1) from by decide +kernel) rfl rfl rfl ?_
        refine sr_getr (q := 54) C fl_X10_15 hv0 (show decode cX10_walk 51 = .ok (.getfield 15, 3) from by decide +kernel) rfl ?_
        refine sr_iload (i := 4) (q := 56) C (show decode cX10_walk 54 = .ok (.iload 4, 2) from by decide +kernel) rfl rfl ?_
        refine sr_iaload (q := 57) C (kt hv0 kp_10_3) (show decode cX10_walk 56 = .ok (.iaload, 1) from by decide +kernel) rfl (fun x56 => ?_)
        refine sr_icmp_le (q := 60) C 84 (show decode cX10_walk 57 = .ok (.if_icmp .le 27, 3) from by decide +kernel) (by decide) rfl ?_ ?_
        · refine sr_iconst (v := (-1 : Int32)) (q := 85) C (show decode cX10_walk 84 = .ok (.iconst (-1), 1) from by decide +kernel) (by decide) rfl ?_
          refine sr_weak (L' := [some (xad κ v0), some (.int v1), some (.int v2), none, none]) ⟨rfl, rfl, rfl, trivial⟩ ?_
          exact slX10_walk_J85 C K7 v0 v1 v2 (-1 : Int32) hv0
        · refine sr_aload_n (i := 0) (q := 61) C (show decode cX10_walk 60 = .ok (.aload_n 0, 1) from by decide +kernel) rfl rfl rfl ?_
          refine sr_aload_n (i := 0) (q := 62) C (show decode cX10_walk 61 = .ok (.aload_n 0, 1) from by decide +kernel) rfl rfl rfl ?_
          refine sr_getr (q := 65) C fl_X10_24 hv0 (show decode cX10_walk 62 = .ok (.getfield 24, 3) from by decide +kernel) rfl ?_
          refine sr_getr (q := 68) C fl_X10_106 (kt hv0 kp_10_2) (show decode cX10_walk 65 = .ok (.getfield 106, 3) from by decide +kernel) rfl ?_
          refine sr_iload_n (i := 1) (q := 69) C (show decode cX10_walk 68 = .ok (.iload_n 1, 1) from by decide +kernel) rfl rfl rfl ?_
          refine sr_bipush (v := (24 : Int32)) (q := 71) C (show decode cX10_walk 69 = .ok (.bipush 24, 2) from by decide +kernel) (by decide) rfl ?_
          refine sr_imul (q := 72) C (show decode cX10_walk 71 = .ok (.imul, 1) from by decide +kernel) rfl ?_
          refine sr_iload (i := 4) (q := 74) C (show decode cX10_walk 72 = .ok (.iload 4, 2) from by decide +kernel) rfl rfl ?_
          refine sr_iadd (q := 75) C (show decode cX10_walk 74 = .ok (.iadd, 1) from by decide +kernel) rfl ?_
          refine sr_iaload (q := 76) C (kt (kt hv0 kp_10_2) kp_3_2) (show decode cX10_walk 75 = .ok (.iaload, 1) from by decide +kernel) rfl (fun x75 => ?_)
          refine sr_iload_n (i := 2) (q := 77) C (show decode cX10_walk 76 = .ok (.iload_n 2, 1) from by decide +kernel) rfl rfl rfl ?_
          refine sr_iand (q := 78) C (show decode cX10_walk 77 = .ok (.iand, 1) from by decide +kernel) rfl ?_
          refine sr_cVi (As := [.int (x75 &&& v2)]) (st := []) (b := v0) (q := 81) C yvX10_least ml_X10_103 (cnX10_least (xo κ) v0 (x75 &&& v2) hv0) hv0 (by decide) rfl rfl rfl (by decide) (by decide) (Nat.le_of_ble_eq_true rfl) rfl (show decode cX10_walk 78 = .ok (.invokevirtual 103, 3) from by decide +kernel) rfl (fun x78 => ?_)
          refine sr_goto (q := 85) C (show decode cX10_walk 81 = .ok (.goto 4, 3) from by decide +kernel) (by decide) ?_
          refine sr_weak (L' := [some (xad κ v0), some (.int v1), some (.int v2), none, none]) ⟨rfl, rfl, rfl, trivial⟩ ?_
          exact slX10_walk_J85 C K7 v0 v1 v2 x78 hv0
def fnX10_walk (v0 : Nat) (v1 : Int32) (v2 : Int32) (v3 : Int32) : sm_M Unit := m_bnd (fnX10_least v0 v3) fun x2 => fnX10_walk_L7 4096 v0 v1 v2 x2
set_option maxHeartbeats 4000000 in
set_option maxRecDepth 100000 in
theorem slX10_walk {κ : sm_X} (C : sm_C κ RX10 cX10_walk 5 3) (v0 : Nat) (v1 : Int32) (v2 : Int32) (v3 : Int32) (hv0 : kd v0 = 10) : sm_S κ (fun _ : Unit => .inr none) (.inl (0, [some (xad κ v0), some (.int v1), some (.int v2), some (.int v3), none], [])) (fnX10_walk v0 v1 v2 v3) := by
  unfold fnX10_walk
  refine sr_aload_n (i := 0) (q := 1) C (show decode cX10_walk 0 = .ok (.aload_n 0, 1) from by decide +kernel) rfl rfl rfl ?_
  refine sr_iload_n (i := 3) (q := 2) C (show decode cX10_walk 1 = .ok (.iload_n 3, 1) from by decide +kernel) rfl rfl rfl ?_
  refine sr_cVi (As := [.int v3]) (st := []) (b := v0) (q := 5) C yvX10_least ml_X10_103 (cnX10_least (xo κ) v0 v3 hv0) hv0 (by decide) rfl rfl rfl (by decide) (by decide) (Nat.le_of_ble_eq_true rfl) rfl (show decode cX10_walk 2 = .ok (.invokevirtual 103, 3) from by decide +kernel) rfl (fun x2 => ?_)
  refine sr_istore (i := 4) (L' := [some (xad κ v0), some (.int v1), some (.int v2), some (.int v3), some (.int x2)]) (q := 7) C (show decode cX10_walk 5 = .ok (.istore 4, 2) from by decide +kernel) (by decide) rfl rfl ?_
  refine sr_weak (L' := [some (xad κ v0), some (.int v1), some (.int v2), none, some (.int x2)]) ⟨rfl, rfl, rfl, rfl, trivial⟩ ?_
  exact slX10_walk_L7 C 4096 v0 v1 v2 x2 hv0
theorem cnX10_walk (ω : sm_O) (v0 : Nat) (v1 : Int32) (v2 : Int32) (v3 : Int32) (hv0 : kd v0 = 10) : sm_Mt 3 yX10_walk cX10_walk 5 none ω [.ref (ω.1 + v0), .int v1, .int v2, .int v3] (fun _ => none) (fnX10_walk v0 v1 v2 v3) := by
  refine sm_conV (by decide) (Nat.le_of_ble_eq_true rfl) ?_
  intro κ hκ C
  subst hκ
  exact slX10_walk C v0 v1 v2 v3 hv0
def fnX10_seek_J122 (v0 : Nat) (v1 : Nat) (v2 : Int32) (v4 : Int32) (v6 : Int32) (v7 : Int32) (v8 : Int32) : sm_M Int32 := m_bnd (fnX10_putCosts v0 v1 v4) fun _ => m_bnd (fnX10_spread v0 v2 v6 v7 (v8 &&& v6)) fun _ => m_bnd (fnX10_walk v0 v2 v6 (v7 &&& v6)) fun _ => m_gi v0 1 fun x156 => m_br (x156 = 0)
    (m_ret (-1 : Int32))
    (m_gi v0 1 fun x167 => m_ret x167)
set_option maxHeartbeats 4000000 in
set_option maxRecDepth 100000 in
theorem slX10_seek_J122 {κ : sm_X} (C : sm_C κ RX10 cX10_seek 9 4) (v0 : Nat) (v1 : Nat) (v2 : Int32) (v4 : Int32) (v6 : Int32) (v7 : Int32) (v8 : Int32) (hv0 : kd v0 = 10) (hv1 : kd v1 = 9) : sm_S κ (fun r : Int32 => .inr (some (.int r))) (.inl (122, [some (xad κ v0), some (xad κ v1), some (.int v2), none, some (.int v4), none, some (.int v6), some (.int v7), some (.int v8)], [])) (fnX10_seek_J122 v0 v1 v2 v4 v6 v7 v8) := by
  unfold fnX10_seek_J122
  refine sr_aload_n (i := 0) (q := 123) C (show decode cX10_seek 122 = .ok (.aload_n 0, 1) from by decide +kernel) rfl rfl rfl ?_
  refine sr_aload_n (i := 1) (q := 124) C (show decode cX10_seek 123 = .ok (.aload_n 1, 1) from by decide +kernel) rfl rfl rfl ?_
  refine sr_iload (i := 4) (q := 126) C (show decode cX10_seek 124 = .ok (.iload 4, 2) from by decide +kernel) rfl rfl ?_
  refine sr_cVv (As := [xad κ v1, .int v4]) (st := []) (b := v0) (q := 129) C yvX10_putCosts ml_X10_59 (cnX10_putCosts (xo κ) v0 v1 v4 hv0 hv1) hv0 (by decide) rfl rfl rfl (by decide) (by decide) (Nat.le_of_ble_eq_true rfl) rfl (show decode cX10_seek 126 = .ok (.invokevirtual 59, 3) from by decide +kernel) rfl (fun _ => ?_)
  refine sr_aload_n (i := 0) (q := 130) C (show decode cX10_seek 129 = .ok (.aload_n 0, 1) from by decide +kernel) rfl rfl rfl ?_
  refine sr_iload_n (i := 2) (q := 131) C (show decode cX10_seek 130 = .ok (.iload_n 2, 1) from by decide +kernel) rfl rfl rfl ?_
  refine sr_iload (i := 6) (q := 133) C (show decode cX10_seek 131 = .ok (.iload 6, 2) from by decide +kernel) rfl rfl ?_
  refine sr_iload (i := 7) (q := 135) C (show decode cX10_seek 133 = .ok (.iload 7, 2) from by decide +kernel) rfl rfl ?_
  refine sr_iload (i := 8) (q := 137) C (show decode cX10_seek 135 = .ok (.iload 8, 2) from by decide +kernel) rfl rfl ?_
  refine sr_iload (i := 6) (q := 139) C (show decode cX10_seek 137 = .ok (.iload 6, 2) from by decide +kernel) rfl rfl ?_
  refine sr_iand (q := 140) C (show decode cX10_seek 139 = .ok (.iand, 1) from by decide +kernel) rfl ?_
  refine sr_cVv (As := [.int v2, .int v6, .int v7, .int (v8 &&& v6)]) (st := []) (b := v0) (q := 143) C yvX10_spread ml_X10_63 (cnX10_spread (xo κ) v0 v2 v6 v7 (v8 &&& v6) hv0) hv0 (by decide) rfl rfl rfl (by decide) (by decide) (Nat.le_of_ble_eq_true rfl) rfl (show decode cX10_seek 140 = .ok (.invokevirtual 63, 3) from by decide +kernel) rfl (fun _ => ?_)
  refine sr_aload_n (i := 0) (q := 144) C (show decode cX10_seek 143 = .ok (.aload_n 0, 1) from by decide +kernel) rfl rfl rfl ?_
  refine sr_iload_n (i := 2) (q := 145) C (show decode cX10_seek 144 = .ok (.iload_n 2, 1) from by decide +kernel) rfl rfl rfl ?_
  refine sr_iload (i := 6) (q := 147) C (show decode cX10_seek 145 = .ok (.iload 6, 2) from by decide +kernel) rfl rfl ?_
  refine sr_iload (i := 7) (q := 149) C (show decode cX10_seek 147 = .ok (.iload 7, 2) from by decide +kernel) rfl rfl ?_
  refine sr_iload (i := 6) (q := 151) C (show decode cX10_seek 149 = .ok (.iload 6, 2) from by decide +kernel) rfl rfl ?_
  refine sr_iand (q := 152) C (show decode cX10_seek 151 = .ok (.iand, 1) from by decide +kernel) rfl ?_
  refine sr_cVv (As := [.int v2, .int v6, .int (v7 &&& v6)]) (st := []) (b := v0) (q := 155) C yvX10_walk ml_X10_67 (cnX10_walk (xo κ) v0 v2 v6 (v7 &&& v6) hv0) hv0 (by decide) rfl rfl rfl (by decide) (by decide) (Nat.le_of_ble_eq_true rfl) rfl (show decode cX10_seek 152 = .ok (.invokevirtual 67, 3) from by decide +kernel) rfl (fun _ => ?_)
  refine sr_aload_n (i := 0) (q := 156) C (show decode cX10_seek 155 = .ok (.aload_n 0, 1) from by decide +kernel) rfl rfl rfl ?_
  refine sr_geti (q := 159) C fl_X10_28 (Or.inl rfl) hv0 (show decode cX10_seek 156 = .ok (.getfield 28, 3) from by decide +kernel) rfl (fun x156 => ?_)
  refine sr_if_ne (q := 162) C 166 (show decode cX10_seek 159 = .ok (.ifCond .ne 7, 3) from by decide +kernel) (by decide) rfl ?_ ?_
  · refine sr_aload_n (i := 0) (q := 167) C (show decode cX10_seek 166 = .ok (.aload_n 0, 1) from by decide +kernel) rfl rfl rfl ?_
    refine sr_geti (q := 170) C fl_X10_28 (Or.inl rfl) hv0 (show decode cX10_seek 167 = .ok (.getfield 28, 3) from by decide +kernel) rfl (fun x167 => ?_)
    exact sr_ireturn C _ rfl (show decode cX10_seek 170 = .ok (.ireturn, 1) from by decide +kernel)
  · refine sr_iconst (v := (-1 : Int32)) (q := 163) C (show decode cX10_seek 162 = .ok (.iconst (-1), 1) from by decide +kernel) (by decide) rfl ?_
    refine sr_goto (q := 170) C (show decode cX10_seek 163 = .ok (.goto 7, 3) from by decide +kernel) (by decide) ?_
    exact sr_ireturn C _ rfl (show decode cX10_seek 170 = .ok (.ireturn, 1) from by decide +kernel)
def fnX10_seek_J83 (v0 : Nat) (v1 : Nat) (v2 : Int32) (v4 : Int32) (v6 : Int32) (v7 : Int32) (s0 : Int32) : sm_M Int32 := m_br ((v7 &&& v6) = 0)
    (m_ret (-1 : Int32))
    (m_br ((s0 &&& v6) = 0)
    (m_ret (-1 : Int32))
    (m_br (v4 = (1 : Int32))
    (m_bnd (fnX9_openFor v1 (1 : Int32)) fun x116 => m_bnd (fnX10_putReached v0 (lk v1 0) x116) fun _ => fnX10_seek_J122 v0 v1 v2 v4 v6 v7 s0)
    (fnX10_seek_J122 v0 v1 v2 v4 v6 v7 s0)))
set_option maxHeartbeats 4000000 in
set_option maxRecDepth 100000 in
theorem slX10_seek_J83 {κ : sm_X} (C : sm_C κ RX10 cX10_seek 9 4) (v0 : Nat) (v1 : Nat) (v2 : Int32) (v4 : Int32) (v6 : Int32) (v7 : Int32) (s0 : Int32) (hv0 : kd v0 = 10) (hv1 : kd v1 = 9) : sm_S κ (fun r : Int32 => .inr (some (.int r))) (.inl (83, [some (xad κ v0), some (xad κ v1), some (.int v2), none, some (.int v4), none, some (.int v6), some (.int v7), none], [.int s0])) (fnX10_seek_J83 v0 v1 v2 v4 v6 v7 s0) := by
  unfold fnX10_seek_J83
  refine sr_istore (i := 8) (L' := [some (xad κ v0), some (xad κ v1), some (.int v2), none, some (.int v4), none, some (.int v6), some (.int v7), some (.int s0)]) (q := 85) C (show decode cX10_seek 83 = .ok (.istore 8, 2) from by decide +kernel) (by decide) rfl rfl ?_
  refine sr_iload (i := 7) (q := 87) C (show decode cX10_seek 85 = .ok (.iload 7, 2) from by decide +kernel) rfl rfl ?_
  refine sr_iload (i := 6) (q := 89) C (show decode cX10_seek 87 = .ok (.iload 6, 2) from by decide +kernel) rfl rfl ?_
  refine sr_iand (q := 90) C (show decode cX10_seek 89 = .ok (.iand, 1) from by decide +kernel) rfl ?_
  refine sr_if_eq (q := 93) C 101 (show decode cX10_seek 90 = .ok (.ifCond .eq 11, 3) from by decide +kernel) (by decide) rfl ?_ ?_
  · refine sr_iconst (v := (-1 : Int32)) (q := 102) C (show decode cX10_seek 101 = .ok (.iconst (-1), 1) from by decide +kernel) (by decide) rfl ?_
    exact sr_ireturn C _ rfl (show decode cX10_seek 102 = .ok (.ireturn, 1) from by decide +kernel)
  · refine sr_iload (i := 8) (q := 95) C (show decode cX10_seek 93 = .ok (.iload 8, 2) from by decide +kernel) rfl rfl ?_
    refine sr_iload (i := 6) (q := 97) C (show decode cX10_seek 95 = .ok (.iload 6, 2) from by decide +kernel) rfl rfl ?_
    refine sr_iand (q := 98) C (show decode cX10_seek 97 = .ok (.iand, 1) from by decide +kernel) rfl ?_
    refine sr_if_ne (q := 101) C 103 (show decode cX10_seek 98 = .ok (.ifCond .ne 5, 3) from by decide +kernel) (by decide) rfl ?_ ?_
    · refine sr_iload (i := 4) (q := 105) C (show decode cX10_seek 103 = .ok (.iload 4, 2) from by decide +kernel) rfl rfl ?_
      refine sr_iconst (v := (1 : Int32)) (q := 106) C (show decode cX10_seek 105 = .ok (.iconst 1, 1) from by decide +kernel) (by decide) rfl ?_
      refine sr_icmp_ne (q := 109) C 122 (show decode cX10_seek 106 = .ok (.if_icmp .ne 16, 3) from by decide +kernel) (by decide) rfl ?_ ?_
      · exact slX10_seek_J122 C v0 v1 v2 v4 v6 v7 s0 hv0 hv1
      · refine sr_aload_n (i := 0) (q := 110) C (show decode cX10_seek 109 = .ok (.aload_n 0, 1) from by decide +kernel) rfl rfl rfl ?_
        refine sr_aload_n (i := 1) (q := 111) C (show decode cX10_seek 110 = .ok (.aload_n 1, 1) from by decide +kernel) rfl rfl rfl ?_
        refine sr_getr (q := 114) C fl_X10_32 hv1 (show decode cX10_seek 111 = .ok (.getfield 32, 3) from by decide +kernel) rfl ?_
        refine sr_aload_n (i := 1) (q := 115) C (show decode cX10_seek 114 = .ok (.aload_n 1, 1) from by decide +kernel) rfl rfl rfl ?_
        refine sr_iconst (v := (1 : Int32)) (q := 116) C (show decode cX10_seek 115 = .ok (.iconst 1, 1) from by decide +kernel) (by decide) rfl ?_
        refine sr_cVi (As := [.int (1 : Int32)]) (st := [xad κ (lk v1 0), xad κ v0]) (b := v1) (q := 119) C yvX9_openFor ml_X10_43 (cnX9_openFor (xo κ) v1 (1 : Int32) hv1) hv1 (by decide) rfl rfl rfl (by decide) (by decide) (Nat.le_of_ble_eq_true rfl) rfl (show decode cX10_seek 116 = .ok (.invokevirtual 43, 3) from by decide +kernel) rfl (fun x116 => ?_)
        refine sr_cVv (As := [xad κ (lk v1 0), .int x116]) (st := []) (b := v0) (q := 122) C yvX10_putReached ml_X10_55 (cnX10_putReached (xo κ) v0 (lk v1 0) x116 hv0 (kt hv1 kp_9_0)) hv0 (by decide) rfl rfl rfl (by decide) (by decide) (Nat.le_of_ble_eq_true rfl) rfl (show decode cX10_seek 119 = .ok (.invokevirtual 55, 3) from by decide +kernel) rfl (fun _ => ?_)
        exact slX10_seek_J122 C v0 v1 v2 v4 v6 v7 s0 hv0 hv1
    · refine sr_iconst (v := (-1 : Int32)) (q := 102) C (show decode cX10_seek 101 = .ok (.iconst (-1), 1) from by decide +kernel) (by decide) rfl ?_
      exact sr_ireturn C _ rfl (show decode cX10_seek 102 = .ok (.ireturn, 1) from by decide +kernel)
def fnX10_seek_J53 (v0 : Nat) (v1 : Nat) (v2 : Int32) (v4 : Int32) (v5 : Int32) (v6 : Int32) (s0 : Int32) : sm_M Int32 := m_br (v5 = (98 : Int32))
    (m_ai (lk (lk v0 2) 1) v2 fun x70 => fnX10_seek_J83 v0 v1 v2 v4 v6 s0 x70)
    (m_ai (lk (lk v0 2) 0) v2 fun x82 => fnX10_seek_J83 v0 v1 v2 v4 v6 s0 x82)
set_option maxHeartbeats 4000000 in
set_option maxRecDepth 100000 in
theorem slX10_seek_J53 {κ : sm_X} (C : sm_C κ RX10 cX10_seek 9 4) (v0 : Nat) (v1 : Nat) (v2 : Int32) (v4 : Int32) (v5 : Int32) (v6 : Int32) (s0 : Int32) (hv0 : kd v0 = 10) (hv1 : kd v1 = 9) : sm_S κ (fun r : Int32 => .inr (some (.int r))) (.inl (53, [some (xad κ v0), some (xad κ v1), some (.int v2), none, some (.int v4), some (.int v5), some (.int v6), none, none], [.int s0])) (fnX10_seek_J53 v0 v1 v2 v4 v5 v6 s0) := by
  unfold fnX10_seek_J53
  refine sr_istore (i := 7) (L' := [some (xad κ v0), some (xad κ v1), some (.int v2), none, some (.int v4), some (.int v5), some (.int v6), some (.int s0), none]) (q := 55) C (show decode cX10_seek 53 = .ok (.istore 7, 2) from by decide +kernel) (by decide) rfl rfl ?_
  refine sr_iload (i := 5) (q := 57) C (show decode cX10_seek 55 = .ok (.iload 5, 2) from by decide +kernel) rfl rfl ?_
  refine sr_bipush (v := (98 : Int32)) (q := 59) C (show decode cX10_seek 57 = .ok (.bipush 98, 2) from by decide +kernel) (by decide) rfl ?_
  refine sr_icmp_ne (q := 62) C 74 (show decode cX10_seek 59 = .ok (.if_icmp .ne 15, 3) from by decide +kernel) (by decide) rfl ?_ ?_
  · refine sr_aload_n (i := 0) (q := 75) C (show decode cX10_seek 74 = .ok (.aload_n 0, 1) from by decide +kernel) rfl rfl rfl ?_
    refine sr_getr (q := 78) C fl_X10_24 hv0 (show decode cX10_seek 75 = .ok (.getfield 24, 3) from by decide +kernel) rfl ?_
    refine sr_getr (q := 81) C fl_X10_47 (kt hv0 kp_10_2) (show decode cX10_seek 78 = .ok (.getfield 47, 3) from by decide +kernel) rfl ?_
    refine sr_iload_n (i := 2) (q := 82) C (show decode cX10_seek 81 = .ok (.iload_n 2, 1) from by decide +kernel) rfl rfl rfl ?_
    refine sr_iaload (q := 83) C (kt (kt hv0 kp_10_2) kp_3_0) (show decode cX10_seek 82 = .ok (.iaload, 1) from by decide +kernel) rfl (fun x82 => ?_)
    refine sr_weak (L' := [some (xad κ v0), some (xad κ v1), some (.int v2), none, some (.int v4), none, some (.int v6), some (.int s0), none]) ⟨rfl, rfl, rfl, rfl, rfl, rfl, trivial⟩ ?_
    exact slX10_seek_J83 C v0 v1 v2 v4 v6 s0 x82 hv0 hv1
  · refine sr_aload_n (i := 0) (q := 63) C (show decode cX10_seek 62 = .ok (.aload_n 0, 1) from by decide +kernel) rfl rfl rfl ?_
    refine sr_getr (q := 66) C fl_X10_24 hv0 (show decode cX10_seek 63 = .ok (.getfield 24, 3) from by decide +kernel) rfl ?_
    refine sr_getr (q := 69) C fl_X10_52 (kt hv0 kp_10_2) (show decode cX10_seek 66 = .ok (.getfield 52, 3) from by decide +kernel) rfl ?_
    refine sr_iload_n (i := 2) (q := 70) C (show decode cX10_seek 69 = .ok (.iload_n 2, 1) from by decide +kernel) rfl rfl rfl ?_
    refine sr_iaload (q := 71) C (kt (kt hv0 kp_10_2) kp_3_1) (show decode cX10_seek 70 = .ok (.iaload, 1) from by decide +kernel) rfl (fun x70 => ?_)
    refine sr_goto (q := 83) C (show decode cX10_seek 71 = .ok (.goto 12, 3) from by decide +kernel) (by decide) ?_
    refine sr_weak (L' := [some (xad κ v0), some (xad κ v1), some (.int v2), none, some (.int v4), none, some (.int v6), some (.int s0), none]) ⟨rfl, rfl, rfl, rfl, rfl, rfl, trivial⟩ ?_
    exact slX10_seek_J83 C v0 v1 v2 v4 v6 s0 x70 hv0 hv1
def fnX10_seek (v0 : Nat) (v1 : Nat) (v2 : Int32) (v3 : Int32) (v4 : Int32) (v5 : Int32) : sm_M Int32 := m_si v0 1 (0 : Int32) <| m_gi (lk v1 0) 1 fun x10 => m_br (v2 < x10)
    (m_bnd (fnX9_openFor v1 v3) fun x20 => m_br (v5 = (98 : Int32))
    (m_ai (lk (lk v0 2) 0) v2 fun x40 => fnX10_seek_J53 v0 v1 v2 v4 v5 x20 x40)
    (m_ai (lk (lk v0 2) 1) v2 fun x52 => fnX10_seek_J53 v0 v1 v2 v4 v5 x20 x52))
    (m_ret (0 : Int32))
set_option maxHeartbeats 4000000 in
set_option maxRecDepth 100000 in
theorem slX10_seek {κ : sm_X} (C : sm_C κ RX10 cX10_seek 9 4) (v0 : Nat) (v1 : Nat) (v2 : Int32) (v3 : Int32) (v4 : Int32) (v5 : Int32) (hv0 : kd v0 = 10) (hv1 : kd v1 = 9) : sm_S κ (fun r : Int32 => .inr (some (.int r))) (.inl (0, [some (xad κ v0), some (xad κ v1), some (.int v2), some (.int v3), some (.int v4), some (.int v5), none, none, none], [])) (fnX10_seek v0 v1 v2 v3 v4 v5) := by
  unfold fnX10_seek
  refine sr_aload_n (i := 0) (q := 1) C (show decode cX10_seek 0 = .ok (.aload_n 0, 1) from by decide +kernel) rfl rfl rfl ?_
  refine sr_iconst (v := (0 : Int32)) (q := 2) C (show decode cX10_seek 1 = .ok (.iconst 0, 1) from by decide +kernel) (by decide) rfl ?_
  refine sr_puti (q := 5) C fp_X10_28 hv0 (show decode cX10_seek 2 = .ok (.putfield 28, 3) from by decide +kernel) rfl ?_
  refine sr_iload_n (i := 2) (q := 6) C (show decode cX10_seek 5 = .ok (.iload_n 2, 1) from by decide +kernel) rfl rfl rfl ?_
  refine sr_aload_n (i := 1) (q := 7) C (show decode cX10_seek 6 = .ok (.aload_n 1, 1) from by decide +kernel) rfl rfl rfl ?_
  refine sr_getr (q := 10) C fl_X10_32 hv1 (show decode cX10_seek 7 = .ok (.getfield 32, 3) from by decide +kernel) rfl ?_
  refine sr_geti (q := 13) C fl_X10_38 (Or.inl rfl) (kt hv1 kp_9_0) (show decode cX10_seek 10 = .ok (.getfield 38, 3) from by decide +kernel) rfl (fun x10 => ?_)
  refine sr_icmp_lt (q := 16) C 18 (show decode cX10_seek 13 = .ok (.if_icmp .lt 5, 3) from by decide +kernel) (by decide) rfl ?_ ?_
  · refine sr_aload_n (i := 1) (q := 19) C (show decode cX10_seek 18 = .ok (.aload_n 1, 1) from by decide +kernel) rfl rfl rfl ?_
    refine sr_iload_n (i := 3) (q := 20) C (show decode cX10_seek 19 = .ok (.iload_n 3, 1) from by decide +kernel) rfl rfl rfl ?_
    refine sr_cVi (As := [.int v3]) (st := []) (b := v1) (q := 23) C yvX9_openFor ml_X10_43 (cnX9_openFor (xo κ) v1 v3 hv1) hv1 (by decide) rfl rfl rfl (by decide) (by decide) (Nat.le_of_ble_eq_true rfl) rfl (show decode cX10_seek 20 = .ok (.invokevirtual 43, 3) from by decide +kernel) rfl (fun x20 => ?_)
    refine sr_istore (i := 6) (L' := [some (xad κ v0), some (xad κ v1), some (.int v2), some (.int v3), some (.int v4), some (.int v5), some (.int x20), none, none]) (q := 25) C (show decode cX10_seek 23 = .ok (.istore 6, 2) from by decide +kernel) (by decide) rfl rfl ?_
    refine sr_iload (i := 5) (q := 27) C (show decode cX10_seek 25 = .ok (.iload 5, 2) from by decide +kernel) rfl rfl ?_
    refine sr_bipush (v := (98 : Int32)) (q := 29) C (show decode cX10_seek 27 = .ok (.bipush 98, 2) from by decide +kernel) (by decide) rfl ?_
    refine sr_icmp_ne (q := 32) C 44 (show decode cX10_seek 29 = .ok (.if_icmp .ne 15, 3) from by decide +kernel) (by decide) rfl ?_ ?_
    · refine sr_aload_n (i := 0) (q := 45) C (show decode cX10_seek 44 = .ok (.aload_n 0, 1) from by decide +kernel) rfl rfl rfl ?_
      refine sr_getr (q := 48) C fl_X10_24 hv0 (show decode cX10_seek 45 = .ok (.getfield 24, 3) from by decide +kernel) rfl ?_
      refine sr_getr (q := 51) C fl_X10_52 (kt hv0 kp_10_2) (show decode cX10_seek 48 = .ok (.getfield 52, 3) from by decide +kernel) rfl ?_
      refine sr_iload_n (i := 2) (q := 52) C (show decode cX10_seek 51 = .ok (.iload_n 2, 1) from by decide +kernel) rfl rfl rfl ?_
      refine sr_iaload (q := 53) C (kt (kt hv0 kp_10_2) kp_3_1) (show decode cX10_seek 52 = .ok (.iaload, 1) from by decide +kernel) rfl (fun x52 => ?_)
      refine sr_weak (L' := [some (xad κ v0), some (xad κ v1), some (.int v2), none, some (.int v4), some (.int v5), some (.int x20), none, none]) ⟨rfl, rfl, rfl, rfl, rfl, rfl, trivial⟩ ?_
      exact slX10_seek_J53 C v0 v1 v2 v4 v5 x20 x52 hv0 hv1
    · refine sr_aload_n (i := 0) (q := 33) C (show decode cX10_seek 32 = .ok (.aload_n 0, 1) from by decide +kernel) rfl rfl rfl ?_
      refine sr_getr (q := 36) C fl_X10_24 hv0 (show decode cX10_seek 33 = .ok (.getfield 24, 3) from by decide +kernel) rfl ?_
      refine sr_getr (q := 39) C fl_X10_47 (kt hv0 kp_10_2) (show decode cX10_seek 36 = .ok (.getfield 47, 3) from by decide +kernel) rfl ?_
      refine sr_iload_n (i := 2) (q := 40) C (show decode cX10_seek 39 = .ok (.iload_n 2, 1) from by decide +kernel) rfl rfl rfl ?_
      refine sr_iaload (q := 41) C (kt (kt hv0 kp_10_2) kp_3_0) (show decode cX10_seek 40 = .ok (.iaload, 1) from by decide +kernel) rfl (fun x40 => ?_)
      refine sr_goto (q := 53) C (show decode cX10_seek 41 = .ok (.goto 12, 3) from by decide +kernel) (by decide) ?_
      refine sr_weak (L' := [some (xad κ v0), some (xad κ v1), some (.int v2), none, some (.int v4), some (.int v5), some (.int x20), none, none]) ⟨rfl, rfl, rfl, rfl, rfl, rfl, trivial⟩ ?_
      exact slX10_seek_J53 C v0 v1 v2 v4 v5 x20 x40 hv0 hv1
  · refine sr_iconst (v := (0 : Int32)) (q := 17) C (show decode cX10_seek 16 = .ok (.iconst 0, 1) from by decide +kernel) (by decide) rfl ?_
    exact sr_ireturn C _ rfl (show decode cX10_seek 17 = .ok (.ireturn, 1) from by decide +kernel)
theorem cnX10_seek (ω : sm_O) (v0 : Nat) (v1 : Nat) (v2 : Int32) (v3 : Int32) (v4 : Int32) (v5 : Int32) (hv0 : kd v0 = 10) (hv1 : kd v1 = 9) : sm_Mt 4 yX10_seek cX10_seek 9 (some .int) ω [.ref (ω.1 + v0), .ref (ω.1 + v1), .int v2, .int v3, .int v4, .int v5] (fun a => some (.int a)) (fnX10_seek v0 v1 v2 v3 v4 v5) := by
  refine sm_conI (r := fun a => a) (by decide) (fun _ => rfl) (Nat.le_of_ble_eq_true rfl) ?_
  intro κ hκ C
  subst hκ
  exact slX10_seek C v0 v1 v2 v3 v4 v5 hv0 hv1
def fnX10_wear_L2 : Nat → Nat → Nat → Int32 → Int32 → sm_M Unit
  | 0, _, _, _, _ => m_fail
  | n + 1, v0, v1, v2, v3 => m_gi v0 1 fun x4 => m_br (x4 ≤ v3)
    (m_ret ())
    (m_ai (lk v0 0) v3 fun x19 => m_ai (lk v1 2) x19 fun x21 => m_sai (lk v1 2) x19 (x21 + v2) <| (fnX10_wear_L2 n) v0 v1 v2 (v3 + (1 : Int32)))
set_option maxHeartbeats 4000000 in
set_option maxRecDepth 100000 in
theorem slX10_wear_L2 {κ : sm_X} (C : sm_C κ RX10 cX10_wear 4 1) : ∀ (n : Nat) (v0 : Nat) (v1 : Nat) (v2 : Int32) (v3 : Int32) (hv0 : kd v0 = 10) (hv1 : kd v1 = 9), sm_S κ (fun _ : Unit => .inr none) (.inl (2, [some (xad κ v0), some (xad κ v1), some (.int v2), some (.int v3)], [])) (fnX10_wear_L2 n v0 v1 v2 v3) := by
  intro n
  induction n with
  | zero =>
    intros
    exact sr_fail
  | succ n K2 =>
    intro v0 v1 v2 v3 hv0 hv1
    unfold fnX10_wear_L2
    refine sr_iload_n (i := 3) (q := 3) C (show decode cX10_wear 2 = .ok (.iload_n 3, 1) from by decide +kernel) rfl rfl rfl ?_
    refine sr_aload_n (i := 0) (q := 4) C (show decode cX10_wear 3 = .ok (.aload_n 0, 1) from by decide +kernel) rfl rfl rfl ?_
    refine sr_geti (q := 7) C fl_X10_28 (Or.inl rfl) hv0 (show decode cX10_wear 4 = .ok (.getfield 28, 3) from by decide +kernel) rfl (fun x4 => ?_)
    refine sr_icmp_ge (q := 10) C 31 (show decode cX10_wear 7 = .ok (.if_icmp .ge 24, 3) from by decide +kernel) (by decide) rfl ?_ ?_
    · exact sr_vreturn C _ rfl (show decode cX10_wear 31 = .ok (.return_, 1) from by decide +kernel)
    · refine sr_aload_n (i := 1) (q := 11) C (show decode cX10_wear 10 = .ok (.aload_n 1, 1) from by decide +kernel) rfl rfl rfl ?_
      refine sr_getr (q := 14) C fl_X10_114 hv1 (show decode cX10_wear 11 = .ok (.getfield 114, 3) from by decide +kernel) rfl ?_
      refine sr_aload_n (i := 0) (q := 15) C (show decode cX10_wear 14 = .ok (.aload_n 0, 1) from by decide +kernel) rfl rfl rfl ?_
      refine sr_getr (q := 18) C fl_X10_9 hv0 (show decode cX10_wear 15 = .ok (.getfield 9, 3) from by decide +kernel) rfl ?_
      refine sr_iload_n (i := 3) (q := 19) C (show decode cX10_wear 18 = .ok (.iload_n 3, 1) from by decide +kernel) rfl rfl rfl ?_
      refine sr_iaload (q := 20) C (kt hv0 kp_10_0) (show decode cX10_wear 19 = .ok (.iaload, 1) from by decide +kernel) rfl (fun x19 => ?_)
      refine sr_dup2 (q := 21) C (show decode cX10_wear 20 = .ok (.dup2, 1) from by decide +kernel) rfl rfl rfl ?_
      refine sr_iaload (q := 22) C (kt hv1 kp_9_2) (show decode cX10_wear 21 = .ok (.iaload, 1) from by decide +kernel) rfl (fun x21 => ?_)
      refine sr_iload_n (i := 2) (q := 23) C (show decode cX10_wear 22 = .ok (.iload_n 2, 1) from by decide +kernel) rfl rfl rfl ?_
      refine sr_iadd (q := 24) C (show decode cX10_wear 23 = .ok (.iadd, 1) from by decide +kernel) rfl ?_
      refine sr_iastore (q := 25) C (kt hv1 kp_9_2) (show decode cX10_wear 24 = .ok (.iastore, 1) from by decide +kernel) rfl ?_
      refine sr_iinc (v := v3 + (1 : Int32)) (L' := [some (xad κ v0), some (xad κ v1), some (.int v2), some (.int (v3 + (1 : Int32)))]) (q := 28) C (show decode cX10_wear 25 = .ok (.iinc 3 1, 3) from by decide +kernel) rfl rfl (by decide) rfl rfl ?_
      refine sr_goto (q := 2) C (show decode cX10_wear 28 = .ok (.goto (-26), 3) from by decide +kernel) (by decide) ?_
      exact K2 v0 v1 v2 (v3 + (1 : Int32)) hv0 hv1
def fnX10_wear (v0 : Nat) (v1 : Nat) (v2 : Int32) : sm_M Unit := fnX10_wear_L2 4096 v0 v1 v2 (0 : Int32)
set_option maxHeartbeats 4000000 in
set_option maxRecDepth 100000 in
theorem slX10_wear {κ : sm_X} (C : sm_C κ RX10 cX10_wear 4 1) (v0 : Nat) (v1 : Nat) (v2 : Int32) (hv0 : kd v0 = 10) (hv1 : kd v1 = 9) : sm_S κ (fun _ : Unit => .inr none) (.inl (0, [some (xad κ v0), some (xad κ v1), some (.int v2), none], [])) (fnX10_wear v0 v1 v2) := by
  unfold fnX10_wear
  refine sr_iconst (v := (0 : Int32)) (q := 1) C (show decode cX10_wear 0 = .ok (.iconst 0, 1) from by decide +kernel) (by decide) rfl ?_
  refine sr_istore_n (i := 3) (L' := [some (xad κ v0), some (xad κ v1), some (.int v2), some (.int (0 : Int32))]) (q := 2) C (show decode cX10_wear 1 = .ok (.istore_n 3, 1) from by decide +kernel) rfl (by decide) rfl rfl ?_
  exact slX10_wear_L2 C 4096 v0 v1 v2 (0 : Int32) hv0 hv1
theorem cnX10_wear (ω : sm_O) (v0 : Nat) (v1 : Nat) (v2 : Int32) (hv0 : kd v0 = 10) (hv1 : kd v1 = 9) : sm_Mt 1 yX10_wear cX10_wear 4 none ω [.ref (ω.1 + v0), .ref (ω.1 + v1), .int v2] (fun _ => none) (fnX10_wear v0 v1 v2) := by
  refine sm_conV (by decide) (Nat.le_of_ble_eq_true rfl) ?_
  intro κ hκ C
  subst hκ
  exact slX10_wear C v0 v1 v2 hv0 hv1
def fnX9_isAt (v0 : Nat) (v1 : Int32) (v2 : Int32) : sm_M Bool := m_ai (lk (lk v0 0) 16) v1 fun x8 => m_ai (lk v0 4) v1 fun x15 => m_br (x15 = v2)
    (m_br (x8 = (-1 : Int32))
    (m_ret true)
    (m_ai (lk v0 4) x8 fun x30 => m_br (x30 = v2)
    (m_ret true)
    (m_ret false)))
    (m_ret false)
set_option maxHeartbeats 4000000 in
set_option maxRecDepth 100000 in
theorem slX9_isAt {κ : sm_X} (C : sm_C κ RX9 cX9_isAt 4 1) (v0 : Nat) (v1 : Int32) (v2 : Int32) (hv0 : kd v0 = 9) : sm_S κ (fun r : Bool => .inr (some (.int (bI r)))) (.inl (0, [some (xad κ v0), some (.int v1), some (.int v2), none], [])) (fnX9_isAt v0 v1 v2) := by
  unfold fnX9_isAt
  refine sr_aload_n (i := 0) (q := 1) C (show decode cX9_isAt 0 = .ok (.aload_n 0, 1) from by decide +kernel) rfl rfl rfl ?_
  refine sr_getr (q := 4) C fl_X9_21 hv0 (show decode cX9_isAt 1 = .ok (.getfield 21, 3) from by decide +kernel) rfl ?_
  refine sr_getr (q := 7) C fl_X9_76 (kt hv0 kp_9_0) (show decode cX9_isAt 4 = .ok (.getfield 76, 3) from by decide +kernel) rfl ?_
  refine sr_iload_n (i := 1) (q := 8) C (show decode cX9_isAt 7 = .ok (.iload_n 1, 1) from by decide +kernel) rfl rfl rfl ?_
  refine sr_iaload (q := 9) C (kt (kt hv0 kp_9_0) kp_7_16) (show decode cX9_isAt 8 = .ok (.iaload, 1) from by decide +kernel) rfl (fun x8 => ?_)
  refine sr_istore_n (i := 3) (L' := [some (xad κ v0), some (.int v1), some (.int v2), some (.int x8)]) (q := 10) C (show decode cX9_isAt 9 = .ok (.istore_n 3, 1) from by decide +kernel) rfl (by decide) rfl rfl ?_
  refine sr_aload_n (i := 0) (q := 11) C (show decode cX9_isAt 10 = .ok (.aload_n 0, 1) from by decide +kernel) rfl rfl rfl ?_
  refine sr_getr (q := 14) C fl_X9_18 hv0 (show decode cX9_isAt 11 = .ok (.getfield 18, 3) from by decide +kernel) rfl ?_
  refine sr_iload_n (i := 1) (q := 15) C (show decode cX9_isAt 14 = .ok (.iload_n 1, 1) from by decide +kernel) rfl rfl rfl ?_
  refine sr_iaload (q := 16) C (kt hv0 kp_9_4) (show decode cX9_isAt 15 = .ok (.iaload, 1) from by decide +kernel) rfl (fun x15 => ?_)
  refine sr_iload_n (i := 2) (q := 17) C (show decode cX9_isAt 16 = .ok (.iload_n 2, 1) from by decide +kernel) rfl rfl rfl ?_
  refine sr_icmp_ne (q := 20) C 39 (show decode cX9_isAt 17 = .ok (.if_icmp .ne 22, 3) from by decide +kernel) (by decide) rfl ?_ ?_
  · refine sr_iconst (v := (0 : Int32)) (q := 40) C (show decode cX9_isAt 39 = .ok (.iconst 0, 1) from by decide +kernel) (by decide) rfl ?_
    exact sr_ireturn C false rfl (show decode cX9_isAt 40 = .ok (.ireturn, 1) from by decide +kernel)
  · refine sr_iload_n (i := 3) (q := 21) C (show decode cX9_isAt 20 = .ok (.iload_n 3, 1) from by decide +kernel) rfl rfl rfl ?_
    refine sr_iconst (v := (-1 : Int32)) (q := 22) C (show decode cX9_isAt 21 = .ok (.iconst (-1), 1) from by decide +kernel) (by decide) rfl ?_
    refine sr_icmp_eq (q := 25) C 35 (show decode cX9_isAt 22 = .ok (.if_icmp .eq 13, 3) from by decide +kernel) (by decide) rfl ?_ ?_
    · refine sr_iconst (v := (1 : Int32)) (q := 36) C (show decode cX9_isAt 35 = .ok (.iconst 1, 1) from by decide +kernel) (by decide) rfl ?_
      refine sr_goto (q := 40) C (show decode cX9_isAt 36 = .ok (.goto 4, 3) from by decide +kernel) (by decide) ?_
      exact sr_ireturn C true rfl (show decode cX9_isAt 40 = .ok (.ireturn, 1) from by decide +kernel)
    · refine sr_aload_n (i := 0) (q := 26) C (show decode cX9_isAt 25 = .ok (.aload_n 0, 1) from by decide +kernel) rfl rfl rfl ?_
      refine sr_getr (q := 29) C fl_X9_18 hv0 (show decode cX9_isAt 26 = .ok (.getfield 18, 3) from by decide +kernel) rfl ?_
      refine sr_iload_n (i := 3) (q := 30) C (show decode cX9_isAt 29 = .ok (.iload_n 3, 1) from by decide +kernel) rfl rfl rfl ?_
      refine sr_iaload (q := 31) C (kt hv0 kp_9_4) (show decode cX9_isAt 30 = .ok (.iaload, 1) from by decide +kernel) rfl (fun x30 => ?_)
      refine sr_iload_n (i := 2) (q := 32) C (show decode cX9_isAt 31 = .ok (.iload_n 2, 1) from by decide +kernel) rfl rfl rfl ?_
      refine sr_icmp_ne (q := 35) C 39 (show decode cX9_isAt 32 = .ok (.if_icmp .ne 7, 3) from by decide +kernel) (by decide) rfl ?_ ?_
      · refine sr_iconst (v := (0 : Int32)) (q := 40) C (show decode cX9_isAt 39 = .ok (.iconst 0, 1) from by decide +kernel) (by decide) rfl ?_
        exact sr_ireturn C false rfl (show decode cX9_isAt 40 = .ok (.ireturn, 1) from by decide +kernel)
      · refine sr_iconst (v := (1 : Int32)) (q := 36) C (show decode cX9_isAt 35 = .ok (.iconst 1, 1) from by decide +kernel) (by decide) rfl ?_
        refine sr_goto (q := 40) C (show decode cX9_isAt 36 = .ok (.goto 4, 3) from by decide +kernel) (by decide) ?_
        exact sr_ireturn C true rfl (show decode cX9_isAt 40 = .ok (.ireturn, 1) from by decide +kernel)
theorem cnX9_isAt (ω : sm_O) (v0 : Nat) (v1 : Int32) (v2 : Int32) (hv0 : kd v0 = 9) : sm_Mt 1 yX9_isAt cX9_isAt 4 (some .boolean) ω [.ref (ω.1 + v0), .int v1, .int v2] (fun a => some (.int (bI a))) (fnX9_isAt v0 v1 v2) := by
  refine sm_conI (r := bI) (by decide) bI_nar (Nat.le_of_ble_eq_true rfl) ?_
  intro κ hκ C
  subst hκ
  exact slX9_isAt C v0 v1 v2 hv0
def fnX9_settle (v0 : Nat) (v1 : Int32) (v2 : Int32) : sm_M Unit := m_sai (lk v0 4) v1 v2 <| m_ai (lk (lk v0 0) 16) v1 fun x15 => m_br (x15 = (-1 : Int32))
    (m_ret ())
    (m_ai (lk (lk v0 0) 16) v1 fun x32 => m_sai (lk v0 4) x32 v2 <| m_ret ())
set_option maxHeartbeats 4000000 in
set_option maxRecDepth 100000 in
theorem slX9_settle {κ : sm_X} (C : sm_C κ RX9 cX9_settle 3 1) (v0 : Nat) (v1 : Int32) (v2 : Int32) (hv0 : kd v0 = 9) : sm_S κ (fun _ : Unit => .inr none) (.inl (0, [some (xad κ v0), some (.int v1), some (.int v2)], [])) (fnX9_settle v0 v1 v2) := by
  unfold fnX9_settle
  refine sr_aload_n (i := 0) (q := 1) C (show decode cX9_settle 0 = .ok (.aload_n 0, 1) from by decide +kernel) rfl rfl rfl ?_
  refine sr_getr (q := 4) C fl_X9_18 hv0 (show decode cX9_settle 1 = .ok (.getfield 18, 3) from by decide +kernel) rfl ?_
  refine sr_iload_n (i := 1) (q := 5) C (show decode cX9_settle 4 = .ok (.iload_n 1, 1) from by decide +kernel) rfl rfl rfl ?_
  refine sr_iload_n (i := 2) (q := 6) C (show decode cX9_settle 5 = .ok (.iload_n 2, 1) from by decide +kernel) rfl rfl rfl ?_
  refine sr_iastore (q := 7) C (kt hv0 kp_9_4) (show decode cX9_settle 6 = .ok (.iastore, 1) from by decide +kernel) rfl ?_
  refine sr_aload_n (i := 0) (q := 8) C (show decode cX9_settle 7 = .ok (.aload_n 0, 1) from by decide +kernel) rfl rfl rfl ?_
  refine sr_getr (q := 11) C fl_X9_21 hv0 (show decode cX9_settle 8 = .ok (.getfield 21, 3) from by decide +kernel) rfl ?_
  refine sr_getr (q := 14) C fl_X9_76 (kt hv0 kp_9_0) (show decode cX9_settle 11 = .ok (.getfield 76, 3) from by decide +kernel) rfl ?_
  refine sr_iload_n (i := 1) (q := 15) C (show decode cX9_settle 14 = .ok (.iload_n 1, 1) from by decide +kernel) rfl rfl rfl ?_
  refine sr_iaload (q := 16) C (kt (kt hv0 kp_9_0) kp_7_16) (show decode cX9_settle 15 = .ok (.iaload, 1) from by decide +kernel) rfl (fun x15 => ?_)
  refine sr_iconst (v := (-1 : Int32)) (q := 17) C (show decode cX9_settle 16 = .ok (.iconst (-1), 1) from by decide +kernel) (by decide) rfl ?_
  refine sr_icmp_eq (q := 20) C 35 (show decode cX9_settle 17 = .ok (.if_icmp .eq 18, 3) from by decide +kernel) (by decide) rfl ?_ ?_
  · exact sr_vreturn C _ rfl (show decode cX9_settle 35 = .ok (.return_, 1) from by decide +kernel)
  · refine sr_aload_n (i := 0) (q := 21) C (show decode cX9_settle 20 = .ok (.aload_n 0, 1) from by decide +kernel) rfl rfl rfl ?_
    refine sr_getr (q := 24) C fl_X9_18 hv0 (show decode cX9_settle 21 = .ok (.getfield 18, 3) from by decide +kernel) rfl ?_
    refine sr_aload_n (i := 0) (q := 25) C (show decode cX9_settle 24 = .ok (.aload_n 0, 1) from by decide +kernel) rfl rfl rfl ?_
    refine sr_getr (q := 28) C fl_X9_21 hv0 (show decode cX9_settle 25 = .ok (.getfield 21, 3) from by decide +kernel) rfl ?_
    refine sr_getr (q := 31) C fl_X9_76 (kt hv0 kp_9_0) (show decode cX9_settle 28 = .ok (.getfield 76, 3) from by decide +kernel) rfl ?_
    refine sr_iload_n (i := 1) (q := 32) C (show decode cX9_settle 31 = .ok (.iload_n 1, 1) from by decide +kernel) rfl rfl rfl ?_
    refine sr_iaload (q := 33) C (kt (kt hv0 kp_9_0) kp_7_16) (show decode cX9_settle 32 = .ok (.iaload, 1) from by decide +kernel) rfl (fun x32 => ?_)
    refine sr_iload_n (i := 2) (q := 34) C (show decode cX9_settle 33 = .ok (.iload_n 2, 1) from by decide +kernel) rfl rfl rfl ?_
    refine sr_iastore (q := 35) C (kt hv0 kp_9_4) (show decode cX9_settle 34 = .ok (.iastore, 1) from by decide +kernel) rfl ?_
    exact sr_vreturn C _ rfl (show decode cX9_settle 35 = .ok (.return_, 1) from by decide +kernel)
theorem cnX9_settle (ω : sm_O) (v0 : Nat) (v1 : Int32) (v2 : Int32) (hv0 : kd v0 = 9) : sm_Mt 1 yX9_settle cX9_settle 3 none ω [.ref (ω.1 + v0), .int v1, .int v2] (fun _ => none) (fnX9_settle v0 v1 v2) := by
  refine sm_conV (by decide) (Nat.le_of_ble_eq_true rfl) ?_
  intro κ hκ C
  subst hκ
  exact slX9_settle C v0 v1 v2 hv0
def fnX0_send_J98 (v6 : Int32) (s0 : Int32) (s1 : Int32) (s2 : Nat) : sm_M Int32 := m_bnd (fnX9_settle s2 s1 s0) fun _ => m_ret v6
set_option maxHeartbeats 4000000 in
set_option maxRecDepth 100000 in
theorem slX0_send_J98 {κ : sm_X} (C : sm_C κ RX0 cX0_send 7 5) (v6 : Int32) (s0 : Int32) (s1 : Int32) (s2 : Nat) (hs2 : kd s2 = 9) : sm_S κ (fun r : Int32 => .inr (some (.int r))) (.inl (98, [none, none, none, none, none, none, some (.int v6)], [.int s0, .int s1, xad κ s2])) (fnX0_send_J98 v6 s0 s1 s2) := by
  unfold fnX0_send_J98
  refine sr_cVv (As := [.int s1, .int s0]) (st := []) (b := s2) (q := 101) C yvX9_settle ml_X0_44 (cnX9_settle (xo κ) s2 s1 s0 hs2) hs2 (by decide) rfl rfl rfl (by decide) (by decide) (Nat.le_of_ble_eq_true rfl) rfl (show decode cX0_send 98 = .ok (.invokevirtual 44, 3) from by decide +kernel) rfl (fun _ => ?_)
  refine sr_iload (i := 6) (q := 103) C (show decode cX0_send 101 = .ok (.iload 6, 2) from by decide +kernel) rfl rfl ?_
  exact sr_ireturn C _ rfl (show decode cX0_send 103 = .ok (.ireturn, 1) from by decide +kernel)
def fnX0_send_J64 (v0 : Nat) (v1 : Nat) (v2 : Int32) (v4 : Int32) (v5 : Int32) (s0 : Int32) (s1 : Int32) (s2 : Int32) (s3 : Int32) (s4 : Nat) (s5 : Nat) : sm_M Int32 := m_bnd (fnX10_seek s5 s4 s3 s2 s1 s0) fun x64 => m_br (x64 < 0)
    (m_ret x64)
    (m_bnd (fnX10_wear (lk v0 0) v1 v5) fun _ => m_br (v4 = 0)
    (fnX0_send_J98 x64 (98 : Int32) v2 v1)
    (fnX0_send_J98 x64 (99 : Int32) v2 v1))
set_option maxHeartbeats 4000000 in
set_option maxRecDepth 100000 in
theorem slX0_send_J64 {κ : sm_X} (C : sm_C κ RX0 cX0_send 7 5) (v0 : Nat) (v1 : Nat) (v2 : Int32) (v4 : Int32) (v5 : Int32) (s0 : Int32) (s1 : Int32) (s2 : Int32) (s3 : Int32) (s4 : Nat) (s5 : Nat) (hv0 : kd v0 = 0) (hv1 : kd v1 = 9) (hs4 : kd s4 = 9) (hs5 : kd s5 = 10) : sm_S κ (fun r : Int32 => .inr (some (.int r))) (.inl (64, [some (xad κ v0), some (xad κ v1), some (.int v2), none, some (.int v4), some (.int v5), none], [.int s0, .int s1, .int s2, .int s3, xad κ s4, xad κ s5])) (fnX0_send_J64 v0 v1 v2 v4 v5 s0 s1 s2 s3 s4 s5) := by
  unfold fnX0_send_J64
  refine sr_cVi (As := [xad κ s4, .int s3, .int s2, .int s1, .int s0]) (st := []) (b := s5) (q := 67) C yvX10_seek ml_X0_34 (cnX10_seek (xo κ) s5 s4 s3 s2 s1 s0 hs5 hs4) hs5 (by decide) rfl rfl rfl (by decide) (by decide) (Nat.le_of_ble_eq_true rfl) rfl (show decode cX0_send 64 = .ok (.invokevirtual 34, 3) from by decide +kernel) rfl (fun x64 => ?_)
  refine sr_istore (i := 6) (L' := [some (xad κ v0), some (xad κ v1), some (.int v2), none, some (.int v4), some (.int v5), some (.int x64)]) (q := 69) C (show decode cX0_send 67 = .ok (.istore 6, 2) from by decide +kernel) (by decide) rfl rfl ?_
  refine sr_iload (i := 6) (q := 71) C (show decode cX0_send 69 = .ok (.iload 6, 2) from by decide +kernel) rfl rfl ?_
  refine sr_if_lt (q := 74) C 101 (show decode cX0_send 71 = .ok (.ifCond .lt 30, 3) from by decide +kernel) (by decide) rfl ?_ ?_
  · refine sr_iload (i := 6) (q := 103) C (show decode cX0_send 101 = .ok (.iload 6, 2) from by decide +kernel) rfl rfl ?_
    exact sr_ireturn C _ rfl (show decode cX0_send 103 = .ok (.ireturn, 1) from by decide +kernel)
  · refine sr_aload_n (i := 0) (q := 75) C (show decode cX0_send 74 = .ok (.aload_n 0, 1) from by decide +kernel) rfl rfl rfl ?_
    refine sr_getr (q := 78) C fl_X0_9 hv0 (show decode cX0_send 75 = .ok (.getfield 9, 3) from by decide +kernel) rfl ?_
    refine sr_aload_n (i := 1) (q := 79) C (show decode cX0_send 78 = .ok (.aload_n 1, 1) from by decide +kernel) rfl rfl rfl ?_
    refine sr_iload (i := 5) (q := 81) C (show decode cX0_send 79 = .ok (.iload 5, 2) from by decide +kernel) rfl rfl ?_
    refine sr_cVv (As := [xad κ v1, .int v5]) (st := []) (b := lk v0 0) (q := 84) C yvX10_wear ml_X0_40 (cnX10_wear (xo κ) (lk v0 0) v1 v5 (kt hv0 kp_0_0) hv1) (kt hv0 kp_0_0) (by decide) rfl rfl rfl (by decide) (by decide) (Nat.le_of_ble_eq_true rfl) rfl (show decode cX0_send 81 = .ok (.invokevirtual 40, 3) from by decide +kernel) rfl (fun _ => ?_)
    refine sr_aload_n (i := 1) (q := 85) C (show decode cX0_send 84 = .ok (.aload_n 1, 1) from by decide +kernel) rfl rfl rfl ?_
    refine sr_iload_n (i := 2) (q := 86) C (show decode cX0_send 85 = .ok (.iload_n 2, 1) from by decide +kernel) rfl rfl rfl ?_
    refine sr_iload (i := 4) (q := 88) C (show decode cX0_send 86 = .ok (.iload 4, 2) from by decide +kernel) rfl rfl ?_
    refine sr_if_eq (q := 91) C 96 (show decode cX0_send 88 = .ok (.ifCond .eq 8, 3) from by decide +kernel) (by decide) rfl ?_ ?_
    · refine sr_bipush (v := (98 : Int32)) (q := 98) C (show decode cX0_send 96 = .ok (.bipush 98, 2) from by decide +kernel) (by decide) rfl ?_
      refine sr_weak (L' := [none, none, none, none, none, none, some (.int x64)]) ⟨rfl, trivial⟩ ?_
      exact slX0_send_J98 C x64 (98 : Int32) v2 v1 hv1
    · refine sr_bipush (v := (99 : Int32)) (q := 93) C (show decode cX0_send 91 = .ok (.bipush 99, 2) from by decide +kernel) (by decide) rfl ?_
      refine sr_goto (q := 98) C (show decode cX0_send 93 = .ok (.goto 5, 3) from by decide +kernel) (by decide) ?_
      refine sr_weak (L' := [none, none, none, none, none, none, some (.int x64)]) ⟨rfl, trivial⟩ ?_
      exact slX0_send_J98 C x64 (99 : Int32) v2 v1 hv1
def fnX0_send_J26 (v0 : Nat) (v1 : Nat) (v2 : Int32) (v3 : Int32) (v4 : Int32) : sm_M Int32 := m_bnd (fnX7_weightOf (lk v1 0) v2) fun x31 => m_bnd (fnX7_strideOf (lk v1 0) v2) fun x46 => m_br (v4 = 0)
    (fnX0_send_J64 v0 v1 v2 v4 x31 (99 : Int32) v3 x31 x46 v1 (lk v0 0))
    (fnX0_send_J64 v0 v1 v2 v4 x31 (98 : Int32) v3 x31 x46 v1 (lk v0 0))
set_option maxHeartbeats 4000000 in
set_option maxRecDepth 100000 in
theorem slX0_send_J26 {κ : sm_X} (C : sm_C κ RX0 cX0_send 7 5) (v0 : Nat) (v1 : Nat) (v2 : Int32) (v3 : Int32) (v4 : Int32) (hv0 : kd v0 = 0) (hv1 : kd v1 = 9) : sm_S κ (fun r : Int32 => .inr (some (.int r))) (.inl (26, [some (xad κ v0), some (xad κ v1), some (.int v2), some (.int v3), some (.int v4), none, none], [])) (fnX0_send_J26 v0 v1 v2 v3 v4) := by
  unfold fnX0_send_J26
  refine sr_aload_n (i := 1) (q := 27) C (show decode cX0_send 26 = .ok (.aload_n 1, 1) from by decide +kernel) rfl rfl rfl ?_
  refine sr_getr (q := 30) C fl_X0_21 hv1 (show decode cX0_send 27 = .ok (.getfield 21, 3) from by decide +kernel) rfl ?_
  refine sr_iload_n (i := 2) (q := 31) C (show decode cX0_send 30 = .ok (.iload_n 2, 1) from by decide +kernel) rfl rfl rfl ?_
  refine sr_cVi (As := [.int v2]) (st := []) (b := lk v1 0) (q := 34) C yvX7_weightOf ml_X0_25 (cnX7_weightOf (xo κ) (lk v1 0) v2 (kt hv1 kp_9_0)) (kt hv1 kp_9_0) (by decide) rfl rfl rfl (by decide) (by decide) (Nat.le_of_ble_eq_true rfl) rfl (show decode cX0_send 31 = .ok (.invokevirtual 25, 3) from by decide +kernel) rfl (fun x31 => ?_)
  refine sr_istore (i := 5) (L' := [some (xad κ v0), some (xad κ v1), some (.int v2), some (.int v3), some (.int v4), some (.int x31), none]) (q := 36) C (show decode cX0_send 34 = .ok (.istore 5, 2) from by decide +kernel) (by decide) rfl rfl ?_
  refine sr_aload_n (i := 0) (q := 37) C (show decode cX0_send 36 = .ok (.aload_n 0, 1) from by decide +kernel) rfl rfl rfl ?_
  refine sr_getr (q := 40) C fl_X0_9 hv0 (show decode cX0_send 37 = .ok (.getfield 9, 3) from by decide +kernel) rfl ?_
  refine sr_aload_n (i := 1) (q := 41) C (show decode cX0_send 40 = .ok (.aload_n 1, 1) from by decide +kernel) rfl rfl rfl ?_
  refine sr_aload_n (i := 1) (q := 42) C (show decode cX0_send 41 = .ok (.aload_n 1, 1) from by decide +kernel) rfl rfl rfl ?_
  refine sr_getr (q := 45) C fl_X0_21 hv1 (show decode cX0_send 42 = .ok (.getfield 21, 3) from by decide +kernel) rfl ?_
  refine sr_iload_n (i := 2) (q := 46) C (show decode cX0_send 45 = .ok (.iload_n 2, 1) from by decide +kernel) rfl rfl rfl ?_
  refine sr_cVi (As := [.int v2]) (st := [xad κ v1, xad κ (lk v0 0)]) (b := lk v1 0) (q := 49) C yvX7_strideOf ml_X0_31 (cnX7_strideOf (xo κ) (lk v1 0) v2 (kt hv1 kp_9_0)) (kt hv1 kp_9_0) (by decide) rfl rfl rfl (by decide) (by decide) (Nat.le_of_ble_eq_true rfl) rfl (show decode cX0_send 46 = .ok (.invokevirtual 31, 3) from by decide +kernel) rfl (fun x46 => ?_)
  refine sr_iload (i := 5) (q := 51) C (show decode cX0_send 49 = .ok (.iload 5, 2) from by decide +kernel) rfl rfl ?_
  refine sr_iload_n (i := 3) (q := 52) C (show decode cX0_send 51 = .ok (.iload_n 3, 1) from by decide +kernel) rfl rfl rfl ?_
  refine sr_iload (i := 4) (q := 54) C (show decode cX0_send 52 = .ok (.iload 4, 2) from by decide +kernel) rfl rfl ?_
  refine sr_if_eq (q := 57) C 62 (show decode cX0_send 54 = .ok (.ifCond .eq 8, 3) from by decide +kernel) (by decide) rfl ?_ ?_
  · refine sr_bipush (v := (99 : Int32)) (q := 64) C (show decode cX0_send 62 = .ok (.bipush 99, 2) from by decide +kernel) (by decide) rfl ?_
    refine sr_weak (L' := [some (xad κ v0), some (xad κ v1), some (.int v2), none, some (.int v4), some (.int x31), none]) ⟨rfl, rfl, rfl, rfl, rfl, trivial⟩ ?_
    exact slX0_send_J64 C v0 v1 v2 v4 x31 (99 : Int32) v3 x31 x46 v1 (lk v0 0) hv0 hv1 hv1 (kt hv0 kp_0_0)
  · refine sr_bipush (v := (98 : Int32)) (q := 59) C (show decode cX0_send 57 = .ok (.bipush 98, 2) from by decide +kernel) (by decide) rfl ?_
    refine sr_goto (q := 64) C (show decode cX0_send 59 = .ok (.goto 5, 3) from by decide +kernel) (by decide) ?_
    refine sr_weak (L' := [some (xad κ v0), some (xad κ v1), some (.int v2), none, some (.int v4), some (.int x31), none]) ⟨rfl, rfl, rfl, rfl, rfl, trivial⟩ ?_
    exact slX0_send_J64 C v0 v1 v2 v4 x31 (98 : Int32) v3 x31 x46 v1 (lk v0 0) hv0 hv1 hv1 (kt hv0 kp_0_0)
def fnX0_send (v0 : Nat) (v1 : Nat) (v2 : Int32) (v3 : Int32) : sm_M Int32 := m_bnd (fnX9_isAt v1 v2 (98 : Int32)) fun x4 => m_br ((bI x4) = 0)
    (m_bnd (fnX9_isAt v1 v2 (99 : Int32)) fun x18 => m_br ((bI x18) = 0)
    (m_ret (-1 : Int32))
    (fnX0_send_J26 v0 v1 v2 v3 (bI x4)))
    (fnX0_send_J26 v0 v1 v2 v3 (bI x4))
set_option maxHeartbeats 4000000 in
set_option maxRecDepth 100000 in
theorem slX0_send {κ : sm_X} (C : sm_C κ RX0 cX0_send 7 5) (v0 : Nat) (v1 : Nat) (v2 : Int32) (v3 : Int32) (hv0 : kd v0 = 0) (hv1 : kd v1 = 9) : sm_S κ (fun r : Int32 => .inr (some (.int r))) (.inl (0, [some (xad κ v0), some (xad κ v1), some (.int v2), some (.int v3), none, none, none], [])) (fnX0_send v0 v1 v2 v3) := by
  unfold fnX0_send
  refine sr_aload_n (i := 1) (q := 1) C (show decode cX0_send 0 = .ok (.aload_n 1, 1) from by decide +kernel) rfl rfl rfl ?_
  refine sr_iload_n (i := 2) (q := 2) C (show decode cX0_send 1 = .ok (.iload_n 2, 1) from by decide +kernel) rfl rfl rfl ?_
  refine sr_bipush (v := (98 : Int32)) (q := 4) C (show decode cX0_send 2 = .ok (.bipush 98, 2) from by decide +kernel) (by decide) rfl ?_
  refine sr_cVz (As := [.int v2, .int (98 : Int32)]) (st := []) (b := v1) (q := 7) C yvX9_isAt ml_X0_15 (cnX9_isAt (xo κ) v1 v2 (98 : Int32) hv1) hv1 (by decide) rfl rfl rfl (by decide) (by decide) (Nat.le_of_ble_eq_true rfl) rfl (show decode cX0_send 4 = .ok (.invokevirtual 15, 3) from by decide +kernel) rfl (fun x4 => ?_)
  refine sr_istore (i := 4) (L' := [some (xad κ v0), some (xad κ v1), some (.int v2), some (.int v3), some (.int (bI x4)), none, none]) (q := 9) C (show decode cX0_send 7 = .ok (.istore 4, 2) from by decide +kernel) (by decide) rfl rfl ?_
  refine sr_iload (i := 4) (q := 11) C (show decode cX0_send 9 = .ok (.iload 4, 2) from by decide +kernel) rfl rfl ?_
  refine sr_if_ne (q := 14) C 26 (show decode cX0_send 11 = .ok (.ifCond .ne 15, 3) from by decide +kernel) (by decide) rfl ?_ ?_
  · exact slX0_send_J26 C v0 v1 v2 v3 (bI x4) hv0 hv1
  · refine sr_aload_n (i := 1) (q := 15) C (show decode cX0_send 14 = .ok (.aload_n 1, 1) from by decide +kernel) rfl rfl rfl ?_
    refine sr_iload_n (i := 2) (q := 16) C (show decode cX0_send 15 = .ok (.iload_n 2, 1) from by decide +kernel) rfl rfl rfl ?_
    refine sr_bipush (v := (99 : Int32)) (q := 18) C (show decode cX0_send 16 = .ok (.bipush 99, 2) from by decide +kernel) (by decide) rfl ?_
    refine sr_cVz (As := [.int v2, .int (99 : Int32)]) (st := []) (b := v1) (q := 21) C yvX9_isAt ml_X0_15 (cnX9_isAt (xo κ) v1 v2 (99 : Int32) hv1) hv1 (by decide) rfl rfl rfl (by decide) (by decide) (Nat.le_of_ble_eq_true rfl) rfl (show decode cX0_send 18 = .ok (.invokevirtual 15, 3) from by decide +kernel) rfl (fun x18 => ?_)
    refine sr_if_ne (q := 24) C 26 (show decode cX0_send 21 = .ok (.ifCond .ne 5, 3) from by decide +kernel) (by decide) rfl ?_ ?_
    · exact slX0_send_J26 C v0 v1 v2 v3 (bI x4) hv0 hv1
    · refine sr_iconst (v := (-1 : Int32)) (q := 25) C (show decode cX0_send 24 = .ok (.iconst (-1), 1) from by decide +kernel) (by decide) rfl ?_
      exact sr_ireturn C _ rfl (show decode cX0_send 25 = .ok (.ireturn, 1) from by decide +kernel)
theorem cnX0_send (ω : sm_O) (v0 : Nat) (v1 : Nat) (v2 : Int32) (v3 : Int32) (hv0 : kd v0 = 0) (hv1 : kd v1 = 9) : sm_Mt 5 yX0_send cX0_send 7 (some .int) ω [.ref (ω.1 + v0), .ref (ω.1 + v1), .int v2, .int v3] (fun a => some (.int a)) (fnX0_send v0 v1 v2 v3) := by
  refine sm_conI (r := fun a => a) (by decide) (fun _ => rfl) (Nat.le_of_ble_eq_true rfl) ?_
  intro κ hκ C
  subst hκ
  exact slX0_send C v0 v1 v2 v3 hv0 hv1
def fnX7_peopleOf (v0 : Nat) (v1 : Int32) : sm_M Int32 := m_ai (lk v0 16) v1 fun x5 => m_br (x5 = (-1 : Int32))
    (m_ret ((1 : Int32) <<< (v1 &&& 31)))
    (m_ai (lk v0 16) v1 fun x25 => m_ret (((1 : Int32) <<< (v1 &&& 31)) ||| ((1 : Int32) <<< (x25 &&& 31))))
set_option maxHeartbeats 4000000 in
set_option maxRecDepth 100000 in
theorem slX7_peopleOf {κ : sm_X} (C : sm_C κ RX7 cX7_peopleOf 2 1) (v0 : Nat) (v1 : Int32) (hv0 : kd v0 = 7) : sm_S κ (fun r : Int32 => .inr (some (.int r))) (.inl (0, [some (xad κ v0), some (.int v1)], [])) (fnX7_peopleOf v0 v1) := by
  unfold fnX7_peopleOf
  refine sr_aload_n (i := 0) (q := 1) C (show decode cX7_peopleOf 0 = .ok (.aload_n 0, 1) from by decide +kernel) rfl rfl rfl ?_
  refine sr_getr (q := 4) C fl_X7_36 hv0 (show decode cX7_peopleOf 1 = .ok (.getfield 36, 3) from by decide +kernel) rfl ?_
  refine sr_iload_n (i := 1) (q := 5) C (show decode cX7_peopleOf 4 = .ok (.iload_n 1, 1) from by decide +kernel) rfl rfl rfl ?_
  refine sr_iaload (q := 6) C (kt hv0 kp_7_16) (show decode cX7_peopleOf 5 = .ok (.iaload, 1) from by decide +kernel) rfl (fun x5 => ?_)
  refine sr_iconst (v := (-1 : Int32)) (q := 7) C (show decode cX7_peopleOf 6 = .ok (.iconst (-1), 1) from by decide +kernel) (by decide) rfl ?_
  refine sr_icmp_ne (q := 10) C 16 (show decode cX7_peopleOf 7 = .ok (.if_icmp .ne 9, 3) from by decide +kernel) (by decide) rfl ?_ ?_
  · refine sr_iconst (v := (1 : Int32)) (q := 17) C (show decode cX7_peopleOf 16 = .ok (.iconst 1, 1) from by decide +kernel) (by decide) rfl ?_
    refine sr_iload_n (i := 1) (q := 18) C (show decode cX7_peopleOf 17 = .ok (.iload_n 1, 1) from by decide +kernel) rfl rfl rfl ?_
    refine sr_ishl (q := 19) C (show decode cX7_peopleOf 18 = .ok (.ishl, 1) from by decide +kernel) rfl ?_
    refine sr_iconst (v := (1 : Int32)) (q := 20) C (show decode cX7_peopleOf 19 = .ok (.iconst 1, 1) from by decide +kernel) (by decide) rfl ?_
    refine sr_aload_n (i := 0) (q := 21) C (show decode cX7_peopleOf 20 = .ok (.aload_n 0, 1) from by decide +kernel) rfl rfl rfl ?_
    refine sr_getr (q := 24) C fl_X7_36 hv0 (show decode cX7_peopleOf 21 = .ok (.getfield 36, 3) from by decide +kernel) rfl ?_
    refine sr_iload_n (i := 1) (q := 25) C (show decode cX7_peopleOf 24 = .ok (.iload_n 1, 1) from by decide +kernel) rfl rfl rfl ?_
    refine sr_iaload (q := 26) C (kt hv0 kp_7_16) (show decode cX7_peopleOf 25 = .ok (.iaload, 1) from by decide +kernel) rfl (fun x25 => ?_)
    refine sr_ishl (q := 27) C (show decode cX7_peopleOf 26 = .ok (.ishl, 1) from by decide +kernel) rfl ?_
    refine sr_ior (q := 28) C (show decode cX7_peopleOf 27 = .ok (.ior, 1) from by decide +kernel) rfl ?_
    exact sr_ireturn C _ rfl (show decode cX7_peopleOf 28 = .ok (.ireturn, 1) from by decide +kernel)
  · refine sr_iconst (v := (1 : Int32)) (q := 11) C (show decode cX7_peopleOf 10 = .ok (.iconst 1, 1) from by decide +kernel) (by decide) rfl ?_
    refine sr_iload_n (i := 1) (q := 12) C (show decode cX7_peopleOf 11 = .ok (.iload_n 1, 1) from by decide +kernel) rfl rfl rfl ?_
    refine sr_ishl (q := 13) C (show decode cX7_peopleOf 12 = .ok (.ishl, 1) from by decide +kernel) rfl ?_
    refine sr_goto (q := 28) C (show decode cX7_peopleOf 13 = .ok (.goto 15, 3) from by decide +kernel) (by decide) ?_
    exact sr_ireturn C _ rfl (show decode cX7_peopleOf 28 = .ok (.ireturn, 1) from by decide +kernel)
theorem cnX7_peopleOf (ω : sm_O) (v0 : Nat) (v1 : Int32) (hv0 : kd v0 = 7) : sm_Mt 1 yX7_peopleOf cX7_peopleOf 2 (some .int) ω [.ref (ω.1 + v0), .int v1] (fun a => some (.int a)) (fnX7_peopleOf v0 v1) := by
  refine sm_conI (r := fun a => a) (by decide) (fun _ => rfl) (Nat.le_of_ble_eq_true rfl) ?_
  intro κ hκ C
  subst hκ
  exact slX7_peopleOf C v0 v1 hv0
def fnX7_comesBack (v0 : Nat) (v1 : Int32) : sm_M Bool := m_gi v0 7 fun x1 => m_bnd (fnX7_peopleOf v0 v1) fun x6 => m_br ((x1 &&& x6) = 0)
    (m_ret false)
    (m_ret true)
set_option maxHeartbeats 4000000 in
set_option maxRecDepth 100000 in
theorem slX7_comesBack {κ : sm_X} (C : sm_C κ RX7 cX7_comesBack 2 2) (v0 : Nat) (v1 : Int32) (hv0 : kd v0 = 7) : sm_S κ (fun r : Bool => .inr (some (.int (bI r)))) (.inl (0, [some (xad κ v0), some (.int v1)], [])) (fnX7_comesBack v0 v1) := by
  unfold fnX7_comesBack
  refine sr_aload_n (i := 0) (q := 1) C (show decode cX7_comesBack 0 = .ok (.aload_n 0, 1) from by decide +kernel) rfl rfl rfl ?_
  refine sr_geti (q := 4) C fl_X7_61 (Or.inl rfl) hv0 (show decode cX7_comesBack 1 = .ok (.getfield 61, 3) from by decide +kernel) rfl (fun x1 => ?_)
  refine sr_aload_n (i := 0) (q := 5) C (show decode cX7_comesBack 4 = .ok (.aload_n 0, 1) from by decide +kernel) rfl rfl rfl ?_
  refine sr_iload_n (i := 1) (q := 6) C (show decode cX7_comesBack 5 = .ok (.iload_n 1, 1) from by decide +kernel) rfl rfl rfl ?_
  refine sr_cVi (As := [.int v1]) (st := [.int x1]) (b := v0) (q := 9) C yvX7_peopleOf ml_X7_83 (cnX7_peopleOf (xo κ) v0 v1 hv0) hv0 (by decide) rfl rfl rfl (by decide) (by decide) (Nat.le_of_ble_eq_true rfl) rfl (show decode cX7_comesBack 6 = .ok (.invokevirtual 83, 3) from by decide +kernel) rfl (fun x6 => ?_)
  refine sr_iand (q := 10) C (show decode cX7_comesBack 9 = .ok (.iand, 1) from by decide +kernel) rfl ?_
  refine sr_if_eq (q := 13) C 17 (show decode cX7_comesBack 10 = .ok (.ifCond .eq 7, 3) from by decide +kernel) (by decide) rfl ?_ ?_
  · refine sr_iconst (v := (0 : Int32)) (q := 18) C (show decode cX7_comesBack 17 = .ok (.iconst 0, 1) from by decide +kernel) (by decide) rfl ?_
    exact sr_ireturn C false rfl (show decode cX7_comesBack 18 = .ok (.ireturn, 1) from by decide +kernel)
  · refine sr_iconst (v := (1 : Int32)) (q := 14) C (show decode cX7_comesBack 13 = .ok (.iconst 1, 1) from by decide +kernel) (by decide) rfl ?_
    refine sr_goto (q := 18) C (show decode cX7_comesBack 14 = .ok (.goto 4, 3) from by decide +kernel) (by decide) ?_
    exact sr_ireturn C true rfl (show decode cX7_comesBack 18 = .ok (.ireturn, 1) from by decide +kernel)
theorem cnX7_comesBack (ω : sm_O) (v0 : Nat) (v1 : Int32) (hv0 : kd v0 = 7) : sm_Mt 2 yX7_comesBack cX7_comesBack 2 (some .boolean) ω [.ref (ω.1 + v0), .int v1] (fun a => some (.int (bI a))) (fnX7_comesBack v0 v1) := by
  refine sm_conI (r := bI) (by decide) bI_nar (Nat.le_of_ble_eq_true rfl) ?_
  intro κ hκ C
  subst hκ
  exact slX7_comesBack C v0 v1 hv0
def fnX7_isUnit (v0 : Nat) (v1 : Int32) : sm_M Bool := m_br (v1 < 0)
    (m_ret false)
    (m_gi v0 5 fun x6 => m_br (x6 ≤ v1)
    (m_ret false)
    (m_ai (lk v0 16) v1 fun x17 => m_br (x17 = (-1 : Int32))
    (m_ret true)
    (m_ai (lk v0 16) v1 fun x27 => m_br (x27 ≤ v1)
    (m_ret false)
    (m_ret true))))
set_option maxHeartbeats 4000000 in
set_option maxRecDepth 100000 in
theorem slX7_isUnit {κ : sm_X} (C : sm_C κ RX7 cX7_isUnit 2 1) (v0 : Nat) (v1 : Int32) (hv0 : kd v0 = 7) : sm_S κ (fun r : Bool => .inr (some (.int (bI r)))) (.inl (0, [some (xad κ v0), some (.int v1)], [])) (fnX7_isUnit v0 v1) := by
  unfold fnX7_isUnit
  refine sr_iload_n (i := 1) (q := 1) C (show decode cX7_isUnit 0 = .ok (.iload_n 1, 1) from by decide +kernel) rfl rfl rfl ?_
  refine sr_if_lt (q := 4) C 36 (show decode cX7_isUnit 1 = .ok (.ifCond .lt 35, 3) from by decide +kernel) (by decide) rfl ?_ ?_
  · refine sr_iconst (v := (0 : Int32)) (q := 37) C (show decode cX7_isUnit 36 = .ok (.iconst 0, 1) from by decide +kernel) (by decide) rfl ?_
    exact sr_ireturn C false rfl (show decode cX7_isUnit 37 = .ok (.ireturn, 1) from by decide +kernel)
  · refine sr_iload_n (i := 1) (q := 5) C (show decode cX7_isUnit 4 = .ok (.iload_n 1, 1) from by decide +kernel) rfl rfl rfl ?_
    refine sr_aload_n (i := 0) (q := 6) C (show decode cX7_isUnit 5 = .ok (.aload_n 0, 1) from by decide +kernel) rfl rfl rfl ?_
    refine sr_geti (q := 9) C fl_X7_55 (Or.inl rfl) hv0 (show decode cX7_isUnit 6 = .ok (.getfield 55, 3) from by decide +kernel) rfl (fun x6 => ?_)
    refine sr_icmp_ge (q := 12) C 36 (show decode cX7_isUnit 9 = .ok (.if_icmp .ge 27, 3) from by decide +kernel) (by decide) rfl ?_ ?_
    · refine sr_iconst (v := (0 : Int32)) (q := 37) C (show decode cX7_isUnit 36 = .ok (.iconst 0, 1) from by decide +kernel) (by decide) rfl ?_
      exact sr_ireturn C false rfl (show decode cX7_isUnit 37 = .ok (.ireturn, 1) from by decide +kernel)
    · refine sr_aload_n (i := 0) (q := 13) C (show decode cX7_isUnit 12 = .ok (.aload_n 0, 1) from by decide +kernel) rfl rfl rfl ?_
      refine sr_getr (q := 16) C fl_X7_36 hv0 (show decode cX7_isUnit 13 = .ok (.getfield 36, 3) from by decide +kernel) rfl ?_
      refine sr_iload_n (i := 1) (q := 17) C (show decode cX7_isUnit 16 = .ok (.iload_n 1, 1) from by decide +kernel) rfl rfl rfl ?_
      refine sr_iaload (q := 18) C (kt hv0 kp_7_16) (show decode cX7_isUnit 17 = .ok (.iaload, 1) from by decide +kernel) rfl (fun x17 => ?_)
      refine sr_iconst (v := (-1 : Int32)) (q := 19) C (show decode cX7_isUnit 18 = .ok (.iconst (-1), 1) from by decide +kernel) (by decide) rfl ?_
      refine sr_icmp_eq (q := 22) C 32 (show decode cX7_isUnit 19 = .ok (.if_icmp .eq 13, 3) from by decide +kernel) (by decide) rfl ?_ ?_
      · refine sr_iconst (v := (1 : Int32)) (q := 33) C (show decode cX7_isUnit 32 = .ok (.iconst 1, 1) from by decide +kernel) (by decide) rfl ?_
        refine sr_goto (q := 37) C (show decode cX7_isUnit 33 = .ok (.goto 4, 3) from by decide +kernel) (by decide) ?_
        exact sr_ireturn C true rfl (show decode cX7_isUnit 37 = .ok (.ireturn, 1) from by decide +kernel)
      · refine sr_aload_n (i := 0) (q := 23) C (show decode cX7_isUnit 22 = .ok (.aload_n 0, 1) from by decide +kernel) rfl rfl rfl ?_
        refine sr_getr (q := 26) C fl_X7_36 hv0 (show decode cX7_isUnit 23 = .ok (.getfield 36, 3) from by decide +kernel) rfl ?_
        refine sr_iload_n (i := 1) (q := 27) C (show decode cX7_isUnit 26 = .ok (.iload_n 1, 1) from by decide +kernel) rfl rfl rfl ?_
        refine sr_iaload (q := 28) C (kt hv0 kp_7_16) (show decode cX7_isUnit 27 = .ok (.iaload, 1) from by decide +kernel) rfl (fun x27 => ?_)
        refine sr_iload_n (i := 1) (q := 29) C (show decode cX7_isUnit 28 = .ok (.iload_n 1, 1) from by decide +kernel) rfl rfl rfl ?_
        refine sr_icmp_le (q := 32) C 36 (show decode cX7_isUnit 29 = .ok (.if_icmp .le 7, 3) from by decide +kernel) (by decide) rfl ?_ ?_
        · refine sr_iconst (v := (0 : Int32)) (q := 37) C (show decode cX7_isUnit 36 = .ok (.iconst 0, 1) from by decide +kernel) (by decide) rfl ?_
          exact sr_ireturn C false rfl (show decode cX7_isUnit 37 = .ok (.ireturn, 1) from by decide +kernel)
        · refine sr_iconst (v := (1 : Int32)) (q := 33) C (show decode cX7_isUnit 32 = .ok (.iconst 1, 1) from by decide +kernel) (by decide) rfl ?_
          refine sr_goto (q := 37) C (show decode cX7_isUnit 33 = .ok (.goto 4, 3) from by decide +kernel) (by decide) ?_
          exact sr_ireturn C true rfl (show decode cX7_isUnit 37 = .ok (.ireturn, 1) from by decide +kernel)
theorem cnX7_isUnit (ω : sm_O) (v0 : Nat) (v1 : Int32) (hv0 : kd v0 = 7) : sm_Mt 1 yX7_isUnit cX7_isUnit 2 (some .boolean) ω [.ref (ω.1 + v0), .int v1] (fun a => some (.int (bI a))) (fnX7_isUnit v0 v1) := by
  refine sm_conI (r := bI) (by decide) bI_nar (Nat.le_of_ble_eq_true rfl) ?_
  intro κ hκ C
  subst hκ
  exact slX7_isUnit C v0 v1 hv0
def fnX0_sendHome_J75 (k5 : Nat → Nat → Int32 → Int32 → Int32 → sm_M Int32) (v0 : Nat) (v1 : Nat) (v2 : Int32) (v3 : Int32) (v4 : Int32) : sm_M Int32 := k5 v0 v1 v2 v3 (v4 + (1 : Int32))
set_option maxHeartbeats 4000000 in
set_option maxRecDepth 100000 in
theorem slX0_sendHome_J75 {κ : sm_X} (C : sm_C κ RX0 cX0_sendHome 5 6) {k5 : Nat → Nat → Int32 → Int32 → Int32 → sm_M Int32} (K5 : ∀ (v0 : Nat) (v1 : Nat) (v2 : Int32) (v3 : Int32) (v4 : Int32) (hv0 : kd v0 = 0) (hv1 : kd v1 = 9), sm_S κ (fun r : Int32 => .inr (some (.int r))) (.inl (5, [some (xad κ v0), some (xad κ v1), some (.int v2), some (.int v3), some (.int v4)], [])) (k5 v0 v1 v2 v3 v4)) (v0 : Nat) (v1 : Nat) (v2 : Int32) (v3 : Int32) (v4 : Int32) (hv0 : kd v0 = 0) (hv1 : kd v1 = 9) : sm_S κ (fun r : Int32 => .inr (some (.int r))) (.inl (75, [some (xad κ v0), some (xad κ v1), some (.int v2), some (.int v3), some (.int v4)], [])) (fnX0_sendHome_J75 k5 v0 v1 v2 v3 v4) := by
  unfold fnX0_sendHome_J75
  refine sr_iinc (v := v4 + (1 : Int32)) (L' := [some (xad κ v0), some (xad κ v1), some (.int v2), some (.int v3), some (.int (v4 + (1 : Int32)))]) (q := 78) C (show decode cX0_sendHome 75 = .ok (.iinc 4 1, 3) from by decide +kernel) rfl rfl (by decide) rfl rfl ?_
  refine sr_goto (q := 5) C (show decode cX0_sendHome 78 = .ok (.goto (-73), 3) from by decide +kernel) (by decide) ?_
  exact K5 v0 v1 v2 v3 (v4 + (1 : Int32)) hv0 hv1
def fnX0_sendHome_L5 : Nat → Nat → Nat → Int32 → Int32 → Int32 → sm_M Int32
  | 0, _, _, _, _, _ => m_fail
  | n + 1, v0, v1, v2, v3, v4 => m_gi (lk v1 0) 5 fun x11 => m_br (x11 ≤ v4)
    (m_ret v3)
    (m_bnd (fnX7_isUnit (lk v1 0) v4) fun x23 => m_br ((bI x23) = 0)
    (fnX0_sendHome_J75 (fnX0_sendHome_L5 n) v0 v1 v2 v3 v4)
    (m_bnd (fnX7_comesBack (lk v1 0) v4) fun x35 => m_br ((bI x35) = 0)
    (fnX0_sendHome_J75 (fnX0_sendHome_L5 n) v0 v1 v2 v3 v4)
    (m_bnd (fnX9_isAt v1 v4 (99 : Int32)) fun x46 => m_br ((bI x46) = 0)
    (fnX0_sendHome_J75 (fnX0_sendHome_L5 n) v0 v1 v2 v3 v4)
    (m_bnd (fnX0_send v0 v1 v4 v2) fun x57 => m_br (x57 < 0)
    (fnX0_sendHome_J75 (fnX0_sendHome_L5 n) v0 v1 v2 v3 v4)
    (m_bnd (fnX7_peopleOf (lk v1 0) v4) fun x70 => m_nm (v3 ||| x70) fun y74 => fnX0_sendHome_J75 (fnX0_sendHome_L5 n) v0 v1 v2 y74 v4)))))
set_option maxHeartbeats 4000000 in
set_option maxRecDepth 100000 in
theorem slX0_sendHome_L5 {κ : sm_X} (C : sm_C κ RX0 cX0_sendHome 5 6) : ∀ (n : Nat) (v0 : Nat) (v1 : Nat) (v2 : Int32) (v3 : Int32) (v4 : Int32) (hv0 : kd v0 = 0) (hv1 : kd v1 = 9), sm_S κ (fun r : Int32 => .inr (some (.int r))) (.inl (5, [some (xad κ v0), some (xad κ v1), some (.int v2), some (.int v3), some (.int v4)], [])) (fnX0_sendHome_L5 n v0 v1 v2 v3 v4) := by
  intro n
  induction n with
  | zero =>
    intros
    exact sr_fail
  | succ n K5 =>
    intro v0 v1 v2 v3 v4 hv0 hv1
    unfold fnX0_sendHome_L5
    refine sr_iload (i := 4) (q := 7) C (show decode cX0_sendHome 5 = .ok (.iload 4, 2) from by decide +kernel) rfl rfl ?_
    refine sr_aload_n (i := 1) (q := 8) C (show decode cX0_sendHome 7 = .ok (.aload_n 1, 1) from by decide +kernel) rfl rfl rfl ?_
    refine sr_getr (q := 11) C fl_X0_21 hv1 (show decode cX0_sendHome 8 = .ok (.getfield 21, 3) from by decide +kernel) rfl ?_
    refine sr_geti (q := 14) C fl_X0_48 (Or.inl rfl) (kt hv1 kp_9_0) (show decode cX0_sendHome 11 = .ok (.getfield 48, 3) from by decide +kernel) rfl (fun x11 => ?_)
    refine sr_icmp_ge (q := 17) C 81 (show decode cX0_sendHome 14 = .ok (.if_icmp .ge 67, 3) from by decide +kernel) (by decide) rfl ?_ ?_
    · refine sr_iload_n (i := 3) (q := 82) C (show decode cX0_sendHome 81 = .ok (.iload_n 3, 1) from by decide +kernel) rfl rfl rfl ?_
      exact sr_ireturn C _ rfl (show decode cX0_sendHome 82 = .ok (.ireturn, 1) from by decide +kernel)
    · refine sr_aload_n (i := 1) (q := 18) C (show decode cX0_sendHome 17 = .ok (.aload_n 1, 1) from by decide +kernel) rfl rfl rfl ?_
      refine sr_getr (q := 21) C fl_X0_21 hv1 (show decode cX0_sendHome 18 = .ok (.getfield 21, 3) from by decide +kernel) rfl ?_
      refine sr_iload (i := 4) (q := 23) C (show decode cX0_sendHome 21 = .ok (.iload 4, 2) from by decide +kernel) rfl rfl ?_
      refine sr_cVz (As := [.int v4]) (st := []) (b := lk v1 0) (q := 26) C yvX7_isUnit ml_X0_52 (cnX7_isUnit (xo κ) (lk v1 0) v4 (kt hv1 kp_9_0)) (kt hv1 kp_9_0) (by decide) rfl rfl rfl (by decide) (by decide) (Nat.le_of_ble_eq_true rfl) rfl (show decode cX0_sendHome 23 = .ok (.invokevirtual 52, 3) from by decide +kernel) rfl (fun x23 => ?_)
      refine sr_if_eq (q := 29) C 75 (show decode cX0_sendHome 26 = .ok (.ifCond .eq 49, 3) from by decide +kernel) (by decide) rfl ?_ ?_
      · exact slX0_sendHome_J75 C K5 v0 v1 v2 v3 v4 hv0 hv1
      · refine sr_aload_n (i := 1) (q := 30) C (show decode cX0_sendHome 29 = .ok (.aload_n 1, 1) from by decide +kernel) rfl rfl rfl ?_
        refine sr_getr (q := 33) C fl_X0_21 hv1 (show decode cX0_sendHome 30 = .ok (.getfield 21, 3) from by decide +kernel) rfl ?_
        refine sr_iload (i := 4) (q := 35) C (show decode cX0_sendHome 33 = .ok (.iload 4, 2) from by decide +kernel) rfl rfl ?_
        refine sr_cVz (As := [.int v4]) (st := []) (b := lk v1 0) (q := 38) C yvX7_comesBack ml_X0_63 (cnX7_comesBack (xo κ) (lk v1 0) v4 (kt hv1 kp_9_0)) (kt hv1 kp_9_0) (by decide) rfl rfl rfl (by decide) (by decide) (Nat.le_of_ble_eq_true rfl) rfl (show decode cX0_sendHome 35 = .ok (.invokevirtual 63, 3) from by decide +kernel) rfl (fun x35 => ?_)
        refine sr_if_eq (q := 41) C 75 (show decode cX0_sendHome 38 = .ok (.ifCond .eq 37, 3) from by decide +kernel) (by decide) rfl ?_ ?_
        · exact slX0_sendHome_J75 C K5 v0 v1 v2 v3 v4 hv0 hv1
        · refine sr_aload_n (i := 1) (q := 42) C (show decode cX0_sendHome 41 = .ok (.aload_n 1, 1) from by decide +kernel) rfl rfl rfl ?_
          refine sr_iload (i := 4) (q := 44) C (show decode cX0_sendHome 42 = .ok (.iload 4, 2) from by decide +kernel) rfl rfl ?_
          refine sr_bipush (v := (99 : Int32)) (q := 46) C (show decode cX0_sendHome 44 = .ok (.bipush 99, 2) from by decide +kernel) (by decide) rfl ?_
          refine sr_cVz (As := [.int v4, .int (99 : Int32)]) (st := []) (b := v1) (q := 49) C yvX9_isAt ml_X0_15 (cnX9_isAt (xo κ) v1 v4 (99 : Int32) hv1) hv1 (by decide) rfl rfl rfl (by decide) (by decide) (Nat.le_of_ble_eq_true rfl) rfl (show decode cX0_sendHome 46 = .ok (.invokevirtual 15, 3) from by decide +kernel) rfl (fun x46 => ?_)
          refine sr_if_eq (q := 52) C 75 (show decode cX0_sendHome 49 = .ok (.ifCond .eq 26, 3) from by decide +kernel) (by decide) rfl ?_ ?_
          · exact slX0_sendHome_J75 C K5 v0 v1 v2 v3 v4 hv0 hv1
          · refine sr_aload_n (i := 0) (q := 53) C (show decode cX0_sendHome 52 = .ok (.aload_n 0, 1) from by decide +kernel) rfl rfl rfl ?_
            refine sr_aload_n (i := 1) (q := 54) C (show decode cX0_sendHome 53 = .ok (.aload_n 1, 1) from by decide +kernel) rfl rfl rfl ?_
            refine sr_iload (i := 4) (q := 56) C (show decode cX0_sendHome 54 = .ok (.iload 4, 2) from by decide +kernel) rfl rfl ?_
            refine sr_iload_n (i := 2) (q := 57) C (show decode cX0_sendHome 56 = .ok (.iload_n 2, 1) from by decide +kernel) rfl rfl rfl ?_
            refine sr_cVi (As := [xad κ v1, .int v4, .int v2]) (st := []) (b := v0) (q := 60) C yvX0_send ml_X0_56 (cnX0_send (xo κ) v0 v1 v4 v2 hv0 hv1) hv0 (by decide) rfl rfl rfl (by decide) (by decide) (Nat.le_of_ble_eq_true rfl) rfl (show decode cX0_sendHome 57 = .ok (.invokevirtual 56, 3) from by decide +kernel) rfl (fun x57 => ?_)
            refine sr_if_lt (q := 63) C 75 (show decode cX0_sendHome 60 = .ok (.ifCond .lt 15, 3) from by decide +kernel) (by decide) rfl ?_ ?_
            · exact slX0_sendHome_J75 C K5 v0 v1 v2 v3 v4 hv0 hv1
            · refine sr_iload_n (i := 3) (q := 64) C (show decode cX0_sendHome 63 = .ok (.iload_n 3, 1) from by decide +kernel) rfl rfl rfl ?_
              refine sr_aload_n (i := 1) (q := 65) C (show decode cX0_sendHome 64 = .ok (.aload_n 1, 1) from by decide +kernel) rfl rfl rfl ?_
              refine sr_getr (q := 68) C fl_X0_21 hv1 (show decode cX0_sendHome 65 = .ok (.getfield 21, 3) from by decide +kernel) rfl ?_
              refine sr_iload (i := 4) (q := 70) C (show decode cX0_sendHome 68 = .ok (.iload 4, 2) from by decide +kernel) rfl rfl ?_
              refine sr_cVi (As := [.int v4]) (st := [.int v3]) (b := lk v1 0) (q := 73) C yvX7_peopleOf ml_X0_60 (cnX7_peopleOf (xo κ) (lk v1 0) v4 (kt hv1 kp_9_0)) (kt hv1 kp_9_0) (by decide) rfl rfl rfl (by decide) (by decide) (Nat.le_of_ble_eq_true rfl) rfl (show decode cX0_sendHome 70 = .ok (.invokevirtual 60, 3) from by decide +kernel) rfl (fun x70 => ?_)
              refine sr_ior (q := 74) C (show decode cX0_sendHome 73 = .ok (.ior, 1) from by decide +kernel) rfl ?_
              refine sr_nmi (fun y74 => ?_)
              refine sr_istore_n (i := 3) (L' := [some (xad κ v0), some (xad κ v1), some (.int v2), some (.int y74), some (.int v4)]) (q := 75) C (show decode cX0_sendHome 74 = .ok (.istore_n 3, 1) from by decide +kernel) rfl (by decide) rfl rfl ?_
              exact slX0_sendHome_J75 C K5 v0 v1 v2 y74 v4 hv0 hv1
def fnX0_sendHome (v0 : Nat) (v1 : Nat) (v2 : Int32) : sm_M Int32 := fnX0_sendHome_L5 4096 v0 v1 v2 (0 : Int32) (0 : Int32)
set_option maxHeartbeats 4000000 in
set_option maxRecDepth 100000 in
theorem slX0_sendHome {κ : sm_X} (C : sm_C κ RX0 cX0_sendHome 5 6) (v0 : Nat) (v1 : Nat) (v2 : Int32) (hv0 : kd v0 = 0) (hv1 : kd v1 = 9) : sm_S κ (fun r : Int32 => .inr (some (.int r))) (.inl (0, [some (xad κ v0), some (xad κ v1), some (.int v2), none, none], [])) (fnX0_sendHome v0 v1 v2) := by
  unfold fnX0_sendHome
  refine sr_iconst (v := (0 : Int32)) (q := 1) C (show decode cX0_sendHome 0 = .ok (.iconst 0, 1) from by decide +kernel) (by decide) rfl ?_
  refine sr_istore_n (i := 3) (L' := [some (xad κ v0), some (xad κ v1), some (.int v2), some (.int (0 : Int32)), none]) (q := 2) C (show decode cX0_sendHome 1 = .ok (.istore_n 3, 1) from by decide +kernel) rfl (by decide) rfl rfl ?_
  refine sr_iconst (v := (0 : Int32)) (q := 3) C (show decode cX0_sendHome 2 = .ok (.iconst 0, 1) from by decide +kernel) (by decide) rfl ?_
  refine sr_istore (i := 4) (L' := [some (xad κ v0), some (xad κ v1), some (.int v2), some (.int (0 : Int32)), some (.int (0 : Int32))]) (q := 5) C (show decode cX0_sendHome 3 = .ok (.istore 4, 2) from by decide +kernel) (by decide) rfl rfl ?_
  exact slX0_sendHome_L5 C 4096 v0 v1 v2 (0 : Int32) (0 : Int32) hv0 hv1
theorem cnX0_sendHome (ω : sm_O) (v0 : Nat) (v1 : Nat) (v2 : Int32) (hv0 : kd v0 = 0) (hv1 : kd v1 = 9) : sm_Mt 6 yX0_sendHome cX0_sendHome 5 (some .int) ω [.ref (ω.1 + v0), .ref (ω.1 + v1), .int v2] (fun a => some (.int a)) (fnX0_sendHome v0 v1 v2) := by
  refine sm_conI (r := fun a => a) (by decide) (fun _ => rfl) (Nat.le_of_ble_eq_true rfl) ?_
  intro κ hκ C
  subst hκ
  exact slX0_sendHome C v0 v1 v2 hv0 hv1
