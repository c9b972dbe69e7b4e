def fnX12_isSlot (v0 : Int32) : sm_M Bool := m_bnd (fnX12_in v0.toInt64 (0 : Int64) (3 : Int64)) fun x6 => m_ret x6
set_option maxHeartbeats 4000000 in
set_option maxRecDepth 100000 in
theorem slX12_isSlot {κ : sm_X} (C : sm_C κ RX12 cX12_isSlot 1 2) (v0 : Int32)  : sm_S κ (fun r : Bool => .inr (some (.int (bI r)))) (.inl (0, [some (.int v0)], [])) (fnX12_isSlot v0) := by
  unfold fnX12_isSlot
  refine sr_iload_n (i := 0) (q := 1) C (show decode cX12_isSlot 0 = .ok (.iload_n 0, 1) from by decide +kernel) rfl rfl rfl ?_
  refine sr_i2l (q := 2) C (show decode cX12_isSlot 1 = .ok (.i2l, 1) from by decide +kernel) rfl ?_
  refine sr_lconst (v := (0 : Int64)) (q := 3) C (show decode cX12_isSlot 2 = .ok (.lconst 0, 1) from by decide +kernel) (by decide) rfl ?_
  refine sr_ldc2 (q := 6) C co_X12_308 (show decode cX12_isSlot 3 = .ok (.ldc2_w 308, 3) from by decide +kernel) rfl ?_
  refine sr_cSz (As := [.long v0.toInt64, .long (0 : Int64), .long (3 : Int64)]) (st := []) (q := 9) C ysX12_in ml_X12_103 (cnX12_in (xo κ) v0.toInt64 (0 : Int64) (3 : Int64)) rfl (by decide) (by decide) (Nat.le_of_ble_eq_true rfl) rfl (show decode cX12_isSlot 6 = .ok (.invokestatic 103, 3) from by decide +kernel) rfl (fun x6 => ?_)
  exact sr_ireturn C x6 rfl (show decode cX12_isSlot 9 = .ok (.ireturn, 1) from by decide +kernel)
theorem cnX12_isSlot (ω : sm_O) (v0 : Int32)  : sm_Mt 2 yX12_isSlot cX12_isSlot 1 (some .boolean) ω [.int v0] (fun a => some (.int (bI a))) (fnX12_isSlot v0) := by
  refine sm_conI (r := bI) (by decide) bI_nar (Nat.le_of_ble_eq_true rfl) ?_
  intro κ hκ C
  subst hκ
  exact slX12_isSlot C v0
def fnX12_asksTwo (v0 : Nat) (v1 : Int32) (v2 : Int32) : sm_M Int32 := m_bnd (fnX12_isSlot v1) fun x1 => m_br ((bI x1) = 0)
    (m_ret (-2 : Int32))
    (m_bnd (fnX12_isSlot v2) fun x8 => m_br ((bI x8) = 0)
    (m_ret (-2 : Int32))
    (m_ai (lk v0 43) v1 fun x22 => m_br (x22 = (-1 : Int32))
    (m_ret (-6 : Int32))
    (m_ai (lk v0 43) v2 fun x32 => m_br (x32 = (-1 : Int32))
    (m_ret (-6 : Int32))
    (m_bnd (fnX12_areStones v0 v1) fun x42 => m_br ((bI x42) = 0)
    (m_ret (-2 : Int32))
    (m_bnd (fnX12_areStones v0 v2) fun x50 => m_br ((bI x50) = 0)
    (m_ret (-2 : Int32))
    (m_ret (0 : Int32)))))))
set_option maxHeartbeats 4000000 in
set_option maxRecDepth 100000 in
theorem slX12_asksTwo {κ : sm_X} (C : sm_C κ RX12 cX12_asksTwo 3 3) (v0 : Nat) (v1 : Int32) (v2 : Int32) (hv0 : kd v0 = 12) : sm_S κ (fun r : Int32 => .inr (some (.int r))) (.inl (0, [some (xad κ v0), some (.int v1), some (.int v2)], [])) (fnX12_asksTwo v0 v1 v2) := by
  unfold fnX12_asksTwo
  refine sr_iload_n (i := 1) (q := 1) C (show decode cX12_asksTwo 0 = .ok (.iload_n 1, 1) from by decide +kernel) rfl rfl rfl ?_
  refine sr_cSz (As := [.int v1]) (st := []) (q := 4) C ysX12_isSlot ml_X12_336 (cnX12_isSlot (xo κ) v1) rfl (by decide) (by decide) (Nat.le_of_ble_eq_true rfl) rfl (show decode cX12_asksTwo 1 = .ok (.invokestatic 336, 3) from by decide +kernel) rfl (fun x1 => ?_)
  refine sr_if_eq (q := 7) C 14 (show decode cX12_asksTwo 4 = .ok (.ifCond .eq 10, 3) from by decide +kernel) (by decide) rfl ?_ ?_
  · refine sr_bipush (v := (-2 : Int32)) (q := 16) C (show decode cX12_asksTwo 14 = .ok (.bipush (-2), 2) from by decide +kernel) (by decide) rfl ?_
    exact sr_ireturn C _ rfl (show decode cX12_asksTwo 16 = .ok (.ireturn, 1) from by decide +kernel)
  · refine sr_iload_n (i := 2) (q := 8) C (show decode cX12_asksTwo 7 = .ok (.iload_n 2, 1) from by decide +kernel) rfl rfl rfl ?_
    refine sr_cSz (As := [.int v2]) (st := []) (q := 11) C ysX12_isSlot ml_X12_336 (cnX12_isSlot (xo κ) v2) rfl (by decide) (by decide) (Nat.le_of_ble_eq_true rfl) rfl (show decode cX12_asksTwo 8 = .ok (.invokestatic 336, 3) from by decide +kernel) rfl (fun x8 => ?_)
    refine sr_if_ne (q := 14) C 17 (show decode cX12_asksTwo 11 = .ok (.ifCond .ne 6, 3) from by decide +kernel) (by decide) rfl ?_ ?_
    · refine sr_aload_n (i := 0) (q := 18) C (show decode cX12_asksTwo 17 = .ok (.aload_n 0, 1) from by decide +kernel) rfl rfl rfl ?_
      refine sr_getr (q := 21) C fl_X12_86 hv0 (show decode cX12_asksTwo 18 = .ok (.getfield 86, 3) from by decide +kernel) rfl ?_
      refine sr_iload_n (i := 1) (q := 22) C (show decode cX12_asksTwo 21 = .ok (.iload_n 1, 1) from by decide +kernel) rfl rfl rfl ?_
      refine sr_iaload (q := 23) C (kt hv0 kp_12_43) (show decode cX12_asksTwo 22 = .ok (.iaload, 1) from by decide +kernel) rfl (fun x22 => ?_)
      refine sr_iconst (v := (-1 : Int32)) (q := 24) C (show decode cX12_asksTwo 23 = .ok (.iconst (-1), 1) from by decide +kernel) (by decide) rfl ?_
      refine sr_icmp_eq (q := 27) C 37 (show decode cX12_asksTwo 24 = .ok (.if_icmp .eq 13, 3) from by decide +kernel) (by decide) rfl ?_ ?_
      · refine sr_bipush (v := (-6 : Int32)) (q := 39) C (show decode cX12_asksTwo 37 = .ok (.bipush (-6), 2) from by decide +kernel) (by decide) rfl ?_
        exact sr_ireturn C _ rfl (show decode cX12_asksTwo 39 = .ok (.ireturn, 1) from by decide +kernel)
      · refine sr_aload_n (i := 0) (q := 28) C (show decode cX12_asksTwo 27 = .ok (.aload_n 0, 1) from by decide +kernel) rfl rfl rfl ?_
        refine sr_getr (q := 31) C fl_X12_86 hv0 (show decode cX12_asksTwo 28 = .ok (.getfield 86, 3) from by decide +kernel) rfl ?_
        refine sr_iload_n (i := 2) (q := 32) C (show decode cX12_asksTwo 31 = .ok (.iload_n 2, 1) from by decide +kernel) rfl rfl rfl ?_
        refine sr_iaload (q := 33) C (kt hv0 kp_12_43) (show decode cX12_asksTwo 32 = .ok (.iaload, 1) from by decide +kernel) rfl (fun x32 => ?_)
        refine sr_iconst (v := (-1 : Int32)) (q := 34) C (show decode cX12_asksTwo 33 = .ok (.iconst (-1), 1) from by decide +kernel) (by decide) rfl ?_
        refine sr_icmp_ne (q := 37) C 40 (show decode cX12_asksTwo 34 = .ok (.if_icmp .ne 6, 3) from by decide +kernel) (by decide) rfl ?_ ?_
        · refine sr_aload_n (i := 0) (q := 41) C (show decode cX12_asksTwo 40 = .ok (.aload_n 0, 1) from by decide +kernel) rfl rfl rfl ?_
          refine sr_iload_n (i := 1) (q := 42) C (show decode cX12_asksTwo 41 = .ok (.iload_n 1, 1) from by decide +kernel) rfl rfl rfl ?_
          refine sr_cVz (As := [.int v1]) (st := []) (b := v0) (q := 45) C yvX12_areStones ml_X12_508 (cnX12_areStones (xo κ) v0 v1 hv0) hv0 (by decide) rfl rfl rfl (by decide) (by decide) (Nat.le_of_ble_eq_true rfl) rfl (show decode cX12_asksTwo 42 = .ok (.invokevirtual 508, 3) from by decide +kernel) rfl (fun x42 => ?_)
          refine sr_if_eq (q := 48) C 60 (show decode cX12_asksTwo 45 = .ok (.ifCond .eq 15, 3) from by decide +kernel) (by decide) rfl ?_ ?_
          · refine sr_bipush (v := (-2 : Int32)) (q := 62) C (show decode cX12_asksTwo 60 = .ok (.bipush (-2), 2) from by decide +kernel) (by decide) rfl ?_
            exact sr_ireturn C _ rfl (show decode cX12_asksTwo 62 = .ok (.ireturn, 1) from by decide +kernel)
          · refine sr_aload_n (i := 0) (q := 49) C (show decode cX12_asksTwo 48 = .ok (.aload_n 0, 1) from by decide +kernel) rfl rfl rfl ?_
            refine sr_iload_n (i := 2) (q := 50) C (show decode cX12_asksTwo 49 = .ok (.iload_n 2, 1) from by decide +kernel) rfl rfl rfl ?_
            refine sr_cVz (As := [.int v2]) (st := []) (b := v0) (q := 53) C yvX12_areStones ml_X12_508 (cnX12_areStones (xo κ) v0 v2 hv0) hv0 (by decide) rfl rfl rfl (by decide) (by decide) (Nat.le_of_ble_eq_true rfl) rfl (show decode cX12_asksTwo 50 = .ok (.invokevirtual 508, 3) from by decide +kernel) rfl (fun x50 => ?_)
            refine sr_if_eq (q := 56) C 60 (show decode cX12_asksTwo 53 = .ok (.ifCond .eq 7, 3) from by decide +kernel) (by decide) rfl ?_ ?_
            · refine sr_bipush (v := (-2 : Int32)) (q := 62) C (show decode cX12_asksTwo 60 = .ok (.bipush (-2), 2) from by decide +kernel) (by decide) rfl ?_
              exact sr_ireturn C _ rfl (show decode cX12_asksTwo 62 = .ok (.ireturn, 1) from by decide +kernel)
            · refine sr_iconst (v := (0 : Int32)) (q := 57) C (show decode cX12_asksTwo 56 = .ok (.iconst 0, 1) from by decide +kernel) (by decide) rfl ?_
              refine sr_goto (q := 62) C (show decode cX12_asksTwo 57 = .ok (.goto 5, 3) from by decide +kernel) (by decide) ?_
              exact sr_ireturn C _ rfl (show decode cX12_asksTwo 62 = .ok (.ireturn, 1) from by decide +kernel)
        · refine sr_bipush (v := (-6 : Int32)) (q := 39) C (show decode cX12_asksTwo 37 = .ok (.bipush (-6), 2) from by decide +kernel) (by decide) rfl ?_
          exact sr_ireturn C _ rfl (show decode cX12_asksTwo 39 = .ok (.ireturn, 1) from by decide +kernel)
    · refine sr_bipush (v := (-2 : Int32)) (q := 16) C (show decode cX12_asksTwo 14 = .ok (.bipush (-2), 2) from by decide +kernel) (by decide) rfl ?_
      exact sr_ireturn C _ rfl (show decode cX12_asksTwo 16 = .ok (.ireturn, 1) from by decide +kernel)
theorem cnX12_asksTwo (ω : sm_O) (v0 : Nat) (v1 : Int32) (v2 : Int32) (hv0 : kd v0 = 12) : sm_Mt 3 yX12_asksTwo cX12_asksTwo 3 (some .int) ω [.ref (ω.1 + v0), .int v1, .int v2] (fun a => some (.int a)) (fnX12_asksTwo v0 v1 v2) := by
  refine sm_conI (r := fun a => a) (by decide) (fun _ => rfl) (Nat.le_of_ble_eq_true rfl) ?_
  intro κ hκ C
  subst hκ
  exact slX12_asksTwo C v0 v1 v2 hv0
def fnX12_at_J31 (k4 : Nat → Int32 → Int32 → Int32 → sm_M Int32) (v0 : Nat) (v1 : Int32) (v3 : Int32) (s0 : Int32) (s1 : Int32) : sm_M Int32 := m_nm (s1 + s0) fun y32 => k4 v0 v1 y32 (v3 + (1 : Int32))
set_option maxHeartbeats 4000000 in
set_option maxRecDepth 100000 in
theorem slX12_at_J31 {κ : sm_X} (C : sm_C κ RX12 cX12_at 4 2) {k4 : Nat → Int32 → Int32 → Int32 → sm_M Int32} (K4 : ∀ (v0 : Nat) (v1 : Int32) (v2 : Int32) (v3 : Int32) (hv0 : kd v0 = 12), sm_S κ (fun r : Int32 => .inr (some (.int r))) (.inl (4, [some (xad κ v0), some (.int v1), some (.int v2), some (.int v3)], [])) (k4 v0 v1 v2 v3)) (v0 : Nat) (v1 : Int32) (v3 : Int32) (s0 : Int32) (s1 : Int32) (hv0 : kd v0 = 12) : sm_S κ (fun r : Int32 => .inr (some (.int r))) (.inl (31, [some (xad κ v0), some (.int v1), none, some (.int v3)], [.int s0, .int s1])) (fnX12_at_J31 k4 v0 v1 v3 s0 s1) := by
  unfold fnX12_at_J31
  refine sr_iadd (q := 32) C (show decode cX12_at 31 = .ok (.iadd, 1) from by decide +kernel) rfl ?_
  refine sr_nmi (fun y32 => ?_)
  refine sr_istore_n (i := 2) (L' := [some (xad κ v0), some (.int v1), some (.int y32), some (.int v3)]) (q := 33) C (show decode cX12_at 32 = .ok (.istore_n 2, 1) from by decide +kernel) rfl (by decide) rfl rfl ?_
  refine sr_iinc (v := v3 + (1 : Int32)) (L' := [some (xad κ v0), some (.int v1), some (.int y32), some (.int (v3 + (1 : Int32)))]) (q := 36) C (show decode cX12_at 33 = .ok (.iinc 3 1, 3) from by decide +kernel) rfl rfl (by decide) rfl rfl ?_
  refine sr_goto (q := 4) C (show decode cX12_at 36 = .ok (.goto (-32), 3) from by decide +kernel) (by decide) ?_
  exact K4 v0 v1 y32 (v3 + (1 : Int32)) hv0
def fnX12_at_L4 : Nat → Nat → Int32 → Int32 → Int32 → sm_M Int32
  | 0, _, _, _, _ => m_fail
  | n + 1, v0, v1, v2, v3 => m_ai (lk v0 1) (4 : Int32) fun x10 => m_br (x10 ≤ v3)
    (m_ret v2)
    (m_bnd (fnX12_of v0 v3 (6 : Int32)) fun x19 => m_br (x19 = v1)
    (fnX12_at_J31 (fnX12_at_L4 n) v0 v1 v3 (1 : Int32) v2)
    (fnX12_at_J31 (fnX12_at_L4 n) v0 v1 v3 (0 : Int32) v2))
set_option maxHeartbeats 4000000 in
set_option maxRecDepth 100000 in
theorem slX12_at_L4 {κ : sm_X} (C : sm_C κ RX12 cX12_at 4 2) : ∀ (n : Nat) (v0 : Nat) (v1 : Int32) (v2 : Int32) (v3 : Int32) (hv0 : kd v0 = 12), sm_S κ (fun r : Int32 => .inr (some (.int r))) (.inl (4, [some (xad κ v0), some (.int v1), some (.int v2), some (.int v3)], [])) (fnX12_at_L4 n v0 v1 v2 v3) := by
  intro n
  induction n with
  | zero =>
    intros
    exact sr_fail
  | succ n K4 =>
    intro v0 v1 v2 v3 hv0
    unfold fnX12_at_L4
    refine sr_iload_n (i := 3) (q := 5) C (show decode cX12_at 4 = .ok (.iload_n 3, 1) from by decide +kernel) rfl rfl rfl ?_
    refine sr_aload_n (i := 0) (q := 6) C (show decode cX12_at 5 = .ok (.aload_n 0, 1) from by decide +kernel) rfl rfl rfl ?_
    refine sr_getr (q := 9) C fl_X12_9 hv0 (show decode cX12_at 6 = .ok (.getfield 9, 3) from by decide +kernel) rfl ?_
    refine sr_iconst (v := (4 : Int32)) (q := 10) C (show decode cX12_at 9 = .ok (.iconst 4, 1) from by decide +kernel) (by decide) rfl ?_
    refine sr_iaload (q := 11) C (kt hv0 kp_12_1) (show decode cX12_at 10 = .ok (.iaload, 1) from by decide +kernel) rfl (fun x10 => ?_)
    refine sr_icmp_ge (q := 14) C 39 (show decode cX12_at 11 = .ok (.if_icmp .ge 28, 3) from by decide +kernel) (by decide) rfl ?_ ?_
    · refine sr_iload_n (i := 2) (q := 40) C (show decode cX12_at 39 = .ok (.iload_n 2, 1) from by decide +kernel) rfl rfl rfl ?_
      exact sr_ireturn C _ rfl (show decode cX12_at 40 = .ok (.ireturn, 1) from by decide +kernel)
    · refine sr_iload_n (i := 2) (q := 15) C (show decode cX12_at 14 = .ok (.iload_n 2, 1) from by decide +kernel) rfl rfl rfl ?_
      refine sr_aload_n (i := 0) (q := 16) C (show decode cX12_at 15 = .ok (.aload_n 0, 1) from by decide +kernel) rfl rfl rfl ?_
      refine sr_iload_n (i := 3) (q := 17) C (show decode cX12_at 16 = .ok (.iload_n 3, 1) from by decide +kernel) rfl rfl rfl ?_
      refine sr_bipush (v := (6 : Int32)) (q := 19) C (show decode cX12_at 17 = .ok (.bipush 6, 2) from by decide +kernel) (by decide) rfl ?_
      refine sr_cVi (As := [.int v3, .int (6 : Int32)]) (st := [.int v2]) (b := v0) (q := 22) C yvX12_of ml_X12_289 (cnX12_of (xo κ) v0 v3 (6 : Int32) hv0) hv0 (by decide) rfl rfl rfl (by decide) (by decide) (Nat.le_of_ble_eq_true rfl) rfl (show decode cX12_at 19 = .ok (.invokevirtual 289, 3) from by decide +kernel) rfl (fun x19 => ?_)
      refine sr_iload_n (i := 1) (q := 23) C (show decode cX12_at 22 = .ok (.iload_n 1, 1) from by decide +kernel) rfl rfl rfl ?_
      refine sr_icmp_ne (q := 26) C 30 (show decode cX12_at 23 = .ok (.if_icmp .ne 7, 3) from by decide +kernel) (by decide) rfl ?_ ?_
      · refine sr_iconst (v := (0 : Int32)) (q := 31) C (show decode cX12_at 30 = .ok (.iconst 0, 1) from by decide +kernel) (by decide) rfl ?_
        refine sr_weak (L' := [some (xad κ v0), some (.int v1), none, some (.int v3)]) ⟨rfl, rfl, rfl, trivial⟩ ?_
        exact slX12_at_J31 C K4 v0 v1 v3 (0 : Int32) v2 hv0
      · refine sr_iconst (v := (1 : Int32)) (q := 27) C (show decode cX12_at 26 = .ok (.iconst 1, 1) from by decide +kernel) (by decide) rfl ?_
        refine sr_goto (q := 31) C (show decode cX12_at 27 = .ok (.goto 4, 3) from by decide +kernel) (by decide) ?_
        refine sr_weak (L' := [some (xad κ v0), some (.int v1), none, some (.int v3)]) ⟨rfl, rfl, rfl, trivial⟩ ?_
        exact slX12_at_J31 C K4 v0 v1 v3 (1 : Int32) v2 hv0
def fnX12_at (v0 : Nat) (v1 : Int32) : sm_M Int32 := fnX12_at_L4 4096 v0 v1 (0 : Int32) (0 : Int32)
set_option maxHeartbeats 4000000 in
set_option maxRecDepth 100000 in
theorem slX12_at {κ : sm_X} (C : sm_C κ RX12 cX12_at 4 2) (v0 : Nat) (v1 : Int32) (hv0 : kd v0 = 12) : sm_S κ (fun r : Int32 => .inr (some (.int r))) (.inl (0, [some (xad κ v0), some (.int v1), none, none], [])) (fnX12_at v0 v1) := by
  unfold fnX12_at
  refine sr_iconst (v := (0 : Int32)) (q := 1) C (show decode cX12_at 0 = .ok (.iconst 0, 1) from by decide +kernel) (by decide) rfl ?_
  refine sr_istore_n (i := 2) (L' := [some (xad κ v0), some (.int v1), some (.int (0 : Int32)), none]) (q := 2) C (show decode cX12_at 1 = .ok (.istore_n 2, 1) from by decide +kernel) rfl (by decide) rfl rfl ?_
  refine sr_iconst (v := (0 : Int32)) (q := 3) C (show decode cX12_at 2 = .ok (.iconst 0, 1) from by decide +kernel) (by decide) rfl ?_
  refine sr_istore_n (i := 3) (L' := [some (xad κ v0), some (.int v1), some (.int (0 : Int32)), some (.int (0 : Int32))]) (q := 4) C (show decode cX12_at 3 = .ok (.istore_n 3, 1) from by decide +kernel) rfl (by decide) rfl rfl ?_
  exact slX12_at_L4 C 4096 v0 v1 (0 : Int32) (0 : Int32) hv0
theorem cnX12_at (ω : sm_O) (v0 : Nat) (v1 : Int32) (hv0 : kd v0 = 12) : sm_Mt 2 yX12_at cX12_at 4 (some .int) ω [.ref (ω.1 + v0), .int v1] (fun a => some (.int a)) (fnX12_at v0 v1) := by
  refine sm_conI (r := fun a => a) (by decide) (fun _ => rfl) (Nat.le_of_ble_eq_true rfl) ?_
  intro κ hκ C
  subst hκ
  exact slX12_at C v0 v1 hv0
def fnX12_back_L29 : Nat → Nat → Int32 → Int32 → sm_M Int32
  | 0, _, _, _ => m_fail
  | n + 1, v0, v1, v2 => m_br ((241 : Int32) ≤ v2)
    (m_ret (0 : Int32))
    (m_ai (lk v0 2) (((241 : Int32) * v1) + v2) fun x52 => m_sai (lk v0 1) v2 x52 <| (fnX12_back_L29 n) v0 v1 (v2 + (1 : Int32)))
set_option maxHeartbeats 4000000 in
set_option maxRecDepth 100000 in
theorem slX12_back_L29 {κ : sm_X} (C : sm_C κ RX12 cX12_back 3 2) : ∀ (n : Nat) (v0 : Nat) (v1 : Int32) (v2 : Int32) (hv0 : kd v0 = 12), sm_S κ (fun r : Int32 => .inr (some (.int r))) (.inl (29, [some (xad κ v0), some (.int v1), some (.int v2)], [])) (fnX12_back_L29 n v0 v1 v2) := by
  intro n
  induction n with
  | zero =>
    intros
    exact sr_fail
  | succ n K29 =>
    intro v0 v1 v2 hv0
    unfold fnX12_back_L29
    refine sr_iload_n (i := 2) (q := 30) C (show decode cX12_back 29 = .ok (.iload_n 2, 1) from by decide +kernel) rfl rfl rfl ?_
    refine sr_sipush (v := (241 : Int32)) (q := 33) C (show decode cX12_back 30 = .ok (.sipush 241, 3) from by decide +kernel) (by decide) rfl ?_
    refine sr_icmp_ge (q := 36) C 60 (show decode cX12_back 33 = .ok (.if_icmp .ge 27, 3) from by decide +kernel) (by decide) rfl ?_ ?_
    · refine sr_iconst (v := (0 : Int32)) (q := 61) C (show decode cX12_back 60 = .ok (.iconst 0, 1) from by decide +kernel) (by decide) rfl ?_
      exact sr_ireturn C _ rfl (show decode cX12_back 61 = .ok (.ireturn, 1) from by decide +kernel)
    · refine sr_aload_n (i := 0) (q := 37) C (show decode cX12_back 36 = .ok (.aload_n 0, 1) from by decide +kernel) rfl rfl rfl ?_
      refine sr_getr (q := 40) C fl_X12_9 hv0 (show decode cX12_back 37 = .ok (.getfield 9, 3) from by decide +kernel) rfl ?_
      refine sr_iload_n (i := 2) (q := 41) C (show decode cX12_back 40 = .ok (.iload_n 2, 1) from by decide +kernel) rfl rfl rfl ?_
      refine sr_aload_n (i := 0) (q := 42) C (show decode cX12_back 41 = .ok (.aload_n 0, 1) from by decide +kernel) rfl rfl rfl ?_
      refine sr_getr (q := 45) C fl_X12_13 hv0 (show decode cX12_back 42 = .ok (.getfield 13, 3) from by decide +kernel) rfl ?_
      refine sr_sipush (v := (241 : Int32)) (q := 48) C (show decode cX12_back 45 = .ok (.sipush 241, 3) from by decide +kernel) (by decide) rfl ?_
      refine sr_iload_n (i := 1) (q := 49) C (show decode cX12_back 48 = .ok (.iload_n 1, 1) from by decide +kernel) rfl rfl rfl ?_
      refine sr_imul (q := 50) C (show decode cX12_back 49 = .ok (.imul, 1) from by decide +kernel) rfl ?_
      refine sr_iload_n (i := 2) (q := 51) C (show decode cX12_back 50 = .ok (.iload_n 2, 1) from by decide +kernel) rfl rfl rfl ?_
      refine sr_iadd (q := 52) C (show decode cX12_back 51 = .ok (.iadd, 1) from by decide +kernel) rfl ?_
      refine sr_iaload (q := 53) C (kt hv0 kp_12_2) (show decode cX12_back 52 = .ok (.iaload, 1) from by decide +kernel) rfl (fun x52 => ?_)
      refine sr_iastore (q := 54) C (kt hv0 kp_12_1) (show decode cX12_back 53 = .ok (.iastore, 1) from by decide +kernel) rfl ?_
      refine sr_iinc (v := v2 + (1 : Int32)) (L' := [some (xad κ v0), some (.int v1), some (.int (v2 + (1 : Int32)))]) (q := 57) C (show decode cX12_back 54 = .ok (.iinc 2 1, 3) from by decide +kernel) rfl rfl (by decide) rfl rfl ?_
      refine sr_goto (q := 29) C (show decode cX12_back 57 = .ok (.goto (-28), 3) from by decide +kernel) (by decide) ?_
      exact K29 v0 v1 (v2 + (1 : Int32)) hv0
def fnX12_back (v0 : Nat) (v1 : Int32) : sm_M Int32 := m_bnd (fnX12_in v1.toInt64 (0 : Int64) (2 : Int64)) fun x6 => m_br ((bI x6) = 0)
    (m_ret (-2 : Int32))
    (m_ai (lk v0 3) v1 fun x20 => m_br (x20 = 0)
    (m_ret (-6 : Int32))
    (fnX12_back_L29 4096 v0 v1 (0 : Int32)))
set_option maxHeartbeats 4000000 in
set_option maxRecDepth 100000 in
theorem slX12_back {κ : sm_X} (C : sm_C κ RX12 cX12_back 3 2) (v0 : Nat) (v1 : Int32) (hv0 : kd v0 = 12) : sm_S κ (fun r : Int32 => .inr (some (.int r))) (.inl (0, [some (xad κ v0), some (.int v1), none], [])) (fnX12_back v0 v1) := by
  unfold fnX12_back
  refine sr_iload_n (i := 1) (q := 1) C (show decode cX12_back 0 = .ok (.iload_n 1, 1) from by decide +kernel) rfl rfl rfl ?_
  refine sr_i2l (q := 2) C (show decode cX12_back 1 = .ok (.i2l, 1) from by decide +kernel) rfl ?_
  refine sr_lconst (v := (0 : Int64)) (q := 3) C (show decode cX12_back 2 = .ok (.lconst 0, 1) from by decide +kernel) (by decide) rfl ?_
  refine sr_ldc2 (q := 6) C co_X12_101 (show decode cX12_back 3 = .ok (.ldc2_w 101, 3) from by decide +kernel) rfl ?_
  refine sr_cSz (As := [.long v1.toInt64, .long (0 : Int64), .long (2 : Int64)]) (st := []) (q := 9) C ysX12_in ml_X12_103 (cnX12_in (xo κ) v1.toInt64 (0 : Int64) (2 : Int64)) rfl (by decide) (by decide) (Nat.le_of_ble_eq_true rfl) rfl (show decode cX12_back 6 = .ok (.invokestatic 103, 3) from by decide +kernel) rfl (fun x6 => ?_)
  refine sr_if_ne (q := 12) C 15 (show decode cX12_back 9 = .ok (.ifCond .ne 6, 3) from by decide +kernel) (by decide) rfl ?_ ?_
  · refine sr_aload_n (i := 0) (q := 16) C (show decode cX12_back 15 = .ok (.aload_n 0, 1) from by decide +kernel) rfl rfl rfl ?_
    refine sr_getr (q := 19) C fl_X12_16 hv0 (show decode cX12_back 16 = .ok (.getfield 16, 3) from by decide +kernel) rfl ?_
    refine sr_iload_n (i := 1) (q := 20) C (show decode cX12_back 19 = .ok (.iload_n 1, 1) from by decide +kernel) rfl rfl rfl ?_
    refine sr_zaload (q := 21) C (kt hv0 kp_12_3) (show decode cX12_back 20 = .ok (.baload, 1) from by decide +kernel) rfl (fun x20 => ?_)
    refine sr_if_ne (q := 24) C 27 (show decode cX12_back 21 = .ok (.ifCond .ne 6, 3) from by decide +kernel) (by decide) rfl ?_ ?_
    · refine sr_iconst (v := (0 : Int32)) (q := 28) C (show decode cX12_back 27 = .ok (.iconst 0, 1) from by decide +kernel) (by decide) rfl ?_
      refine sr_istore_n (i := 2) (L' := [some (xad κ v0), some (.int v1), some (.int (0 : Int32))]) (q := 29) C (show decode cX12_back 28 = .ok (.istore_n 2, 1) from by decide +kernel) rfl (by decide) rfl rfl ?_
      exact slX12_back_L29 C 4096 v0 v1 (0 : Int32) hv0
    · refine sr_bipush (v := (-6 : Int32)) (q := 26) C (show decode cX12_back 24 = .ok (.bipush (-6), 2) from by decide +kernel) (by decide) rfl ?_
      exact sr_ireturn C _ rfl (show decode cX12_back 26 = .ok (.ireturn, 1) from by decide +kernel)
  · refine sr_bipush (v := (-2 : Int32)) (q := 14) C (show decode cX12_back 12 = .ok (.bipush (-2), 2) from by decide +kernel) (by decide) rfl ?_
    exact sr_ireturn C _ rfl (show decode cX12_back 14 = .ok (.ireturn, 1) from by decide +kernel)
theorem cnX12_back (ω : sm_O) (v0 : Nat) (v1 : Int32) (hv0 : kd v0 = 12) : sm_Mt 2 yX12_back cX12_back 3 (some .int) ω [.ref (ω.1 + v0), .int v1] (fun a => some (.int a)) (fnX12_back v0 v1) := by
  refine sm_conI (r := fun a => a) (by decide) (fun _ => rfl) (Nat.le_of_ble_eq_true rfl) ?_
  intro κ hκ C
  subst hκ
  exact slX12_back C v0 v1 hv0
def fnX12_fillNodes_L44 : Nat → Nat → Int32 → Int32 → sm_M Unit
  | 0, _, _, _ => m_fail
  | n + 1, v0, v1, v2 => m_ai (lk v0 1) (3 : Int32) fun x50 => m_br (x50 ≤ v2)
    (m_ret ())
    (m_bnd (fnX12_ofStone v0 v2 (0 : Int32)) fun x58 => m_bnd (fnX12_ofStone v0 v2 (1 : Int32)) fun x64 => m_bnd (fnX12_left v0 v2) fun x69 => m_gd (¬ v1 = 0) <| m_bnd (fnX12_addNode v0 x58 x64 (x69 / v1)) fun _ => (fnX12_fillNodes_L44 n) v0 v1 (v2 + (1 : Int32)))
set_option maxHeartbeats 4000000 in
set_option maxRecDepth 100000 in
theorem slX12_fillNodes_L44 {κ : sm_X} (C : sm_C κ RX12 cX12_fillNodes 3 4) : ∀ (n : Nat) (v0 : Nat) (v1 : Int32) (v2 : Int32) (hv0 : kd v0 = 12), sm_S κ (fun _ : Unit => .inr none) (.inl (44, [some (xad κ v0), some (.int v1), some (.int v2)], [])) (fnX12_fillNodes_L44 n v0 v1 v2) := by
  intro n
  induction n with
  | zero =>
    intros
    exact sr_fail
  | succ n K44 =>
    intro v0 v1 v2 hv0
    unfold fnX12_fillNodes_L44
    refine sr_iload_n (i := 2) (q := 45) C (show decode cX12_fillNodes 44 = .ok (.iload_n 2, 1) from by decide +kernel) rfl rfl rfl ?_
    refine sr_aload_n (i := 0) (q := 46) C (show decode cX12_fillNodes 45 = .ok (.aload_n 0, 1) from by decide +kernel) rfl rfl rfl ?_
    refine sr_getr (q := 49) C fl_X12_9 hv0 (show decode cX12_fillNodes 46 = .ok (.getfield 9, 3) from by decide +kernel) rfl ?_
    refine sr_iconst (v := (3 : Int32)) (q := 50) C (show decode cX12_fillNodes 49 = .ok (.iconst 3, 1) from by decide +kernel) (by decide) rfl ?_
    refine sr_iaload (q := 51) C (kt hv0 kp_12_1) (show decode cX12_fillNodes 50 = .ok (.iaload, 1) from by decide +kernel) rfl (fun x50 => ?_)
    refine sr_icmp_ge (q := 54) C 83 (show decode cX12_fillNodes 51 = .ok (.if_icmp .ge 32, 3) from by decide +kernel) (by decide) rfl ?_ ?_
    · exact sr_vreturn C _ rfl (show decode cX12_fillNodes 83 = .ok (.return_, 1) from by decide +kernel)
    · refine sr_aload_n (i := 0) (q := 55) C (show decode cX12_fillNodes 54 = .ok (.aload_n 0, 1) from by decide +kernel) rfl rfl rfl ?_
      refine sr_aload_n (i := 0) (q := 56) C (show decode cX12_fillNodes 55 = .ok (.aload_n 0, 1) from by decide +kernel) rfl rfl rfl ?_
      refine sr_iload_n (i := 2) (q := 57) C (show decode cX12_fillNodes 56 = .ok (.iload_n 2, 1) from by decide +kernel) rfl rfl rfl ?_
      refine sr_iconst (v := (0 : Int32)) (q := 58) C (show decode cX12_fillNodes 57 = .ok (.iconst 0, 1) from by decide +kernel) (by decide) rfl ?_
      refine sr_cVi (As := [.int v2, .int (0 : Int32)]) (st := [xad κ v0]) (b := v0) (q := 61) C yvX12_ofStone ml_X12_239 (cnX12_ofStone (xo κ) v0 v2 (0 : Int32) hv0) hv0 (by decide) rfl rfl rfl (by decide) (by decide) (Nat.le_of_ble_eq_true rfl) rfl (show decode cX12_fillNodes 58 = .ok (.invokevirtual 239, 3) from by decide +kernel) rfl (fun x58 => ?_)
      refine sr_aload_n (i := 0) (q := 62) C (show decode cX12_fillNodes 61 = .ok (.aload_n 0, 1) from by decide +kernel) rfl rfl rfl ?_
      refine sr_iload_n (i := 2) (q := 63) C (show decode cX12_fillNodes 62 = .ok (.iload_n 2, 1) from by decide +kernel) rfl rfl rfl ?_
      refine sr_iconst (v := (1 : Int32)) (q := 64) C (show decode cX12_fillNodes 63 = .ok (.iconst 1, 1) from by decide +kernel) (by decide) rfl ?_
      refine sr_cVi (As := [.int v2, .int (1 : Int32)]) (st := [.int x58, xad κ v0]) (b := v0) (q := 67) C yvX12_ofStone ml_X12_239 (cnX12_ofStone (xo κ) v0 v2 (1 : Int32) hv0) hv0 (by decide) rfl rfl rfl (by decide) (by decide) (Nat.le_of_ble_eq_true rfl) rfl (show decode cX12_fillNodes 64 = .ok (.invokevirtual 239, 3) from by decide +kernel) rfl (fun x64 => ?_)
      refine sr_aload_n (i := 0) (q := 68) C (show decode cX12_fillNodes 67 = .ok (.aload_n 0, 1) from by decide +kernel) rfl rfl rfl ?_
      refine sr_iload_n (i := 2) (q := 69) C (show decode cX12_fillNodes 68 = .ok (.iload_n 2, 1) from by decide +kernel) rfl rfl rfl ?_
      refine sr_cVi (As := [.int v2]) (st := [.int x64, .int x58, xad κ v0]) (b := v0) (q := 72) C yvX12_left ml_X12_250 (cnX12_left (xo κ) v0 v2 hv0) hv0 (by decide) rfl rfl rfl (by decide) (by decide) (Nat.le_of_ble_eq_true rfl) rfl (show decode cX12_fillNodes 69 = .ok (.invokevirtual 250, 3) from by decide +kernel) rfl (fun x69 => ?_)
      refine sr_iload_n (i := 1) (q := 73) C (show decode cX12_fillNodes 72 = .ok (.iload_n 1, 1) from by decide +kernel) rfl rfl rfl ?_
      refine sr_idiv (q := 74) C (show decode cX12_fillNodes 73 = .ok (.idiv, 1) from by decide +kernel) rfl ?_
      refine sr_cVv (As := [.int x58, .int x64, .int (x69 / v1)]) (st := []) (b := v0) (q := 77) C yvX12_addNode ml_X12_435 (cnX12_addNode (xo κ) v0 x58 x64 (x69 / v1) hv0) hv0 (by decide) rfl rfl rfl (by decide) (by decide) (Nat.le_of_ble_eq_true rfl) rfl (show decode cX12_fillNodes 74 = .ok (.invokevirtual 435, 3) from by decide +kernel) rfl (fun _ => ?_)
      refine sr_iinc (v := v2 + (1 : Int32)) (L' := [some (xad κ v0), some (.int v1), some (.int (v2 + (1 : Int32)))]) (q := 80) C (show decode cX12_fillNodes 77 = .ok (.iinc 2 1, 3) from by decide +kernel) rfl rfl (by decide) rfl rfl ?_
      refine sr_goto (q := 44) C (show decode cX12_fillNodes 80 = .ok (.goto (-36), 3) from by decide +kernel) (by decide) ?_
      exact K44 v0 v1 (v2 + (1 : Int32)) hv0
def fnX12_fillNodes (v0 : Nat) (v1 : Int32) : sm_M Unit := m_si v0 35 (2 : Int32) <| m_sai (lk v0 33) (0 : Int32) (0 : Int32) <| m_ai (lk v0 1) (1 : Int32) fun x22 => m_sai (lk v0 33) (1 : Int32) x22 <| m_sai (lk v0 34) (0 : Int32) (999 : Int32) <| m_sai (lk v0 34) (1 : Int32) (999 : Int32) <| fnX12_fillNodes_L44 4096 v0 v1 (0 : Int32)
set_option maxHeartbeats 4000000 in
set_option maxRecDepth 100000 in
theorem slX12_fillNodes {κ : sm_X} (C : sm_C κ RX12 cX12_fillNodes 3 4) (v0 : Nat) (v1 : Int32) (hv0 : kd v0 = 12) : sm_S κ (fun _ : Unit => .inr none) (.inl (0, [some (xad κ v0), some (.int v1), none], [])) (fnX12_fillNodes v0 v1) := by
  unfold fnX12_fillNodes
  refine sr_aload_n (i := 0) (q := 1) C (show decode cX12_fillNodes 0 = .ok (.aload_n 0, 1) from by decide +kernel) rfl rfl rfl ?_
  refine sr_iconst (v := (2 : Int32)) (q := 2) C (show decode cX12_fillNodes 1 = .ok (.iconst 2, 1) from by decide +kernel) (by decide) rfl ?_
  refine sr_puti (q := 5) C fp_X12_432 hv0 (show decode cX12_fillNodes 2 = .ok (.putfield 432, 3) from by decide +kernel) rfl ?_
  refine sr_aload_n (i := 0) (q := 6) C (show decode cX12_fillNodes 5 = .ok (.aload_n 0, 1) from by decide +kernel) rfl rfl rfl ?_
  refine sr_getr (q := 9) C fl_X12_61 hv0 (show decode cX12_fillNodes 6 = .ok (.getfield 61, 3) from by decide +kernel) rfl ?_
  refine sr_iconst (v := (0 : Int32)) (q := 10) C (show decode cX12_fillNodes 9 = .ok (.iconst 0, 1) from by decide +kernel) (by decide) rfl ?_
  refine sr_iconst (v := (0 : Int32)) (q := 11) C (show decode cX12_fillNodes 10 = .ok (.iconst 0, 1) from by decide +kernel) (by decide) rfl ?_
  refine sr_iastore (q := 12) C (kt hv0 kp_12_33) (show decode cX12_fillNodes 11 = .ok (.iastore, 1) from by decide +kernel) rfl ?_
  refine sr_aload_n (i := 0) (q := 13) C (show decode cX12_fillNodes 12 = .ok (.aload_n 0, 1) from by decide +kernel) rfl rfl rfl ?_
  refine sr_getr (q := 16) C fl_X12_61 hv0 (show decode cX12_fillNodes 13 = .ok (.getfield 61, 3) from by decide +kernel) rfl ?_
  refine sr_iconst (v := (1 : Int32)) (q := 17) C (show decode cX12_fillNodes 16 = .ok (.iconst 1, 1) from by decide +kernel) (by decide) rfl ?_
  refine sr_aload_n (i := 0) (q := 18) C (show decode cX12_fillNodes 17 = .ok (.aload_n 0, 1) from by decide +kernel) rfl rfl rfl ?_
  refine sr_getr (q := 21) C fl_X12_9 hv0 (show decode cX12_fillNodes 18 = .ok (.getfield 9, 3) from by decide +kernel) rfl ?_
  refine sr_iconst (v := (1 : Int32)) (q := 22) C (show decode cX12_fillNodes 21 = .ok (.iconst 1, 1) from by decide +kernel) (by decide) rfl ?_
  refine sr_iaload (q := 23) C (kt hv0 kp_12_1) (show decode cX12_fillNodes 22 = .ok (.iaload, 1) from by decide +kernel) rfl (fun x22 => ?_)
  refine sr_iastore (q := 24) C (kt hv0 kp_12_33) (show decode cX12_fillNodes 23 = .ok (.iastore, 1) from by decide +kernel) rfl ?_
  refine sr_aload_n (i := 0) (q := 25) C (show decode cX12_fillNodes 24 = .ok (.aload_n 0, 1) from by decide +kernel) rfl rfl rfl ?_
  refine sr_getr (q := 28) C fl_X12_64 hv0 (show decode cX12_fillNodes 25 = .ok (.getfield 64, 3) from by decide +kernel) rfl ?_
  refine sr_iconst (v := (0 : Int32)) (q := 29) C (show decode cX12_fillNodes 28 = .ok (.iconst 0, 1) from by decide +kernel) (by decide) rfl ?_
  refine sr_sipush (v := (999 : Int32)) (q := 32) C (show decode cX12_fillNodes 29 = .ok (.sipush 999, 3) from by decide +kernel) (by decide) rfl ?_
  refine sr_iastore (q := 33) C (kt hv0 kp_12_34) (show decode cX12_fillNodes 32 = .ok (.iastore, 1) from by decide +kernel) rfl ?_
  refine sr_aload_n (i := 0) (q := 34) C (show decode cX12_fillNodes 33 = .ok (.aload_n 0, 1) from by decide +kernel) rfl rfl rfl ?_
  refine sr_getr (q := 37) C fl_X12_64 hv0 (show decode cX12_fillNodes 34 = .ok (.getfield 64, 3) from by decide +kernel) rfl ?_
  refine sr_iconst (v := (1 : Int32)) (q := 38) C (show decode cX12_fillNodes 37 = .ok (.iconst 1, 1) from by decide +kernel) (by decide) rfl ?_
  refine sr_sipush (v := (999 : Int32)) (q := 41) C (show decode cX12_fillNodes 38 = .ok (.sipush 999, 3) from by decide +kernel) (by decide) rfl ?_
  refine sr_iastore (q := 42) C (kt hv0 kp_12_34) (show decode cX12_fillNodes 41 = .ok (.iastore, 1) from by decide +kernel) rfl ?_
  refine sr_iconst (v := (0 : Int32)) (q := 43) C (show decode cX12_fillNodes 42 = .ok (.iconst 0, 1) from by decide +kernel) (by decide) rfl ?_
  refine sr_istore_n (i := 2) (L' := [some (xad κ v0), some (.int v1), some (.int (0 : Int32))]) (q := 44) C (show decode cX12_fillNodes 43 = .ok (.istore_n 2, 1) from by decide +kernel) rfl (by decide) rfl rfl ?_
  exact slX12_fillNodes_L44 C 4096 v0 v1 (0 : Int32) hv0
theorem cnX12_fillNodes (ω : sm_O) (v0 : Nat) (v1 : Int32) (hv0 : kd v0 = 12) : sm_Mt 4 yX12_fillNodes cX12_fillNodes 3 none ω [.ref (ω.1 + v0), .int v1] (fun _ => none) (fnX12_fillNodes v0 v1) := by
  refine sm_conV (by decide) (Nat.le_of_ble_eq_true rfl) ?_
  intro κ hκ C
  subst hκ
  exact slX12_fillNodes C v0 v1 hv0
def fnX12_fillRoom_J129 (k2 : Nat → Int32 → Int32 → sm_M Unit) (v0 : Nat) (v1 : Int32) (v2 : Int32) : sm_M Unit := k2 v0 v1 (v2 + (1 : Int32))
set_option maxHeartbeats 4000000 in
set_option maxRecDepth 100000 in
theorem slX12_fillRoom_J129 {κ : sm_X} (C : sm_C κ RX12 cX12_fillRoom 4 2) {k2 : Nat → Int32 → Int32 → sm_M Unit} (K2 : ∀ (v0 : Nat) (v1 : Int32) (v2 : Int32) (hv0 : kd v0 = 12), sm_S κ (fun _ : Unit => .inr none) (.inl (2, [some (xad κ v0), some (.int v1), some (.int v2), none], [])) (k2 v0 v1 v2)) (v0 : Nat) (v1 : Int32) (v2 : Int32) (hv0 : kd v0 = 12) : sm_S κ (fun _ : Unit => .inr none) (.inl (129, [some (xad κ v0), some (.int v1), some (.int v2), none], [])) (fnX12_fillRoom_J129 k2 v0 v1 v2) := by
  unfold fnX12_fillRoom_J129
  refine sr_iinc (v := v2 + (1 : Int32)) (L' := [some (xad κ v0), some (.int v1), some (.int (v2 + (1 : Int32))), none]) (q := 132) C (show decode cX12_fillRoom 129 = .ok (.iinc 2 1, 3) from by decide +kernel) rfl rfl (by decide) rfl rfl ?_
  refine sr_goto (q := 2) C (show decode cX12_fillRoom 132 = .ok (.goto (-130), 3) from by decide +kernel) (by decide) ?_
  exact K2 v0 v1 (v2 + (1 : Int32)) hv0
def fnX12_fillRoom_J122 (k2 : Nat → Int32 → Int32 → sm_M Unit) (k12 : Nat → Int32 → Int32 → Int32 → sm_M Unit) (v0 : Nat) (v1 : Int32) (v2 : Int32) (v3 : Int32) (s0 : Int32) (s1 : Int32) (s2 : Nat) : sm_M Unit := m_sai s2 s1 s0 <| k12 v0 v1 v2 (v3 + (1 : Int32))
set_option maxHeartbeats 4000000 in
set_option maxRecDepth 100000 in
theorem slX12_fillRoom_J122 {κ : sm_X} (C : sm_C κ RX12 cX12_fillRoom 4 2) {k2 : Nat → Int32 → Int32 → sm_M Unit} (K2 : ∀ (v0 : Nat) (v1 : Int32) (v2 : Int32) (hv0 : kd v0 = 12), sm_S κ (fun _ : Unit => .inr none) (.inl (2, [some (xad κ v0), some (.int v1), some (.int v2), none], [])) (k2 v0 v1 v2)) {k12 : Nat → Int32 → Int32 → Int32 → sm_M Unit} (K12 : ∀ (v0 : Nat) (v1 : Int32) (v2 : Int32) (v3 : Int32) (hv0 : kd v0 = 12), sm_S κ (fun _ : Unit => .inr none) (.inl (12, [some (xad κ v0), some (.int v1), some (.int v2), some (.int v3)], [])) (k12 v0 v1 v2 v3)) (v0 : Nat) (v1 : Int32) (v2 : Int32) (v3 : Int32) (s0 : Int32) (s1 : Int32) (s2 : Nat) (hv0 : kd v0 = 12) (hs2 : kd s2 = 20) : sm_S κ (fun _ : Unit => .inr none) (.inl (122, [some (xad κ v0), some (.int v1), some (.int v2), some (.int v3)], [.int s0, .int s1, xad κ s2])) (fnX12_fillRoom_J122 k2 k12 v0 v1 v2 v3 s0 s1 s2) := by
  unfold fnX12_fillRoom_J122
  refine sr_iastore (q := 123) C hs2 (show decode cX12_fillRoom 122 = .ok (.iastore, 1) from by decide +kernel) rfl ?_
  refine sr_iinc (v := v3 + (1 : Int32)) (L' := [some (xad κ v0), some (.int v1), some (.int v2), some (.int (v3 + (1 : Int32)))]) (q := 126) C (show decode cX12_fillRoom 123 = .ok (.iinc 3 1, 3) from by decide +kernel) rfl rfl (by decide) rfl rfl ?_
  refine sr_goto (q := 12) C (show decode cX12_fillRoom 126 = .ok (.goto (-114), 3) from by decide +kernel) (by decide) ?_
  exact K12 v0 v1 v2 (v3 + (1 : Int32)) hv0
def fnX12_fillRoom_J121 (k2 : Nat → Int32 → Int32 → sm_M Unit) (k12 : Nat → Int32 → Int32 → Int32 → sm_M Unit) (v0 : Nat) (v1 : Int32) (v2 : Int32) (v3 : Int32) (s0 : Int32) (s1 : Nat) : sm_M Unit := fnX12_fillRoom_J122 k2 k12 v0 v1 v2 v3 (0 : Int32) s0 s1
set_option maxHeartbeats 4000000 in
set_option maxRecDepth 100000 in
theorem slX12_fillRoom_J121 {κ : sm_X} (C : sm_C κ RX12 cX12_fillRoom 4 2) {k2 : Nat → Int32 → Int32 → sm_M Unit} (K2 : ∀ (v0 : Nat) (v1 : Int32) (v2 : Int32) (hv0 : kd v0 = 12), sm_S κ (fun _ : Unit => .inr none) (.inl (2, [some (xad κ v0), some (.int v1), some (.int v2), none], [])) (k2 v0 v1 v2)) {k12 : Nat → Int32 → Int32 → Int32 → sm_M Unit} (K12 : ∀ (v0 : Nat) (v1 : Int32) (v2 : Int32) (v3 : Int32) (hv0 : kd v0 = 12), sm_S κ (fun _ : Unit => .inr none) (.inl (12, [some (xad κ v0), some (.int v1), some (.int v2), some (.int v3)], [])) (k12 v0 v1 v2 v3)) (v0 : Nat) (v1 : Int32) (v2 : Int32) (v3 : Int32) (s0 : Int32) (s1 : Nat) (hv0 : kd v0 = 12) (hs1 : kd s1 = 20) : sm_S κ (fun _ : Unit => .inr none) (.inl (121, [some (xad κ v0), some (.int v1), some (.int v2), some (.int v3)], [.int s0, xad κ s1])) (fnX12_fillRoom_J121 k2 k12 v0 v1 v2 v3 s0 s1) := by
  unfold fnX12_fillRoom_J121
  refine sr_iconst (v := (0 : Int32)) (q := 122) C (show decode cX12_fillRoom 121 = .ok (.iconst 0, 1) from by decide +kernel) (by decide) rfl ?_
  exact slX12_fillRoom_J122 C K2 K12 v0 v1 v2 v3 (0 : Int32) s0 s1 hv0 hs1
def fnX12_fillRoom_J83 (k2 : Nat → Int32 → Int32 → sm_M Unit) (k12 : Nat → Int32 → Int32 → Int32 → sm_M Unit) (v0 : Nat) (v1 : Int32) (v2 : Int32) (v3 : Int32) (s0 : Int32) (s1 : Int32) (s2 : Nat) : sm_M Unit := m_sai s2 s1 s0 <| m_br (v2 = v3)
    (fnX12_fillRoom_J121 k2 k12 v0 v1 v2 v3 (((54 : Int32) * (((2 : Int32) * v2) + (1 : Int32))) + ((2 : Int32) * v3)) (lk v0 36))
    (m_bnd (fnX12_areNear v0 v2 v3 v1) fun x109 => m_br ((bI x109) = 0)
    (fnX12_fillRoom_J121 k2 k12 v0 v1 v2 v3 (((54 : Int32) * (((2 : Int32) * v2) + (1 : Int32))) + ((2 : Int32) * v3)) (lk v0 36))
    (fnX12_fillRoom_J122 k2 k12 v0 v1 v2 v3 (999 : Int32) (((54 : Int32) * (((2 : Int32) * v2) + (1 : Int32))) + ((2 : Int32) * v3)) (lk v0 36)))
set_option maxHeartbeats 4000000 in
set_option maxRecDepth 100000 in
theorem slX12_fillRoom_J83 {κ : sm_X} (C : sm_C κ RX12 cX12_fillRoom 4 2) {k2 : Nat → Int32 → Int32 → sm_M Unit} (K2 : ∀ (v0 : Nat) (v1 : Int32) (v2 : Int32) (hv0 : kd v0 = 12), sm_S κ (fun _ : Unit => .inr none) (.inl (2, [some (xad κ v0), some (.int v1), some (.int v2), none], [])) (k2 v0 v1 v2)) {k12 : Nat → Int32 → Int32 → Int32 → sm_M Unit} (K12 : ∀ (v0 : Nat) (v1 : Int32) (v2 : Int32) (v3 : Int32) (hv0 : kd v0 = 12), sm_S κ (fun _ : Unit => .inr none) (.inl (12, [some (xad κ v0), some (.int v1), some (.int v2), some (.int v3)], [])) (k12 v0 v1 v2 v3)) (v0 : Nat) (v1 : Int32) (v2 : Int32) (v3 : Int32) (s0 : Int32) (s1 : Int32) (s2 : Nat) (hv0 : kd v0 = 12) (hs2 : kd s2 = 20) : sm_S κ (fun _ : Unit => .inr none) (.inl (83, [some (xad κ v0), some (.int v1), some (.int v2), some (.int v3)], [.int s0, .int s1, xad κ s2])) (fnX12_fillRoom_J83 k2 k12 v0 v1 v2 v3 s0 s1 s2) := by
  unfold fnX12_fillRoom_J83
  refine sr_iastore (q := 84) C hs2 (show decode cX12_fillRoom 83 = .ok (.iastore, 1) from by decide +kernel) rfl ?_
  refine sr_aload_n (i := 0) (q := 85) C (show decode cX12_fillRoom 84 = .ok (.aload_n 0, 1) from by decide +kernel) rfl rfl rfl ?_
  refine sr_getr (q := 88) C fl_X12_67 hv0 (show decode cX12_fillRoom 85 = .ok (.getfield 67, 3) from by decide +kernel) rfl ?_
  refine sr_bipush (v := (54 : Int32)) (q := 90) C (show decode cX12_fillRoom 88 = .ok (.bipush 54, 2) from by decide +kernel) (by decide) rfl ?_
  refine sr_iconst (v := (2 : Int32)) (q := 91) C (show decode cX12_fillRoom 90 = .ok (.iconst 2, 1) from by decide +kernel) (by decide) rfl ?_
  refine sr_iload_n (i := 2) (q := 92) C (show decode cX12_fillRoom 91 = .ok (.iload_n 2, 1) from by decide +kernel) rfl rfl rfl ?_
  refine sr_imul (q := 93) C (show decode cX12_fillRoom 92 = .ok (.imul, 1) from by decide +kernel) rfl ?_
  refine sr_iconst (v := (1 : Int32)) (q := 94) C (show decode cX12_fillRoom 93 = .ok (.iconst 1, 1) from by decide +kernel) (by decide) rfl ?_
  refine sr_iadd (q := 95) C (show decode cX12_fillRoom 94 = .ok (.iadd, 1) from by decide +kernel) rfl ?_
  refine sr_imul (q := 96) C (show decode cX12_fillRoom 95 = .ok (.imul, 1) from by decide +kernel) rfl ?_
  refine sr_iconst (v := (2 : Int32)) (q := 97) C (show decode cX12_fillRoom 96 = .ok (.iconst 2, 1) from by decide +kernel) (by decide) rfl ?_
  refine sr_iload_n (i := 3) (q := 98) C (show decode cX12_fillRoom 97 = .ok (.iload_n 3, 1) from by decide +kernel) rfl rfl rfl ?_
  refine sr_imul (q := 99) C (show decode cX12_fillRoom 98 = .ok (.imul, 1) from by decide +kernel) rfl ?_
  refine sr_iadd (q := 100) C (show decode cX12_fillRoom 99 = .ok (.iadd, 1) from by decide +kernel) rfl ?_
  refine sr_iload_n (i := 2) (q := 101) C (show decode cX12_fillRoom 100 = .ok (.iload_n 2, 1) from by decide +kernel) rfl rfl rfl ?_
  refine sr_iload_n (i := 3) (q := 102) C (show decode cX12_fillRoom 101 = .ok (.iload_n 3, 1) from by decide +kernel) rfl rfl rfl ?_
  refine sr_icmp_eq (q := 105) C 121 (show decode cX12_fillRoom 102 = .ok (.if_icmp .eq 19, 3) from by decide +kernel) (by decide) rfl ?_ ?_
  · exact slX12_fillRoom_J121 C K2 K12 v0 v1 v2 v3 (((54 : Int32) * (((2 : Int32) * v2) + (1 : Int32))) + ((2 : Int32) * v3)) (lk v0 36) hv0 (kt hv0 kp_12_36)
  · refine sr_aload_n (i := 0) (q := 106) C (show decode cX12_fillRoom 105 = .ok (.aload_n 0, 1) from by decide +kernel) rfl rfl rfl ?_
    refine sr_iload_n (i := 2) (q := 107) C (show decode cX12_fillRoom 106 = .ok (.iload_n 2, 1) from by decide +kernel) rfl rfl rfl ?_
    refine sr_iload_n (i := 3) (q := 108) C (show decode cX12_fillRoom 107 = .ok (.iload_n 3, 1) from by decide +kernel) rfl rfl rfl ?_
    refine sr_iload_n (i := 1) (q := 109) C (show decode cX12_fillRoom 108 = .ok (.iload_n 1, 1) from by decide +kernel) rfl rfl rfl ?_
    refine sr_cVz (As := [.int v2, .int v3, .int v1]) (st := [.int (((54 : Int32) * (((2 : Int32) * v2) + (1 : Int32))) + ((2 : Int32) * v3)), xad κ (lk v0 36)]) (b := v0) (q := 112) C yvX12_areNear ml_X12_438 (cnX12_areNear (xo κ) v0 v2 v3 v1 hv0) hv0 (by decide) rfl rfl rfl (by decide) (by decide) (Nat.le_of_ble_eq_true rfl) rfl (show decode cX12_fillRoom 109 = .ok (.invokevirtual 438, 3) from by decide +kernel) rfl (fun x109 => ?_)
    refine sr_if_eq (q := 115) C 121 (show decode cX12_fillRoom 112 = .ok (.ifCond .eq 9, 3) from by decide +kernel) (by decide) rfl ?_ ?_
    · exact slX12_fillRoom_J121 C K2 K12 v0 v1 v2 v3 (((54 : Int32) * (((2 : Int32) * v2) + (1 : Int32))) + ((2 : Int32) * v3)) (lk v0 36) hv0 (kt hv0 kp_12_36)
    · refine sr_sipush (v := (999 : Int32)) (q := 118) C (show decode cX12_fillRoom 115 = .ok (.sipush 999, 3) from by decide +kernel) (by decide) rfl ?_
      refine sr_goto (q := 122) C (show decode cX12_fillRoom 118 = .ok (.goto 4, 3) from by decide +kernel) (by decide) ?_
      exact slX12_fillRoom_J122 C K2 K12 v0 v1 v2 v3 (999 : Int32) (((54 : Int32) * (((2 : Int32) * v2) + (1 : Int32))) + ((2 : Int32) * v3)) (lk v0 36) hv0 (kt hv0 kp_12_36)
def fnX12_fillRoom_L12 (k2 : Nat → Int32 → Int32 → sm_M Unit) : Nat → Nat → Int32 → Int32 → Int32 → sm_M Unit
  | 0, _, _, _, _ => m_fail
  | n + 1, v0, v1, v2, v3 => m_gi v0 35 fun x14 => m_br (x14 ≤ v3)
    (fnX12_fillRoom_J129 k2 v0 v1 v2)
    (m_sai (lk v0 36) (((108 : Int32) * v2) + ((2 : Int32) * v3)) (0 : Int32) <| m_sai (lk v0 36) ((((54 : Int32) * (((2 : Int32) * v2) + (1 : Int32))) + ((2 : Int32) * v3)) + (1 : Int32)) (0 : Int32) <| m_br (v2 = v3)
    (m_ai (lk v0 34) v2 fun x78 => fnX12_fillRoom_J83 k2 (fnX12_fillRoom_L12 k2 n) v0 v1 v2 v3 x78 ((((108 : Int32) * v2) + ((2 : Int32) * v3)) + (1 : Int32)) (lk v0 36))
    (fnX12_fillRoom_J83 k2 (fnX12_fillRoom_L12 k2 n) v0 v1 v2 v3 (0 : Int32) ((((108 : Int32) * v2) + ((2 : Int32) * v3)) + (1 : Int32)) (lk v0 36)))
set_option maxHeartbeats 4000000 in
set_option maxRecDepth 100000 in
theorem slX12_fillRoom_L12 {κ : sm_X} (C : sm_C κ RX12 cX12_fillRoom 4 2) {k2 : Nat → Int32 → Int32 → sm_M Unit} (K2 : ∀ (v0 : Nat) (v1 : Int32) (v2 : Int32) (hv0 : kd v0 = 12), sm_S κ (fun _ : Unit => .inr none) (.inl (2, [some (xad κ v0), some (.int v1), some (.int v2), none], [])) (k2 v0 v1 v2)) : ∀ (n : Nat) (v0 : Nat) (v1 : Int32) (v2 : Int32) (v3 : Int32) (hv0 : kd v0 = 12), sm_S κ (fun _ : Unit => .inr none) (.inl (12, [some (xad κ v0), some (.int v1), some (.int v2), some (.int v3)], [])) (fnX12_fillRoom_L12 k2 n v0 v1 v2 v3) := by
  intro n
  induction n with
  | zero =>
    intros
    exact sr_fail
  | succ n K12 =>
    intro v0 v1 v2 v3 hv0
    unfold fnX12_fillRoom_L12
    refine sr_iload_n (i := 3) (q := 13) C (show decode cX12_fillRoom 12 = .ok (.iload_n 3, 1) from by decide +kernel) rfl rfl rfl ?_
    refine sr_aload_n (i := 0) (q := 14) C (show decode cX12_fillRoom 13 = .ok (.aload_n 0, 1) from by decide +kernel) rfl rfl rfl ?_
    refine sr_geti (q := 17) C fl_X12_432 (Or.inl rfl) hv0 (show decode cX12_fillRoom 14 = .ok (.getfield 432, 3) from by decide +kernel) rfl (fun x14 => ?_)
    refine sr_icmp_ge (q := 20) C 129 (show decode cX12_fillRoom 17 = .ok (.if_icmp .ge 112, 3) from by decide +kernel) (by decide) rfl ?_ ?_
    · refine sr_weak (L' := [some (xad κ v0), some (.int v1), some (.int v2), none]) ⟨rfl, rfl, rfl, trivial⟩ ?_
      exact slX12_fillRoom_J129 C K2 v0 v1 v2 hv0
    · refine sr_aload_n (i := 0) (q := 21) C (show decode cX12_fillRoom 20 = .ok (.aload_n 0, 1) from by decide +kernel) rfl rfl rfl ?_
      refine sr_getr (q := 24) C fl_X12_67 hv0 (show decode cX12_fillRoom 21 = .ok (.getfield 67, 3) from by decide +kernel) rfl ?_
      refine sr_bipush (v := (108 : Int32)) (q := 26) C (show decode cX12_fillRoom 24 = .ok (.bipush 108, 2) from by decide +kernel) (by decide) rfl ?_
      refine sr_iload_n (i := 2) (q := 27) C (show decode cX12_fillRoom 26 = .ok (.iload_n 2, 1) from by decide +kernel) rfl rfl rfl ?_
      refine sr_imul (q := 28) C (show decode cX12_fillRoom 27 = .ok (.imul, 1) from by decide +kernel) rfl ?_
      refine sr_iconst (v := (2 : Int32)) (q := 29) C (show decode cX12_fillRoom 28 = .ok (.iconst 2, 1) from by decide +kernel) (by decide) rfl ?_
      refine sr_iload_n (i := 3) (q := 30) C (show decode cX12_fillRoom 29 = .ok (.iload_n 3, 1) from by decide +kernel) rfl rfl rfl ?_
      refine sr_imul (q := 31) C (show decode cX12_fillRoom 30 = .ok (.imul, 1) from by decide +kernel) rfl ?_
      refine sr_iadd (q := 32) C (show decode cX12_fillRoom 31 = .ok (.iadd, 1) from by decide +kernel) rfl ?_
      refine sr_iconst (v := (0 : Int32)) (q := 33) C (show decode cX12_fillRoom 32 = .ok (.iconst 0, 1) from by decide +kernel) (by decide) rfl ?_
      refine sr_iastore (q := 34) C (kt hv0 kp_12_36) (show decode cX12_fillRoom 33 = .ok (.iastore, 1) from by decide +kernel) rfl ?_
      refine sr_aload_n (i := 0) (q := 35) C (show decode cX12_fillRoom 34 = .ok (.aload_n 0, 1) from by decide +kernel) rfl rfl rfl ?_
      refine sr_getr (q := 38) C fl_X12_67 hv0 (show decode cX12_fillRoom 35 = .ok (.getfield 67, 3) from by decide +kernel) rfl ?_
      refine sr_bipush (v := (54 : Int32)) (q := 40) C (show decode cX12_fillRoom 38 = .ok (.bipush 54, 2) from by decide +kernel) (by decide) rfl ?_
      refine sr_iconst (v := (2 : Int32)) (q := 41) C (show decode cX12_fillRoom 40 = .ok (.iconst 2, 1) from by decide +kernel) (by decide) rfl ?_
      refine sr_iload_n (i := 2) (q := 42) C (show decode cX12_fillRoom 41 = .ok (.iload_n 2, 1) from by decide +kernel) rfl rfl rfl ?_
      refine sr_imul (q := 43) C (show decode cX12_fillRoom 42 = .ok (.imul, 1) from by decide +kernel) rfl ?_
      refine sr_iconst (v := (1 : Int32)) (q := 44) C (show decode cX12_fillRoom 43 = .ok (.iconst 1, 1) from by decide +kernel) (by decide) rfl ?_
      refine sr_iadd (q := 45) C (show decode cX12_fillRoom 44 = .ok (.iadd, 1) from by decide +kernel) rfl ?_
      refine sr_imul (q := 46) C (show decode cX12_fillRoom 45 = .ok (.imul, 1) from by decide +kernel) rfl ?_
      refine sr_iconst (v := (2 : Int32)) (q := 47) C (show decode cX12_fillRoom 46 = .ok (.iconst 2, 1) from by decide +kernel) (by decide) rfl ?_
      refine sr_iload_n (i := 3) (q := 48) C (show decode cX12_fillRoom 47 = .ok (.iload_n 3, 1) from by decide +kernel) rfl rfl rfl ?_
      refine sr_imul (q := 49) C (show decode cX12_fillRoom 48 = .ok (.imul, 1) from by decide +kernel) rfl ?_
      refine sr_iadd (q := 50) C (show decode cX12_fillRoom 49 = .ok (.iadd, 1) from by decide +kernel) rfl ?_
      refine sr_iconst (v := (1 : Int32)) (q := 51) C (show decode cX12_fillRoom 50 = .ok (.iconst 1, 1) from by decide +kernel) (by decide) rfl ?_
      refine sr_iadd (q := 52) C (show decode cX12_fillRoom 51 = .ok (.iadd, 1) from by decide +kernel) rfl ?_
      refine sr_iconst (v := (0 : Int32)) (q := 53) C (show decode cX12_fillRoom 52 = .ok (.iconst 0, 1) from by decide +kernel) (by decide) rfl ?_
      refine sr_iastore (q := 54) C (kt hv0 kp_12_36) (show decode cX12_fillRoom 53 = .ok (.iastore, 1) from by decide +kernel) rfl ?_
      refine sr_aload_n (i := 0) (q := 55) C (show decode cX12_fillRoom 54 = .ok (.aload_n 0, 1) from by decide +kernel) rfl rfl rfl ?_
      refine sr_getr (q := 58) C fl_X12_67 hv0 (show decode cX12_fillRoom 55 = .ok (.getfield 67, 3) from by decide +kernel) rfl ?_
      refine sr_bipush (v := (108 : Int32)) (q := 60) C (show decode cX12_fillRoom 58 = .ok (.bipush 108, 2) from by decide +kernel) (by decide) rfl ?_
      refine sr_iload_n (i := 2) (q := 61) C (show decode cX12_fillRoom 60 = .ok (.iload_n 2, 1) from by decide +kernel) rfl rfl rfl ?_
      refine sr_imul (q := 62) C (show decode cX12_fillRoom 61 = .ok (.imul, 1) from by decide +kernel) rfl ?_
      refine sr_iconst (v := (2 : Int32)) (q := 63) C (show decode cX12_fillRoom 62 = .ok (.iconst 2, 1) from by decide +kernel) (by decide) rfl ?_
      refine sr_iload_n (i := 3) (q := 64) C (show decode cX12_fillRoom 63 = .ok (.iload_n 3, 1) from by decide +kernel) rfl rfl rfl ?_
      refine sr_imul (q := 65) C (show decode cX12_fillRoom 64 = .ok (.imul, 1) from by decide +kernel) rfl ?_
      refine sr_iadd (q := 66) C (show decode cX12_fillRoom 65 = .ok (.iadd, 1) from by decide +kernel) rfl ?_
      refine sr_iconst (v := (1 : Int32)) (q := 67) C (show decode cX12_fillRoom 66 = .ok (.iconst 1, 1) from by decide +kernel) (by decide) rfl ?_
      refine sr_iadd (q := 68) C (show decode cX12_fillRoom 67 = .ok (.iadd, 1) from by decide +kernel) rfl ?_
      refine sr_iload_n (i := 2) (q := 69) C (show decode cX12_fillRoom 68 = .ok (.iload_n 2, 1) from by decide +kernel) rfl rfl rfl ?_
      refine sr_iload_n (i := 3) (q := 70) C (show decode cX12_fillRoom 69 = .ok (.iload_n 3, 1) from by decide +kernel) rfl rfl rfl ?_
      refine sr_icmp_ne (q := 73) C 82 (show decode cX12_fillRoom 70 = .ok (.if_icmp .ne 12, 3) from by decide +kernel) (by decide) rfl ?_ ?_
      · refine sr_iconst (v := (0 : Int32)) (q := 83) C (show decode cX12_fillRoom 82 = .ok (.iconst 0, 1) from by decide +kernel) (by decide) rfl ?_
        exact slX12_fillRoom_J83 C K2 K12 v0 v1 v2 v3 (0 : Int32) ((((108 : Int32) * v2) + ((2 : Int32) * v3)) + (1 : Int32)) (lk v0 36) hv0 (kt hv0 kp_12_36)
      · refine sr_aload_n (i := 0) (q := 74) C (show decode cX12_fillRoom 73 = .ok (.aload_n 0, 1) from by decide +kernel) rfl rfl rfl ?_
        refine sr_getr (q := 77) C fl_X12_64 hv0 (show decode cX12_fillRoom 74 = .ok (.getfield 64, 3) from by decide +kernel) rfl ?_
        refine sr_iload_n (i := 2) (q := 78) C (show decode cX12_fillRoom 77 = .ok (.iload_n 2, 1) from by decide +kernel) rfl rfl rfl ?_
        refine sr_iaload (q := 79) C (kt hv0 kp_12_34) (show decode cX12_fillRoom 78 = .ok (.iaload, 1) from by decide +kernel) rfl (fun x78 => ?_)
        refine sr_goto (q := 83) C (show decode cX12_fillRoom 79 = .ok (.goto 4, 3) from by decide +kernel) (by decide) ?_
        exact slX12_fillRoom_J83 C K2 K12 v0 v1 v2 v3 x78 ((((108 : Int32) * v2) + ((2 : Int32) * v3)) + (1 : Int32)) (lk v0 36) hv0 (kt hv0 kp_12_36)
def fnX12_fillRoom_L2 : Nat → Nat → Int32 → Int32 → sm_M Unit
  | 0, _, _, _ => m_fail
  | n + 1, v0, v1, v2 => m_gi v0 35 fun x4 => m_br (x4 ≤ v2)
    (m_ret ())
    (fnX12_fillRoom_L12 (fnX12_fillRoom_L2 n) 4096 v0 v1 v2 (0 : Int32))
set_option maxHeartbeats 4000000 in
set_option maxRecDepth 100000 in
theorem slX12_fillRoom_L2 {κ : sm_X} (C : sm_C κ RX12 cX12_fillRoom 4 2) : ∀ (n : Nat) (v0 : Nat) (v1 : Int32) (v2 : Int32) (hv0 : kd v0 = 12), sm_S κ (fun _ : Unit => .inr none) (.inl (2, [some (xad κ v0), some (.int v1), some (.int v2), none], [])) (fnX12_fillRoom_L2 n v0 v1 v2) := by
  intro n
  induction n with
  | zero =>
    intros
    exact sr_fail
  | succ n K2 =>
    intro v0 v1 v2 hv0
    unfold fnX12_fillRoom_L2
    refine sr_iload_n (i := 2) (q := 3) C (show decode cX12_fillRoom 2 = .ok (.iload_n 2, 1) from by decide +kernel) rfl rfl rfl ?_
    refine sr_aload_n (i := 0) (q := 4) C (show decode cX12_fillRoom 3 = .ok (.aload_n 0, 1) from by decide +kernel) rfl rfl rfl ?_
    refine sr_geti (q := 7) C fl_X12_432 (Or.inl rfl) hv0 (show decode cX12_fillRoom 4 = .ok (.getfield 432, 3) from by decide +kernel) rfl (fun x4 => ?_)
    refine sr_icmp_ge (q := 10) C 135 (show decode cX12_fillRoom 7 = .ok (.if_icmp .ge 128, 3) from by decide +kernel) (by decide) rfl ?_ ?_
    · exact sr_vreturn C _ rfl (show decode cX12_fillRoom 135 = .ok (.return_, 1) from by decide +kernel)
    · refine sr_iconst (v := (0 : Int32)) (q := 11) C (show decode cX12_fillRoom 10 = .ok (.iconst 0, 1) from by decide +kernel) (by decide) rfl ?_
      refine sr_istore_n (i := 3) (L' := [some (xad κ v0), some (.int v1), some (.int v2), some (.int (0 : Int32))]) (q := 12) C (show decode cX12_fillRoom 11 = .ok (.istore_n 3, 1) from by decide +kernel) rfl (by decide) rfl rfl ?_
      exact slX12_fillRoom_L12 C K2 4096 v0 v1 v2 (0 : Int32) hv0
def fnX12_fillRoom (v0 : Nat) (v1 : Int32) : sm_M Unit := fnX12_fillRoom_L2 4096 v0 v1 (0 : Int32)
set_option maxHeartbeats 4000000 in
set_option maxRecDepth 100000 in
theorem slX12_fillRoom {κ : sm_X} (C : sm_C κ RX12 cX12_fillRoom 4 2) (v0 : Nat) (v1 : Int32) (hv0 : kd v0 = 12) : sm_S κ (fun _ : Unit => .inr none) (.inl (0, [some (xad κ v0), some (.int v1), none, none], [])) (fnX12_fillRoom v0 v1) := by
  unfold fnX12_fillRoom
  refine sr_iconst (v := (0 : Int32)) (q := 1) C (show decode cX12_fillRoom 0 = .ok (.iconst 0, 1) from by decide +kernel) (by decide) rfl ?_
  refine sr_istore_n (i := 2) (L' := [some (xad κ v0), some (.int v1), some (.int (0 : Int32)), none]) (q := 2) C (show decode cX12_fillRoom 1 = .ok (.istore_n 2, 1) from by decide +kernel) rfl (by decide) rfl rfl ?_
  exact slX12_fillRoom_L2 C 4096 v0 v1 (0 : Int32) hv0
theorem cnX12_fillRoom (ω : sm_O) (v0 : Nat) (v1 : Int32) (hv0 : kd v0 = 12) : sm_Mt 2 yX12_fillRoom cX12_fillRoom 4 none ω [.ref (ω.1 + v0), .int v1] (fun _ => none) (fnX12_fillRoom v0 v1) := by
  refine sm_conV (by decide) (Nat.le_of_ble_eq_true rfl) ?_
  intro κ hκ C
  subst hκ
  exact slX12_fillRoom C v0 v1 hv0
def fnX12_floods_J129 (v0 : Nat) : sm_M Bool := m_ai (lk v0 37) (2 : Int32) fun x134 => m_br (x134 = (-1 : Int32))
    (m_ret false)
    (m_ret true)
set_option maxHeartbeats 4000000 in
set_option maxRecDepth 100000 in
theorem slX12_floods_J129 {κ : sm_X} (C : sm_C κ RX12 cX12_floods 5 1) (v0 : Nat) (hv0 : kd v0 = 12) : sm_S κ (fun r : Bool => .inr (some (.int (bI r)))) (.inl (129, [some (xad κ v0), none, none, none, none], [])) (fnX12_floods_J129 v0) := by
  unfold fnX12_floods_J129
  refine sr_aload_n (i := 0) (q := 130) C (show decode cX12_floods 129 = .ok (.aload_n 0, 1) from by decide +kernel) rfl rfl rfl ?_
  refine sr_getr (q := 133) C fl_X12_70 hv0 (show decode cX12_floods 130 = .ok (.getfield 70, 3) from by decide +kernel) rfl ?_
  refine sr_iconst (v := (2 : Int32)) (q := 134) C (show decode cX12_floods 133 = .ok (.iconst 2, 1) from by decide +kernel) (by decide) rfl ?_
  refine sr_iaload (q := 135) C (kt hv0 kp_12_37) (show decode cX12_floods 134 = .ok (.iaload, 1) from by decide +kernel) rfl (fun x134 => ?_)
  refine sr_iconst (v := (-1 : Int32)) (q := 136) C (show decode cX12_floods 135 = .ok (.iconst (-1), 1) from by decide +kernel) (by decide) rfl ?_
  refine sr_icmp_eq (q := 139) C 143 (show decode cX12_floods 136 = .ok (.if_icmp .eq 7, 3) from by decide +kernel) (by decide) rfl ?_ ?_
  · refine sr_iconst (v := (0 : Int32)) (q := 144) C (show decode cX12_floods 143 = .ok (.iconst 0, 1) from by decide +kernel) (by decide) rfl ?_
    exact sr_ireturn C false rfl (show decode cX12_floods 144 = .ok (.ireturn, 1) from by decide +kernel)
  · refine sr_iconst (v := (1 : Int32)) (q := 140) C (show decode cX12_floods 139 = .ok (.iconst 1, 1) from by decide +kernel) (by decide) rfl ?_
    refine sr_goto (q := 144) C (show decode cX12_floods 140 = .ok (.goto 4, 3) from by decide +kernel) (by decide) ?_
    exact sr_ireturn C true rfl (show decode cX12_floods 144 = .ok (.ireturn, 1) from by decide +kernel)
def fnX12_floods_J126 (k43 : Nat → Int32 → Int32 → sm_M Bool) (v0 : Nat) (v1 : Int32) (v2 : Int32) : sm_M Bool := k43 v0 v1 v2
set_option maxHeartbeats 4000000 in
set_option maxRecDepth 100000 in
theorem slX12_floods_J126 {κ : sm_X} (C : sm_C κ RX12 cX12_floods 5 1) {k43 : Nat → Int32 → Int32 → sm_M Bool} (K43 : ∀ (v0 : Nat) (v1 : Int32) (v2 : Int32) (hv0 : kd v0 = 12), sm_S κ (fun r : Bool => .inr (some (.int (bI r)))) (.inl (43, [some (xad κ v0), some (.int v1), some (.int v2), none, none], [])) (k43 v0 v1 v2)) (v0 : Nat) (v1 : Int32) (v2 : Int32) (hv0 : kd v0 = 12) : sm_S κ (fun r : Bool => .inr (some (.int (bI r)))) (.inl (126, [some (xad κ v0), some (.int v1), some (.int v2), none, none], [])) (fnX12_floods_J126 k43 v0 v1 v2) := by
  unfold fnX12_floods_J126
  refine sr_goto (q := 43) C (show decode cX12_floods 126 = .ok (.goto (-83), 3) from by decide +kernel) (by decide) ?_
  exact K43 v0 v1 v2 hv0
def fnX12_floods_J120 (k43 : Nat → Int32 → Int32 → sm_M Bool) (k61 : Nat → Int32 → Int32 → Int32 → Int32 → sm_M Bool) (v0 : Nat) (v1 : Int32) (v2 : Int32) (v3 : Int32) (v4 : Int32) : sm_M Bool := k61 v0 v1 v2 v3 (v4 + (1 : Int32))
set_option maxHeartbeats 4000000 in
set_option maxRecDepth 100000 in
theorem slX12_floods_J120 {κ : sm_X} (C : sm_C κ RX12 cX12_floods 5 1) {k43 : Nat → Int32 → Int32 → sm_M Bool} (K43 : ∀ (v0 : Nat) (v1 : Int32) (v2 : Int32) (hv0 : kd v0 = 12), sm_S κ (fun r : Bool => .inr (some (.int (bI r)))) (.inl (43, [some (xad κ v0), some (.int v1), some (.int v2), none, none], [])) (k43 v0 v1 v2)) {k61 : Nat → Int32 → Int32 → Int32 → Int32 → sm_M Bool} (K61 : ∀ (v0 : Nat) (v1 : Int32) (v2 : Int32) (v3 : Int32) (v4 : Int32) (hv0 : kd v0 = 12), sm_S κ (fun r : Bool => .inr (some (.int (bI r)))) (.inl (61, [some (xad κ v0), some (.int v1), some (.int v2), some (.int v3), some (.int v4)], [])) (k61 v0 v1 v2 v3 v4)) (v0 : Nat) (v1 : Int32) (v2 : Int32) (v3 : Int32) (v4 : Int32) (hv0 : kd v0 = 12) : sm_S κ (fun r : Bool => .inr (some (.int (bI r)))) (.inl (120, [some (xad κ v0), some (.int v1), some (.int v2), some (.int v3), some (.int v4)], [])) (fnX12_floods_J120 k43 k61 v0 v1 v2 v3 v4) := by
  unfold fnX12_floods_J120
  refine sr_iinc (v := v4 + (1 : Int32)) (L' := [some (xad κ v0), some (.int v1), some (.int v2), some (.int v3), some (.int (v4 + (1 : Int32)))]) (q := 123) C (show decode cX12_floods 120 = .ok (.iinc 4 1, 3) from by decide +kernel) rfl rfl (by decide) rfl rfl ?_
  refine sr_goto (q := 61) C (show decode cX12_floods 123 = .ok (.goto (-62), 3) from by decide +kernel) (by decide) ?_
  exact K61 v0 v1 v2 v3 (v4 + (1 : Int32)) hv0
def fnX12_floods_L61 (k43 : Nat → Int32 → Int32 → sm_M Bool) : Nat → Nat → Int32 → Int32 → Int32 → Int32 → sm_M Bool
  | 0, _, _, _, _, _ => m_fail
  | n + 1, v0, v1, v2, v3, v4 => m_gi v0 35 fun x65 => m_br (((2 : Int32) * x65) ≤ v4)
    (fnX12_floods_J126 k43 v0 v1 v2)
    (m_ai (lk v0 37) v4 fun x78 => m_br (x78 = (-1 : Int32))
    (m_ai (lk v0 36) (((54 : Int32) * v3) + v4) fun x94 => m_br (x94 = 0)
    (fnX12_floods_J120 k43 (fnX12_floods_L61 k43 n) v0 v1 v2 v3 v4)
    (m_sai (lk v0 37) v4 v3 <| m_sai (lk v0 38) v2 v4 <| fnX12_floods_J120 k43 (fnX12_floods_L61 k43 n) v0 v1 (v2 + (1 : Int32)) v3 v4))
    (fnX12_floods_J120 k43 (fnX12_floods_L61 k43 n) v0 v1 v2 v3 v4))
set_option maxHeartbeats 4000000 in
set_option maxRecDepth 100000 in
theorem slX12_floods_L61 {κ : sm_X} (C : sm_C κ RX12 cX12_floods 5 1) {k43 : Nat → Int32 → Int32 → sm_M Bool} (K43 : ∀ (v0 : Nat) (v1 : Int32) (v2 : Int32) (hv0 : kd v0 = 12), sm_S κ (fun r : Bool => .inr (some (.int (bI r)))) (.inl (43, [some (xad κ v0), some (.int v1), some (.int v2), none, none], [])) (k43 v0 v1 v2)) : ∀ (n : Nat) (v0 : Nat) (v1 : Int32) (v2 : Int32) (v3 : Int32) (v4 : Int32) (hv0 : kd v0 = 12), sm_S κ (fun r : Bool => .inr (some (.int (bI r)))) (.inl (61, [some (xad κ v0), some (.int v1), some (.int v2), some (.int v3), some (.int v4)], [])) (fnX12_floods_L61 k43 n v0 v1 v2 v3 v4) := by
  intro n
  induction n with
  | zero =>
    intros
    exact sr_fail
  | succ n K61 =>
    intro v0 v1 v2 v3 v4 hv0
    unfold fnX12_floods_L61
    refine sr_iload (i := 4) (q := 63) C (show decode cX12_floods 61 = .ok (.iload 4, 2) from by decide +kernel) rfl rfl ?_
    refine sr_iconst (v := (2 : Int32)) (q := 64) C (show decode cX12_floods 63 = .ok (.iconst 2, 1) from by decide +kernel) (by decide) rfl ?_
    refine sr_aload_n (i := 0) (q := 65) C (show decode cX12_floods 64 = .ok (.aload_n 0, 1) from by decide +kernel) rfl rfl rfl ?_
    refine sr_geti (q := 68) C fl_X12_432 (Or.inl rfl) hv0 (show decode cX12_floods 65 = .ok (.getfield 432, 3) from by decide +kernel) rfl (fun x65 => ?_)
    refine sr_imul (q := 69) C (show decode cX12_floods 68 = .ok (.imul, 1) from by decide +kernel) rfl ?_
    refine sr_icmp_ge (q := 72) C 126 (show decode cX12_floods 69 = .ok (.if_icmp .ge 57, 3) from by decide +kernel) (by decide) rfl ?_ ?_
    · refine sr_weak (L' := [some (xad κ v0), some (.int v1), some (.int v2), none, none]) ⟨rfl, rfl, rfl, trivial⟩ ?_
      exact slX12_floods_J126 C K43 v0 v1 v2 hv0
    · refine sr_aload_n (i := 0) (q := 73) C (show decode cX12_floods 72 = .ok (.aload_n 0, 1) from by decide +kernel) rfl rfl rfl ?_
      refine sr_getr (q := 76) C fl_X12_70 hv0 (show decode cX12_floods 73 = .ok (.getfield 70, 3) from by decide +kernel) rfl ?_
      refine sr_iload (i := 4) (q := 78) C (show decode cX12_floods 76 = .ok (.iload 4, 2) from by decide +kernel) rfl rfl ?_
      refine sr_iaload (q := 79) C (kt hv0 kp_12_37) (show decode cX12_floods 78 = .ok (.iaload, 1) from by decide +kernel) rfl (fun x78 => ?_)
      refine sr_iconst (v := (-1 : Int32)) (q := 80) C (show decode cX12_floods 79 = .ok (.iconst (-1), 1) from by decide +kernel) (by decide) rfl ?_
      refine sr_icmp_ne (q := 83) C 120 (show decode cX12_floods 80 = .ok (.if_icmp .ne 40, 3) from by decide +kernel) (by decide) rfl ?_ ?_
      · exact slX12_floods_J120 C K43 K61 v0 v1 v2 v3 v4 hv0
      · refine sr_aload_n (i := 0) (q := 84) C (show decode cX12_floods 83 = .ok (.aload_n 0, 1) from by decide +kernel) rfl rfl rfl ?_
        refine sr_getr (q := 87) C fl_X12_67 hv0 (show decode cX12_floods 84 = .ok (.getfield 67, 3) from by decide +kernel) rfl ?_
        refine sr_bipush (v := (54 : Int32)) (q := 89) C (show decode cX12_floods 87 = .ok (.bipush 54, 2) from by decide +kernel) (by decide) rfl ?_
        refine sr_iload_n (i := 3) (q := 90) C (show decode cX12_floods 89 = .ok (.iload_n 3, 1) from by decide +kernel) rfl rfl rfl ?_
        refine sr_imul (q := 91) C (show decode cX12_floods 90 = .ok (.imul, 1) from by decide +kernel) rfl ?_
        refine sr_iload (i := 4) (q := 93) C (show decode cX12_floods 91 = .ok (.iload 4, 2) from by decide +kernel) rfl rfl ?_
        refine sr_iadd (q := 94) C (show decode cX12_floods 93 = .ok (.iadd, 1) from by decide +kernel) rfl ?_
        refine sr_iaload (q := 95) C (kt hv0 kp_12_36) (show decode cX12_floods 94 = .ok (.iaload, 1) from by decide +kernel) rfl (fun x94 => ?_)
        refine sr_if_ne (q := 98) C 101 (show decode cX12_floods 95 = .ok (.ifCond .ne 6, 3) from by decide +kernel) (by decide) rfl ?_ ?_
        · refine sr_aload_n (i := 0) (q := 102) C (show decode cX12_floods 101 = .ok (.aload_n 0, 1) from by decide +kernel) rfl rfl rfl ?_
          refine sr_getr (q := 105) C fl_X12_70 hv0 (show decode cX12_floods 102 = .ok (.getfield 70, 3) from by decide +kernel) rfl ?_
          refine sr_iload (i := 4) (q := 107) C (show decode cX12_floods 105 = .ok (.iload 4, 2) from by decide +kernel) rfl rfl ?_
          refine sr_iload_n (i := 3) (q := 108) C (show decode cX12_floods 107 = .ok (.iload_n 3, 1) from by decide +kernel) rfl rfl rfl ?_
          refine sr_iastore (q := 109) C (kt hv0 kp_12_37) (show decode cX12_floods 108 = .ok (.iastore, 1) from by decide +kernel) rfl ?_
          refine sr_aload_n (i := 0) (q := 110) C (show decode cX12_floods 109 = .ok (.aload_n 0, 1) from by decide +kernel) rfl rfl rfl ?_
          refine sr_getr (q := 113) C fl_X12_73 hv0 (show decode cX12_floods 110 = .ok (.getfield 73, 3) from by decide +kernel) rfl ?_
          refine sr_iload_n (i := 2) (q := 114) C (show decode cX12_floods 113 = .ok (.iload_n 2, 1) from by decide +kernel) rfl rfl rfl ?_
          refine sr_iload (i := 4) (q := 116) C (show decode cX12_floods 114 = .ok (.iload 4, 2) from by decide +kernel) rfl rfl ?_
          refine sr_iastore (q := 117) C (kt hv0 kp_12_38) (show decode cX12_floods 116 = .ok (.iastore, 1) from by decide +kernel) rfl ?_
          refine sr_iinc (v := v2 + (1 : Int32)) (L' := [some (xad κ v0), some (.int v1), some (.int (v2 + (1 : Int32))), some (.int v3), some (.int v4)]) (q := 120) C (show decode cX12_floods 117 = .ok (.iinc 2 1, 3) from by decide +kernel) rfl rfl (by decide) rfl rfl ?_
          exact slX12_floods_J120 C K43 K61 v0 v1 (v2 + (1 : Int32)) v3 v4 hv0
        · refine sr_goto (q := 120) C (show decode cX12_floods 98 = .ok (.goto 22, 3) from by decide +kernel) (by decide) ?_
          exact slX12_floods_J120 C K43 K61 v0 v1 v2 v3 v4 hv0
def fnX12_floods_L43 : Nat → Nat → Int32 → Int32 → sm_M Bool
  | 0, _, _, _ => m_fail
  | n + 1, v0, v1, v2 => m_br (v2 ≤ v1)
    (fnX12_floods_J129 v0)
    (m_ai (lk v0 38) v1 fun x53 => fnX12_floods_L61 (fnX12_floods_L43 n) 4096 v0 (v1 + (1 : Int32)) v2 x53 (0 : Int32))
set_option maxHeartbeats 4000000 in
set_option maxRecDepth 100000 in
theorem slX12_floods_L43 {κ : sm_X} (C : sm_C κ RX12 cX12_floods 5 1) : ∀ (n : Nat) (v0 : Nat) (v1 : Int32) (v2 : Int32) (hv0 : kd v0 = 12), sm_S κ (fun r : Bool => .inr (some (.int (bI r)))) (.inl (43, [some (xad κ v0), some (.int v1), some (.int v2), none, none], [])) (fnX12_floods_L43 n v0 v1 v2) := by
  intro n
  induction n with
  | zero =>
    intros
    exact sr_fail
  | succ n K43 =>
    intro v0 v1 v2 hv0
    unfold fnX12_floods_L43
    refine sr_iload_n (i := 1) (q := 44) C (show decode cX12_floods 43 = .ok (.iload_n 1, 1) from by decide +kernel) rfl rfl rfl ?_
    refine sr_iload_n (i := 2) (q := 45) C (show decode cX12_floods 44 = .ok (.iload_n 2, 1) from by decide +kernel) rfl rfl rfl ?_
    refine sr_icmp_ge (q := 48) C 129 (show decode cX12_floods 45 = .ok (.if_icmp .ge 84, 3) from by decide +kernel) (by decide) rfl ?_ ?_
    · refine sr_weak (L' := [some (xad κ v0), none, none, none, none]) ⟨rfl, trivial⟩ ?_
      exact slX12_floods_J129 C v0 hv0
    · refine sr_aload_n (i := 0) (q := 49) C (show decode cX12_floods 48 = .ok (.aload_n 0, 1) from by decide +kernel) rfl rfl rfl ?_
      refine sr_getr (q := 52) C fl_X12_73 hv0 (show decode cX12_floods 49 = .ok (.getfield 73, 3) from by decide +kernel) rfl ?_
      refine sr_iload_n (i := 1) (q := 53) C (show decode cX12_floods 52 = .ok (.iload_n 1, 1) from by decide +kernel) rfl rfl rfl ?_
      refine sr_iaload (q := 54) C (kt hv0 kp_12_38) (show decode cX12_floods 53 = .ok (.iaload, 1) from by decide +kernel) rfl (fun x53 => ?_)
      refine sr_istore_n (i := 3) (L' := [some (xad κ v0), some (.int v1), some (.int v2), some (.int x53), none]) (q := 55) C (show decode cX12_floods 54 = .ok (.istore_n 3, 1) from by decide +kernel) rfl (by decide) rfl rfl ?_
      refine sr_iinc (v := v1 + (1 : Int32)) (L' := [some (xad κ v0), some (.int (v1 + (1 : Int32))), some (.int v2), some (.int x53), none]) (q := 58) C (show decode cX12_floods 55 = .ok (.iinc 1 1, 3) from by decide +kernel) rfl rfl (by decide) rfl rfl ?_
      refine sr_iconst (v := (0 : Int32)) (q := 59) C (show decode cX12_floods 58 = .ok (.iconst 0, 1) from by decide +kernel) (by decide) rfl ?_
      refine sr_istore (i := 4) (L' := [some (xad κ v0), some (.int (v1 + (1 : Int32))), some (.int v2), some (.int x53), some (.int (0 : Int32))]) (q := 61) C (show decode cX12_floods 59 = .ok (.istore 4, 2) from by decide +kernel) (by decide) rfl rfl ?_
      exact slX12_floods_L61 C K43 4096 v0 (v1 + (1 : Int32)) v2 x53 (0 : Int32) hv0
def fnX12_floods_J25 (v0 : Nat) : sm_M Bool := m_sai (lk v0 38) (0 : Int32) (1 : Int32) <| m_sai (lk v0 37) (1 : Int32) (1 : Int32) <| fnX12_floods_L43 4096 v0 (0 : Int32) (1 : Int32)
set_option maxHeartbeats 4000000 in
set_option maxRecDepth 100000 in
theorem slX12_floods_J25 {κ : sm_X} (C : sm_C κ RX12 cX12_floods 5 1) (v0 : Nat) (hv0 : kd v0 = 12) : sm_S κ (fun r : Bool => .inr (some (.int (bI r)))) (.inl (25, [some (xad κ v0), none, none, none, none], [])) (fnX12_floods_J25 v0) := by
  unfold fnX12_floods_J25
  refine sr_iconst (v := (0 : Int32)) (q := 26) C (show decode cX12_floods 25 = .ok (.iconst 0, 1) from by decide +kernel) (by decide) rfl ?_
  refine sr_istore_n (i := 1) (L' := [some (xad κ v0), some (.int (0 : Int32)), none, none, none]) (q := 27) C (show decode cX12_floods 26 = .ok (.istore_n 1, 1) from by decide +kernel) rfl (by decide) rfl rfl ?_
  refine sr_iconst (v := (1 : Int32)) (q := 28) C (show decode cX12_floods 27 = .ok (.iconst 1, 1) from by decide +kernel) (by decide) rfl ?_
  refine sr_istore_n (i := 2) (L' := [some (xad κ v0), some (.int (0 : Int32)), some (.int (1 : Int32)), none, none]) (q := 29) C (show decode cX12_floods 28 = .ok (.istore_n 2, 1) from by decide +kernel) rfl (by decide) rfl rfl ?_
  refine sr_aload_n (i := 0) (q := 30) C (show decode cX12_floods 29 = .ok (.aload_n 0, 1) from by decide +kernel) rfl rfl rfl ?_
  refine sr_getr (q := 33) C fl_X12_73 hv0 (show decode cX12_floods 30 = .ok (.getfield 73, 3) from by decide +kernel) rfl ?_
  refine sr_iconst (v := (0 : Int32)) (q := 34) C (show decode cX12_floods 33 = .ok (.iconst 0, 1) from by decide +kernel) (by decide) rfl ?_
  refine sr_iconst (v := (1 : Int32)) (q := 35) C (show decode cX12_floods 34 = .ok (.iconst 1, 1) from by decide +kernel) (by decide) rfl ?_
  refine sr_iastore (q := 36) C (kt hv0 kp_12_38) (show decode cX12_floods 35 = .ok (.iastore, 1) from by decide +kernel) rfl ?_
  refine sr_aload_n (i := 0) (q := 37) C (show decode cX12_floods 36 = .ok (.aload_n 0, 1) from by decide +kernel) rfl rfl rfl ?_
  refine sr_getr (q := 40) C fl_X12_70 hv0 (show decode cX12_floods 37 = .ok (.getfield 70, 3) from by decide +kernel) rfl ?_
  refine sr_iconst (v := (1 : Int32)) (q := 41) C (show decode cX12_floods 40 = .ok (.iconst 1, 1) from by decide +kernel) (by decide) rfl ?_
  refine sr_iconst (v := (1 : Int32)) (q := 42) C (show decode cX12_floods 41 = .ok (.iconst 1, 1) from by decide +kernel) (by decide) rfl ?_
  refine sr_iastore (q := 43) C (kt hv0 kp_12_37) (show decode cX12_floods 42 = .ok (.iastore, 1) from by decide +kernel) rfl ?_
  exact slX12_floods_L43 C 4096 v0 (0 : Int32) (1 : Int32) hv0
def fnX12_floods_L2 : Nat → Nat → Int32 → sm_M Bool
  | 0, _, _ => m_fail
  | n + 1, v0, v1 => m_gi v0 35 fun x5 => m_br (((2 : Int32) * x5) ≤ v1)
    (fnX12_floods_J25 v0)
    (m_sai (lk v0 37) v1 (-1 : Int32) <| (fnX12_floods_L2 n) v0 (v1 + (1 : Int32)))
set_option maxHeartbeats 4000000 in
set_option maxRecDepth 100000 in
theorem slX12_floods_L2 {κ : sm_X} (C : sm_C κ RX12 cX12_floods 5 1) : ∀ (n : Nat) (v0 : Nat) (v1 : Int32) (hv0 : kd v0 = 12), sm_S κ (fun r : Bool => .inr (some (.int (bI r)))) (.inl (2, [some (xad κ v0), some (.int v1), none, none, none], [])) (fnX12_floods_L2 n v0 v1) := by
  intro n
  induction n with
  | zero =>
    intros
    exact sr_fail
  | succ n K2 =>
    intro v0 v1 hv0
    unfold fnX12_floods_L2
    refine sr_iload_n (i := 1) (q := 3) C (show decode cX12_floods 2 = .ok (.iload_n 1, 1) from by decide +kernel) rfl rfl rfl ?_
    refine sr_iconst (v := (2 : Int32)) (q := 4) C (show decode cX12_floods 3 = .ok (.iconst 2, 1) from by decide +kernel) (by decide) rfl ?_
    refine sr_aload_n (i := 0) (q := 5) C (show decode cX12_floods 4 = .ok (.aload_n 0, 1) from by decide +kernel) rfl rfl rfl ?_
    refine sr_geti (q := 8) C fl_X12_432 (Or.inl rfl) hv0 (show decode cX12_floods 5 = .ok (.getfield 432, 3) from by decide +kernel) rfl (fun x5 => ?_)
    refine sr_imul (q := 9) C (show decode cX12_floods 8 = .ok (.imul, 1) from by decide +kernel) rfl ?_
    refine sr_icmp_ge (q := 12) C 25 (show decode cX12_floods 9 = .ok (.if_icmp .ge 16, 3) from by decide +kernel) (by decide) rfl ?_ ?_
    · refine sr_weak (L' := [some (xad κ v0), none, none, none, none]) ⟨rfl, trivial⟩ ?_
      exact slX12_floods_J25 C v0 hv0
    · refine sr_aload_n (i := 0) (q := 13) C (show decode cX12_floods 12 = .ok (.aload_n 0, 1) from by decide +kernel) rfl rfl rfl ?_
      refine sr_getr (q := 16) C fl_X12_70 hv0 (show decode cX12_floods 13 = .ok (.getfield 70, 3) from by decide +kernel) rfl ?_
      refine sr_iload_n (i := 1) (q := 17) C (show decode cX12_floods 16 = .ok (.iload_n 1, 1) from by decide +kernel) rfl rfl rfl ?_
      refine sr_iconst (v := (-1 : Int32)) (q := 18) C (show decode cX12_floods 17 = .ok (.iconst (-1), 1) from by decide +kernel) (by decide) rfl ?_
      refine sr_iastore (q := 19) C (kt hv0 kp_12_37) (show decode cX12_floods 18 = .ok (.iastore, 1) from by decide +kernel) rfl ?_
      refine sr_iinc (v := v1 + (1 : Int32)) (L' := [some (xad κ v0), some (.int (v1 + (1 : Int32))), none, none, none]) (q := 22) C (show decode cX12_floods 19 = .ok (.iinc 1 1, 3) from by decide +kernel) rfl rfl (by decide) rfl rfl ?_
      refine sr_goto (q := 2) C (show decode cX12_floods 22 = .ok (.goto (-20), 3) from by decide +kernel) (by decide) ?_
      exact K2 v0 (v1 + (1 : Int32)) hv0
def fnX12_floods (v0 : Nat) : sm_M Bool := fnX12_floods_L2 4096 v0 (0 : Int32)
set_option maxHeartbeats 4000000 in
set_option maxRecDepth 100000 in
theorem slX12_floods {κ : sm_X} (C : sm_C κ RX12 cX12_floods 5 1) (v0 : Nat) (hv0 : kd v0 = 12) : sm_S κ (fun r : Bool => .inr (some (.int (bI r)))) (.inl (0, [some (xad κ v0), none, none, none, none], [])) (fnX12_floods v0) := by
  unfold fnX12_floods
  refine sr_iconst (v := (0 : Int32)) (q := 1) C (show decode cX12_floods 0 = .ok (.iconst 0, 1) from by decide +kernel) (by decide) rfl ?_
  refine sr_istore_n (i := 1) (L' := [some (xad κ v0), some (.int (0 : Int32)), none, none, none]) (q := 2) C (show decode cX12_floods 1 = .ok (.istore_n 1, 1) from by decide +kernel) rfl (by decide) rfl rfl ?_
  exact slX12_floods_L2 C 4096 v0 (0 : Int32) hv0
theorem cnX12_floods (ω : sm_O) (v0 : Nat) (hv0 : kd v0 = 12) : sm_Mt 1 yX12_floods cX12_floods 5 (some .boolean) ω [.ref (ω.1 + v0)] (fun a => some (.int (bI a))) (fnX12_floods v0) := by
  refine sm_conI (r := bI) (by decide) bI_nar (Nat.le_of_ble_eq_true rfl) ?_
  intro κ hκ C
  subst hκ
  exact slX12_floods C v0 hv0
def fnX12_flow_J81 (k21 : Nat → Int32 → sm_M Int32) (v0 : Nat) (v2 : Int32) : sm_M Int32 := k21 v0 (v2 + (1 : Int32))
set_option maxHeartbeats 4000000 in
set_option maxRecDepth 100000 in
theorem slX12_flow_J81 {κ : sm_X} (C : sm_C κ RX12 cX12_flow 5 3) {k21 : Nat → Int32 → sm_M Int32} (K21 : ∀ (v0 : Nat) (v2 : Int32) (hv0 : kd v0 = 12), sm_S κ (fun r : Int32 => .inr (some (.int r))) (.inl (21, [some (xad κ v0), none, some (.int v2), none, none], [])) (k21 v0 v2)) (v0 : Nat) (v2 : Int32) (hv0 : kd v0 = 12) : sm_S κ (fun r : Int32 => .inr (some (.int r))) (.inl (81, [some (xad κ v0), none, some (.int v2), none, none], [])) (fnX12_flow_J81 k21 v0 v2) := by
  unfold fnX12_flow_J81
  refine sr_iinc (v := v2 + (1 : Int32)) (L' := [some (xad κ v0), none, some (.int (v2 + (1 : Int32))), none, none]) (q := 84) C (show decode cX12_flow 81 = .ok (.iinc 2 1, 3) from by decide +kernel) rfl rfl (by decide) rfl rfl ?_
  refine sr_goto (q := 21) C (show decode cX12_flow 84 = .ok (.goto (-63), 3) from by decide +kernel) (by decide) ?_
  exact K21 v0 (v2 + (1 : Int32)) hv0
def fnX12_flow_L30 (k21 : Nat → Int32 → sm_M Int32) : Nat → Nat → Int32 → Int32 → sm_M Int32
  | 0, _, _, _ => m_fail
  | n + 1, v0, v2, v3 => m_br (v3 = (1 : Int32))
    (fnX12_flow_J81 k21 v0 v2)
    (m_ai (lk v0 37) v3 fun x40 => m_ai (lk v0 36) (((54 : Int32) * x40) + v3) fun x55 => m_sai (lk v0 36) (((54 : Int32) * x40) + v3) (x55 - (1 : Int32)) <| m_ai (lk v0 36) (((54 : Int32) * v3) + x40) fun x71 => m_sai (lk v0 36) (((54 : Int32) * v3) + x40) (x71 + (1 : Int32)) <| (fnX12_flow_L30 k21 n) v0 v2 x40)
set_option maxHeartbeats 4000000 in
set_option maxRecDepth 100000 in
theorem slX12_flow_L30 {κ : sm_X} (C : sm_C κ RX12 cX12_flow 5 3) {k21 : Nat → Int32 → sm_M Int32} (K21 : ∀ (v0 : Nat) (v2 : Int32) (hv0 : kd v0 = 12), sm_S κ (fun r : Int32 => .inr (some (.int r))) (.inl (21, [some (xad κ v0), none, some (.int v2), none, none], [])) (k21 v0 v2)) : ∀ (n : Nat) (v0 : Nat) (v2 : Int32) (v3 : Int32) (hv0 : kd v0 = 12), sm_S κ (fun r : Int32 => .inr (some (.int r))) (.inl (30, [some (xad κ v0), none, some (.int v2), some (.int v3), none], [])) (fnX12_flow_L30 k21 n v0 v2 v3) := by
  intro n
  induction n with
  | zero =>
    intros
    exact sr_fail
  | succ n K30 =>
    intro v0 v2 v3 hv0
    unfold fnX12_flow_L30
    refine sr_iload_n (i := 3) (q := 31) C (show decode cX12_flow 30 = .ok (.iload_n 3, 1) from by decide +kernel) rfl rfl rfl ?_
    refine sr_iconst (v := (1 : Int32)) (q := 32) C (show decode cX12_flow 31 = .ok (.iconst 1, 1) from by decide +kernel) (by decide) rfl ?_
    refine sr_icmp_eq (q := 35) C 81 (show decode cX12_flow 32 = .ok (.if_icmp .eq 49, 3) from by decide +kernel) (by decide) rfl ?_ ?_
    · refine sr_weak (L' := [some (xad κ v0), none, some (.int v2), none, none]) ⟨rfl, rfl, trivial⟩ ?_
      exact slX12_flow_J81 C K21 v0 v2 hv0
    · refine sr_aload_n (i := 0) (q := 36) C (show decode cX12_flow 35 = .ok (.aload_n 0, 1) from by decide +kernel) rfl rfl rfl ?_
      refine sr_getr (q := 39) C fl_X12_70 hv0 (show decode cX12_flow 36 = .ok (.getfield 70, 3) from by decide +kernel) rfl ?_
      refine sr_iload_n (i := 3) (q := 40) C (show decode cX12_flow 39 = .ok (.iload_n 3, 1) from by decide +kernel) rfl rfl rfl ?_
      refine sr_iaload (q := 41) C (kt hv0 kp_12_37) (show decode cX12_flow 40 = .ok (.iaload, 1) from by decide +kernel) rfl (fun x40 => ?_)
      refine sr_istore (i := 4) (L' := [some (xad κ v0), none, some (.int v2), some (.int v3), some (.int x40)]) (q := 43) C (show decode cX12_flow 41 = .ok (.istore 4, 2) from by decide +kernel) (by decide) rfl rfl ?_
      refine sr_aload_n (i := 0) (q := 44) C (show decode cX12_flow 43 = .ok (.aload_n 0, 1) from by decide +kernel) rfl rfl rfl ?_
      refine sr_getr (q := 47) C fl_X12_67 hv0 (show decode cX12_flow 44 = .ok (.getfield 67, 3) from by decide +kernel) rfl ?_
      refine sr_bipush (v := (54 : Int32)) (q := 49) C (show decode cX12_flow 47 = .ok (.bipush 54, 2) from by decide +kernel) (by decide) rfl ?_
      refine sr_iload (i := 4) (q := 51) C (show decode cX12_flow 49 = .ok (.iload 4, 2) from by decide +kernel) rfl rfl ?_
      refine sr_imul (q := 52) C (show decode cX12_flow 51 = .ok (.imul, 1) from by decide +kernel) rfl ?_
      refine sr_iload_n (i := 3) (q := 53) C (show decode cX12_flow 52 = .ok (.iload_n 3, 1) from by decide +kernel) rfl rfl rfl ?_
      refine sr_iadd (q := 54) C (show decode cX12_flow 53 = .ok (.iadd, 1) from by decide +kernel) rfl ?_
      refine sr_dup2 (q := 55) C (show decode cX12_flow 54 = .ok (.dup2, 1) from by decide +kernel) rfl rfl rfl ?_
      refine sr_iaload (q := 56) C (kt hv0 kp_12_36) (show decode cX12_flow 55 = .ok (.iaload, 1) from by decide +kernel) rfl (fun x55 => ?_)
      refine sr_iconst (v := (1 : Int32)) (q := 57) C (show decode cX12_flow 56 = .ok (.iconst 1, 1) from by decide +kernel) (by decide) rfl ?_
      refine sr_isub (q := 58) C (show decode cX12_flow 57 = .ok (.isub, 1) from by decide +kernel) rfl ?_
      refine sr_iastore (q := 59) C (kt hv0 kp_12_36) (show decode cX12_flow 58 = .ok (.iastore, 1) from by decide +kernel) rfl ?_
      refine sr_aload_n (i := 0) (q := 60) C (show decode cX12_flow 59 = .ok (.aload_n 0, 1) from by decide +kernel) rfl rfl rfl ?_
      refine sr_getr (q := 63) C fl_X12_67 hv0 (show decode cX12_flow 60 = .ok (.getfield 67, 3) from by decide +kernel) rfl ?_
      refine sr_bipush (v := (54 : Int32)) (q := 65) C (show decode cX12_flow 63 = .ok (.bipush 54, 2) from by decide +kernel) (by decide) rfl ?_
      refine sr_iload_n (i := 3) (q := 66) C (show decode cX12_flow 65 = .ok (.iload_n 3, 1) from by decide +kernel) rfl rfl rfl ?_
      refine sr_imul (q := 67) C (show decode cX12_flow 66 = .ok (.imul, 1) from by decide +kernel) rfl ?_
      refine sr_iload (i := 4) (q := 69) C (show decode cX12_flow 67 = .ok (.iload 4, 2) from by decide +kernel) rfl rfl ?_
      refine sr_iadd (q := 70) C (show decode cX12_flow 69 = .ok (.iadd, 1) from by decide +kernel) rfl ?_
      refine sr_dup2 (q := 71) C (show decode cX12_flow 70 = .ok (.dup2, 1) from by decide +kernel) rfl rfl rfl ?_
      refine sr_iaload (q := 72) C (kt hv0 kp_12_36) (show decode cX12_flow 71 = .ok (.iaload, 1) from by decide +kernel) rfl (fun x71 => ?_)
      refine sr_iconst (v := (1 : Int32)) (q := 73) C (show decode cX12_flow 72 = .ok (.iconst 1, 1) from by decide +kernel) (by decide) rfl ?_
      refine sr_iadd (q := 74) C (show decode cX12_flow 73 = .ok (.iadd, 1) from by decide +kernel) rfl ?_
      refine sr_iastore (q := 75) C (kt hv0 kp_12_36) (show decode cX12_flow 74 = .ok (.iastore, 1) from by decide +kernel) rfl ?_
      refine sr_iload (i := 4) (q := 77) C (show decode cX12_flow 75 = .ok (.iload 4, 2) from by decide +kernel) rfl rfl ?_
      refine sr_istore_n (i := 3) (L' := [some (xad κ v0), none, some (.int v2), some (.int x40), some (.int x40)]) (q := 78) C (show decode cX12_flow 77 = .ok (.istore_n 3, 1) from by decide +kernel) rfl (by decide) rfl rfl ?_
      refine sr_goto (q := 30) C (show decode cX12_flow 78 = .ok (.goto (-48), 3) from by decide +kernel) (by decide) ?_
      refine sr_weak (L' := [some (xad κ v0), none, some (.int v2), some (.int x40), none]) ⟨rfl, rfl, rfl, trivial⟩ ?_
      exact K30 v0 v2 x40 hv0
def fnX12_flow_L21 : Nat → Nat → Int32 → sm_M Int32
  | 0, _, _ => m_fail
  | n + 1, v0, v2 => m_bnd (fnX12_floods v0) fun x22 => m_br ((bI x22) = 0)
    (m_ret v2)
    (fnX12_flow_L30 (fnX12_flow_L21 n) 4096 v0 v2 (2 : Int32))
set_option maxHeartbeats 4000000 in
set_option maxRecDepth 100000 in
theorem slX12_flow_L21 {κ : sm_X} (C : sm_C κ RX12 cX12_flow 5 3) : ∀ (n : Nat) (v0 : Nat) (v2 : Int32) (hv0 : kd v0 = 12), sm_S κ (fun r : Int32 => .inr (some (.int r))) (.inl (21, [some (xad κ v0), none, some (.int v2), none, none], [])) (fnX12_flow_L21 n v0 v2) := by
  intro n
  induction n with
  | zero =>
    intros
    exact sr_fail
  | succ n K21 =>
    intro v0 v2 hv0
    unfold fnX12_flow_L21
    refine sr_aload_n (i := 0) (q := 22) C (show decode cX12_flow 21 = .ok (.aload_n 0, 1) from by decide +kernel) rfl rfl rfl ?_
    refine sr_cVz (As := []) (st := []) (b := v0) (q := 25) C yvX12_floods ml_X12_444 (cnX12_floods (xo κ) v0 hv0) hv0 (by decide) rfl rfl rfl (by decide) (by decide) (Nat.le_of_ble_eq_true rfl) rfl (show decode cX12_flow 22 = .ok (.invokevirtual 444, 3) from by decide +kernel) rfl (fun x22 => ?_)
    refine sr_if_eq (q := 28) C 87 (show decode cX12_flow 25 = .ok (.ifCond .eq 62, 3) from by decide +kernel) (by decide) rfl ?_ ?_
    · refine sr_iload_n (i := 2) (q := 88) C (show decode cX12_flow 87 = .ok (.iload_n 2, 1) from by decide +kernel) rfl rfl rfl ?_
      exact sr_ireturn C _ rfl (show decode cX12_flow 88 = .ok (.ireturn, 1) from by decide +kernel)
    · refine sr_iconst (v := (2 : Int32)) (q := 29) C (show decode cX12_flow 28 = .ok (.iconst 2, 1) from by decide +kernel) (by decide) rfl ?_
      refine sr_istore_n (i := 3) (L' := [some (xad κ v0), none, some (.int v2), some (.int (2 : Int32)), none]) (q := 30) C (show decode cX12_flow 29 = .ok (.istore_n 3, 1) from by decide +kernel) rfl (by decide) rfl rfl ?_
      exact slX12_flow_L30 C K21 4096 v0 v2 (2 : Int32) hv0
def fnX12_flow (v0 : Nat) (v1 : Int32) : sm_M Int32 := m_bnd (fnX12_areNear v0 (0 : Int32) (1 : Int32) v1) fun x4 => m_br ((bI x4) = 0)
    (m_bnd (fnX12_fillRoom v0 v1) fun _ => fnX12_flow_L21 4096 v0 (0 : Int32))
    (m_ret (999 : Int32))
set_option maxHeartbeats 4000000 in
set_option maxRecDepth 100000 in
theorem slX12_flow {κ : sm_X} (C : sm_C κ RX12 cX12_flow 5 3) (v0 : Nat) (v1 : Int32) (hv0 : kd v0 = 12) : sm_S κ (fun r : Int32 => .inr (some (.int r))) (.inl (0, [some (xad κ v0), some (.int v1), none, none, none], [])) (fnX12_flow v0 v1) := by
  unfold fnX12_flow
  refine sr_aload_n (i := 0) (q := 1) C (show decode cX12_flow 0 = .ok (.aload_n 0, 1) from by decide +kernel) rfl rfl rfl ?_
  refine sr_iconst (v := (0 : Int32)) (q := 2) C (show decode cX12_flow 1 = .ok (.iconst 0, 1) from by decide +kernel) (by decide) rfl ?_
  refine sr_iconst (v := (1 : Int32)) (q := 3) C (show decode cX12_flow 2 = .ok (.iconst 1, 1) from by decide +kernel) (by decide) rfl ?_
  refine sr_iload_n (i := 1) (q := 4) C (show decode cX12_flow 3 = .ok (.iload_n 1, 1) from by decide +kernel) rfl rfl rfl ?_
  refine sr_cVz (As := [.int (0 : Int32), .int (1 : Int32), .int v1]) (st := []) (b := v0) (q := 7) C yvX12_areNear ml_X12_438 (cnX12_areNear (xo κ) v0 (0 : Int32) (1 : Int32) v1 hv0) hv0 (by decide) rfl rfl rfl (by decide) (by decide) (Nat.le_of_ble_eq_true rfl) rfl (show decode cX12_flow 4 = .ok (.invokevirtual 438, 3) from by decide +kernel) rfl (fun x4 => ?_)
  refine sr_if_eq (q := 10) C 14 (show decode cX12_flow 7 = .ok (.ifCond .eq 7, 3) from by decide +kernel) (by decide) rfl ?_ ?_
  · refine sr_aload_n (i := 0) (q := 15) C (show decode cX12_flow 14 = .ok (.aload_n 0, 1) from by decide +kernel) rfl rfl rfl ?_
    refine sr_iload_n (i := 1) (q := 16) C (show decode cX12_flow 15 = .ok (.iload_n 1, 1) from by decide +kernel) rfl rfl rfl ?_
    refine sr_cVv (As := [.int v1]) (st := []) (b := v0) (q := 19) C yvX12_fillRoom ml_X12_441 (cnX12_fillRoom (xo κ) v0 v1 hv0) hv0 (by decide) rfl rfl rfl (by decide) (by decide) (Nat.le_of_ble_eq_true rfl) rfl (show decode cX12_flow 16 = .ok (.invokevirtual 441, 3) from by decide +kernel) rfl (fun _ => ?_)
    refine sr_iconst (v := (0 : Int32)) (q := 20) C (show decode cX12_flow 19 = .ok (.iconst 0, 1) from by decide +kernel) (by decide) rfl ?_
    refine sr_istore_n (i := 2) (L' := [some (xad κ v0), some (.int v1), some (.int (0 : Int32)), none, none]) (q := 21) C (show decode cX12_flow 20 = .ok (.istore_n 2, 1) from by decide +kernel) rfl (by decide) rfl rfl ?_
    refine sr_weak (L' := [some (xad κ v0), none, some (.int (0 : Int32)), none, none]) ⟨rfl, rfl, trivial⟩ ?_
    exact slX12_flow_L21 C 4096 v0 (0 : Int32) hv0
  · refine sr_sipush (v := (999 : Int32)) (q := 13) C (show decode cX12_flow 10 = .ok (.sipush 999, 3) from by decide +kernel) (by decide) rfl ?_
    exact sr_ireturn C _ rfl (show decode cX12_flow 13 = .ok (.ireturn, 1) from by decide +kernel)
theorem cnX12_flow (ω : sm_O) (v0 : Nat) (v1 : Int32) (hv0 : kd v0 = 12) : sm_Mt 3 yX12_flow cX12_flow 5 (some .int) ω [.ref (ω.1 + v0), .int v1] (fun a => some (.int a)) (fnX12_flow v0 v1) := by
  refine sm_conI (r := fun a => a) (by decide) (fun _ => rfl) (Nat.le_of_ble_eq_true rfl) ?_
  intro κ hκ C
  subst hκ
  exact slX12_flow C v0 v1 hv0
def fnX12_isLoad (v0 : Nat) (v1 : Int32) (v2 : Int32) : sm_M Bool := m_bnd (fnX12_isRiver v0) fun x1 => m_br ((bI x1) = 0)
    (m_ret false)
    (m_bnd (fnX12_isStride v1) fun x8 => m_br ((bI x8) = 0)
    (m_ret false)
    (m_bnd (fnX12_in v2.toInt64 (1 : Int64) (6 : Int64)) fun x20 => m_br ((bI x20) = 0)
    (m_ret false)
    (m_ret true)))
set_option maxHeartbeats 4000000 in
set_option maxRecDepth 100000 in
theorem slX12_isLoad {κ : sm_X} (C : sm_C κ RX12 cX12_isLoad 3 3) (v0 : Nat) (v1 : Int32) (v2 : Int32) (hv0 : kd v0 = 12) : sm_S κ (fun r : Bool => .inr (some (.int (bI r)))) (.inl (0, [some (xad κ v0), some (.int v1), some (.int v2)], [])) (fnX12_isLoad v0 v1 v2) := by
  unfold fnX12_isLoad
  refine sr_aload_n (i := 0) (q := 1) C (show decode cX12_isLoad 0 = .ok (.aload_n 0, 1) from by decide +kernel) rfl rfl rfl ?_
  refine sr_cVz (As := []) (st := []) (b := v0) (q := 4) C yvX12_isRiver ml_X12_107 (cnX12_isRiver (xo κ) v0 hv0) hv0 (by decide) rfl rfl rfl (by decide) (by decide) (Nat.le_of_ble_eq_true rfl) rfl (show decode cX12_isLoad 1 = .ok (.invokevirtual 107, 3) from by decide +kernel) rfl (fun x1 => ?_)
  refine sr_if_eq (q := 7) C 30 (show decode cX12_isLoad 4 = .ok (.ifCond .eq 26, 3) from by decide +kernel) (by decide) rfl ?_ ?_
  · refine sr_iconst (v := (0 : Int32)) (q := 31) C (show decode cX12_isLoad 30 = .ok (.iconst 0, 1) from by decide +kernel) (by decide) rfl ?_
    exact sr_ireturn C false rfl (show decode cX12_isLoad 31 = .ok (.ireturn, 1) from by decide +kernel)
  · refine sr_iload_n (i := 1) (q := 8) C (show decode cX12_isLoad 7 = .ok (.iload_n 1, 1) from by decide +kernel) rfl rfl rfl ?_
    refine sr_cSz (As := [.int v1]) (st := []) (q := 11) C ysX12_isStride ml_X12_267 (cnX12_isStride (xo κ) v1) rfl (by decide) (by decide) (Nat.le_of_ble_eq_true rfl) rfl (show decode cX12_isLoad 8 = .ok (.invokestatic 267, 3) from by decide +kernel) rfl (fun x8 => ?_)
    refine sr_if_eq (q := 14) C 30 (show decode cX12_isLoad 11 = .ok (.ifCond .eq 19, 3) from by decide +kernel) (by decide) rfl ?_ ?_
    · refine sr_iconst (v := (0 : Int32)) (q := 31) C (show decode cX12_isLoad 30 = .ok (.iconst 0, 1) from by decide +kernel) (by decide) rfl ?_
      exact sr_ireturn C false rfl (show decode cX12_isLoad 31 = .ok (.ireturn, 1) from by decide +kernel)
    · refine sr_iload_n (i := 2) (q := 15) C (show decode cX12_isLoad 14 = .ok (.iload_n 2, 1) from by decide +kernel) rfl rfl rfl ?_
      refine sr_i2l (q := 16) C (show decode cX12_isLoad 15 = .ok (.i2l, 1) from by decide +kernel) rfl ?_
      refine sr_lconst (v := (1 : Int64)) (q := 17) C (show decode cX12_isLoad 16 = .ok (.lconst 1, 1) from by decide +kernel) (by decide) rfl ?_
      refine sr_ldc2 (q := 20) C co_X12_306 (show decode cX12_isLoad 17 = .ok (.ldc2_w 306, 3) from by decide +kernel) rfl ?_
      refine sr_cSz (As := [.long v2.toInt64, .long (1 : Int64), .long (6 : Int64)]) (st := []) (q := 23) C ysX12_in ml_X12_103 (cnX12_in (xo κ) v2.toInt64 (1 : Int64) (6 : Int64)) rfl (by decide) (by decide) (Nat.le_of_ble_eq_true rfl) rfl (show decode cX12_isLoad 20 = .ok (.invokestatic 103, 3) from by decide +kernel) rfl (fun x20 => ?_)
      refine sr_if_eq (q := 26) C 30 (show decode cX12_isLoad 23 = .ok (.ifCond .eq 7, 3) from by decide +kernel) (by decide) rfl ?_ ?_
      · refine sr_iconst (v := (0 : Int32)) (q := 31) C (show decode cX12_isLoad 30 = .ok (.iconst 0, 1) from by decide +kernel) (by decide) rfl ?_
        exact sr_ireturn C false rfl (show decode cX12_isLoad 31 = .ok (.ireturn, 1) from by decide +kernel)
      · refine sr_iconst (v := (1 : Int32)) (q := 27) C (show decode cX12_isLoad 26 = .ok (.iconst 1, 1) from by decide +kernel) (by decide) rfl ?_
        refine sr_goto (q := 31) C (show decode cX12_isLoad 27 = .ok (.goto 4, 3) from by decide +kernel) (by decide) ?_
        exact sr_ireturn C true rfl (show decode cX12_isLoad 31 = .ok (.ireturn, 1) from by decide +kernel)
theorem cnX12_isLoad (ω : sm_O) (v0 : Nat) (v1 : Int32) (v2 : Int32) (hv0 : kd v0 = 12) : sm_Mt 3 yX12_isLoad cX12_isLoad 3 (some .boolean) ω [.ref (ω.1 + v0), .int v1, .int v2] (fun a => some (.int (bI a))) (fnX12_isLoad v0 v1 v2) := by
  refine sm_conI (r := bI) (by decide) bI_nar (Nat.le_of_ble_eq_true rfl) ?_
  intro κ hκ C
  subst hκ
  exact slX12_isLoad C v0 v1 v2 hv0
def fnX12_isStone (v0 : Nat) (v1 : Int32) : sm_M Bool := m_ai (lk v0 1) (3 : Int32) fun x8 => m_bnd (fnX12_in v1.toInt64 (0 : Int64) ((x8 - (1 : Int32)).toInt64)) fun x12 => m_ret x12
set_option maxHeartbeats 4000000 in
set_option maxRecDepth 100000 in
theorem slX12_isStone {κ : sm_X} (C : sm_C κ RX12 cX12_isStone 2 2) (v0 : Nat) (v1 : Int32) (hv0 : kd v0 = 12) : sm_S κ (fun r : Bool => .inr (some (.int (bI r)))) (.inl (0, [some (xad κ v0), some (.int v1)], [])) (fnX12_isStone v0 v1) := by
  unfold fnX12_isStone
  refine sr_iload_n (i := 1) (q := 1) C (show decode cX12_isStone 0 = .ok (.iload_n 1, 1) from by decide +kernel) rfl rfl rfl ?_
  refine sr_i2l (q := 2) C (show decode cX12_isStone 1 = .ok (.i2l, 1) from by decide +kernel) rfl ?_
  refine sr_lconst (v := (0 : Int64)) (q := 3) C (show decode cX12_isStone 2 = .ok (.lconst 0, 1) from by decide +kernel) (by decide) rfl ?_
  refine sr_aload_n (i := 0) (q := 4) C (show decode cX12_isStone 3 = .ok (.aload_n 0, 1) from by decide +kernel) rfl rfl rfl ?_
  refine sr_getr (q := 7) C fl_X12_9 hv0 (show decode cX12_isStone 4 = .ok (.getfield 9, 3) from by decide +kernel) rfl ?_
  refine sr_iconst (v := (3 : Int32)) (q := 8) C (show decode cX12_isStone 7 = .ok (.iconst 3, 1) from by decide +kernel) (by decide) rfl ?_
  refine sr_iaload (q := 9) C (kt hv0 kp_12_1) (show decode cX12_isStone 8 = .ok (.iaload, 1) from by decide +kernel) rfl (fun x8 => ?_)
  refine sr_iconst (v := (1 : Int32)) (q := 10) C (show decode cX12_isStone 9 = .ok (.iconst 1, 1) from by decide +kernel) (by decide) rfl ?_
  refine sr_isub (q := 11) C (show decode cX12_isStone 10 = .ok (.isub, 1) from by decide +kernel) rfl ?_
  refine sr_i2l (q := 12) C (show decode cX12_isStone 11 = .ok (.i2l, 1) from by decide +kernel) rfl ?_
  refine sr_cSz (As := [.long v1.toInt64, .long (0 : Int64), .long ((x8 - (1 : Int32)).toInt64)]) (st := []) (q := 15) C ysX12_in ml_X12_103 (cnX12_in (xo κ) v1.toInt64 (0 : Int64) ((x8 - (1 : Int32)).toInt64)) rfl (by decide) (by decide) (Nat.le_of_ble_eq_true rfl) rfl (show decode cX12_isStone 12 = .ok (.invokestatic 103, 3) from by decide +kernel) rfl (fun x12 => ?_)
  exact sr_ireturn C x12 rfl (show decode cX12_isStone 15 = .ok (.ireturn, 1) from by decide +kernel)
theorem cnX12_isStone (ω : sm_O) (v0 : Nat) (v1 : Int32) (hv0 : kd v0 = 12) : sm_Mt 2 yX12_isStone cX12_isStone 2 (some .boolean) ω [.ref (ω.1 + v0), .int v1] (fun a => some (.int (bI a))) (fnX12_isStone v0 v1) := by
  refine sm_conI (r := bI) (by decide) bI_nar (Nat.le_of_ble_eq_true rfl) ?_
  intro κ hκ C
  subst hκ
  exact slX12_isStone C v0 v1 hv0
def fnX12_mostOf (v0 : Nat) (v1 : Int32) (v2 : Int32) : sm_M Int32 := m_bnd (fnX12_fillNodes v0 v2) fun _ => m_bnd (fnX12_flow v0 v1) fun x7 => m_ret x7
set_option maxHeartbeats 4000000 in
set_option maxRecDepth 100000 in
theorem slX12_mostOf {κ : sm_X} (C : sm_C κ RX12 cX12_mostOf 3 5) (v0 : Nat) (v1 : Int32) (v2 : Int32) (hv0 : kd v0 = 12) : sm_S κ (fun r : Int32 => .inr (some (.int r))) (.inl (0, [some (xad κ v0), some (.int v1), some (.int v2)], [])) (fnX12_mostOf v0 v1 v2) := by
  unfold fnX12_mostOf
  refine sr_aload_n (i := 0) (q := 1) C (show decode cX12_mostOf 0 = .ok (.aload_n 0, 1) from by decide +kernel) rfl rfl rfl ?_
  refine sr_iload_n (i := 2) (q := 2) C (show decode cX12_mostOf 1 = .ok (.iload_n 2, 1) from by decide +kernel) rfl rfl rfl ?_
  refine sr_cVv (As := [.int v2]) (st := []) (b := v0) (q := 5) C yvX12_fillNodes ml_X12_447 (cnX12_fillNodes (xo κ) v0 v2 hv0) hv0 (by decide) rfl rfl rfl (by decide) (by decide) (Nat.le_of_ble_eq_true rfl) rfl (show decode cX12_mostOf 2 = .ok (.invokevirtual 447, 3) from by decide +kernel) rfl (fun _ => ?_)
  refine sr_aload_n (i := 0) (q := 6) C (show decode cX12_mostOf 5 = .ok (.aload_n 0, 1) from by decide +kernel) rfl rfl rfl ?_
  refine sr_iload_n (i := 1) (q := 7) C (show decode cX12_mostOf 6 = .ok (.iload_n 1, 1) from by decide +kernel) rfl rfl rfl ?_
  refine sr_cVi (As := [.int v1]) (st := []) (b := v0) (q := 10) C yvX12_flow ml_X12_450 (cnX12_flow (xo κ) v0 v1 hv0) hv0 (by decide) rfl rfl rfl (by decide) (by decide) (Nat.le_of_ble_eq_true rfl) rfl (show decode cX12_mostOf 7 = .ok (.invokevirtual 450, 3) from by decide +kernel) rfl (fun x7 => ?_)
  exact sr_ireturn C _ rfl (show decode cX12_mostOf 10 = .ok (.ireturn, 1) from by decide +kernel)
theorem cnX12_mostOf (ω : sm_O) (v0 : Nat) (v1 : Int32) (v2 : Int32) (hv0 : kd v0 = 12) : sm_Mt 5 yX12_mostOf cX12_mostOf 3 (some .int) ω [.ref (ω.1 + v0), .int v1, .int v2] (fun a => some (.int a)) (fnX12_mostOf v0 v1 v2) := by
  refine sm_conI (r := fun a => a) (by decide) (fun _ => rfl) (Nat.le_of_ble_eq_true rfl) ?_
  intro κ hκ C
  subst hκ
  exact slX12_mostOf C v0 v1 v2 hv0
def fnX12_bars (v0 : Nat) (v1 : Int32) (v2 : Int32) (v3 : Int32) : sm_M Int32 := m_bnd (fnX12_isStone v0 v1) fun x2 => m_br ((bI x2) = 0)
    (m_ret (-2 : Int32))
    (m_bnd (fnX12_isLoad v0 v2 v3) fun x11 => m_br ((bI x11) = 0)
    (m_ret (-2 : Int32))
    (m_bnd (fnX12_mostOf v0 v2 v3) fun x23 => m_bnd (fnX12_fillNodes v0 v3) fun _ => m_sai (lk v0 34) ((2 : Int32) + v1) (0 : Int32) <| m_bnd (fnX12_flow v0 v2) fun x46 => m_ret (x23 - x46)))
set_option maxHeartbeats 4000000 in
set_option maxRecDepth 100000 in
theorem slX12_bars {κ : sm_X} (C : sm_C κ RX12 cX12_bars 5 6) (v0 : Nat) (v1 : Int32) (v2 : Int32) (v3 : Int32) (hv0 : kd v0 = 12) : sm_S κ (fun r : Int32 => .inr (some (.int r))) (.inl (0, [some (xad κ v0), some (.int v1), some (.int v2), some (.int v3), none], [])) (fnX12_bars v0 v1 v2 v3) := by
  unfold fnX12_bars
  refine sr_aload_n (i := 0) (q := 1) C (show decode cX12_bars 0 = .ok (.aload_n 0, 1) from by decide +kernel) rfl rfl rfl ?_
  refine sr_iload_n (i := 1) (q := 2) C (show decode cX12_bars 1 = .ok (.iload_n 1, 1) from by decide +kernel) rfl rfl rfl ?_
  refine sr_cVz (As := [.int v1]) (st := []) (b := v0) (q := 5) C yvX12_isStone ml_X12_111 (cnX12_isStone (xo κ) v0 v1 hv0) hv0 (by decide) rfl rfl rfl (by decide) (by decide) (Nat.le_of_ble_eq_true rfl) rfl (show decode cX12_bars 2 = .ok (.invokevirtual 111, 3) from by decide +kernel) rfl (fun x2 => ?_)
  refine sr_if_eq (q := 8) C 17 (show decode cX12_bars 5 = .ok (.ifCond .eq 12, 3) from by decide +kernel) (by decide) rfl ?_ ?_
  · refine sr_bipush (v := (-2 : Int32)) (q := 19) C (show decode cX12_bars 17 = .ok (.bipush (-2), 2) from by decide +kernel) (by decide) rfl ?_
    exact sr_ireturn C _ rfl (show decode cX12_bars 19 = .ok (.ireturn, 1) from by decide +kernel)
  · refine sr_aload_n (i := 0) (q := 9) C (show decode cX12_bars 8 = .ok (.aload_n 0, 1) from by decide +kernel) rfl rfl rfl ?_
    refine sr_iload_n (i := 2) (q := 10) C (show decode cX12_bars 9 = .ok (.iload_n 2, 1) from by decide +kernel) rfl rfl rfl ?_
    refine sr_iload_n (i := 3) (q := 11) C (show decode cX12_bars 10 = .ok (.iload_n 3, 1) from by decide +kernel) rfl rfl rfl ?_
    refine sr_cVz (As := [.int v2, .int v3]) (st := []) (b := v0) (q := 14) C yvX12_isLoad ml_X12_453 (cnX12_isLoad (xo κ) v0 v2 v3 hv0) hv0 (by decide) rfl rfl rfl (by decide) (by decide) (Nat.le_of_ble_eq_true rfl) rfl (show decode cX12_bars 11 = .ok (.invokevirtual 453, 3) from by decide +kernel) rfl (fun x11 => ?_)
    refine sr_if_ne (q := 17) C 20 (show decode cX12_bars 14 = .ok (.ifCond .ne 6, 3) from by decide +kernel) (by decide) rfl ?_ ?_
    · refine sr_aload_n (i := 0) (q := 21) C (show decode cX12_bars 20 = .ok (.aload_n 0, 1) from by decide +kernel) rfl rfl rfl ?_
      refine sr_iload_n (i := 2) (q := 22) C (show decode cX12_bars 21 = .ok (.iload_n 2, 1) from by decide +kernel) rfl rfl rfl ?_
      refine sr_iload_n (i := 3) (q := 23) C (show decode cX12_bars 22 = .ok (.iload_n 3, 1) from by decide +kernel) rfl rfl rfl ?_
      refine sr_cVi (As := [.int v2, .int v3]) (st := []) (b := v0) (q := 26) C yvX12_mostOf ml_X12_456 (cnX12_mostOf (xo κ) v0 v2 v3 hv0) hv0 (by decide) rfl rfl rfl (by decide) (by decide) (Nat.le_of_ble_eq_true rfl) rfl (show decode cX12_bars 23 = .ok (.invokevirtual 456, 3) from by decide +kernel) rfl (fun x23 => ?_)
      refine sr_istore (i := 4) (L' := [some (xad κ v0), some (.int v1), some (.int v2), some (.int v3), some (.int x23)]) (q := 28) C (show decode cX12_bars 26 = .ok (.istore 4, 2) from by decide +kernel) (by decide) rfl rfl ?_
      refine sr_aload_n (i := 0) (q := 29) C (show decode cX12_bars 28 = .ok (.aload_n 0, 1) from by decide +kernel) rfl rfl rfl ?_
      refine sr_iload_n (i := 3) (q := 30) C (show decode cX12_bars 29 = .ok (.iload_n 3, 1) from by decide +kernel) rfl rfl rfl ?_
      refine sr_cVv (As := [.int v3]) (st := []) (b := v0) (q := 33) C yvX12_fillNodes ml_X12_447 (cnX12_fillNodes (xo κ) v0 v3 hv0) hv0 (by decide) rfl rfl rfl (by decide) (by decide) (Nat.le_of_ble_eq_true rfl) rfl (show decode cX12_bars 30 = .ok (.invokevirtual 447, 3) from by decide +kernel) rfl (fun _ => ?_)
      refine sr_aload_n (i := 0) (q := 34) C (show decode cX12_bars 33 = .ok (.aload_n 0, 1) from by decide +kernel) rfl rfl rfl ?_
      refine sr_getr (q := 37) C fl_X12_64 hv0 (show decode cX12_bars 34 = .ok (.getfield 64, 3) from by decide +kernel) rfl ?_
      refine sr_iconst (v := (2 : Int32)) (q := 38) C (show decode cX12_bars 37 = .ok (.iconst 2, 1) from by decide +kernel) (by decide) rfl ?_
      refine sr_iload_n (i := 1) (q := 39) C (show decode cX12_bars 38 = .ok (.iload_n 1, 1) from by decide +kernel) rfl rfl rfl ?_
      refine sr_iadd (q := 40) C (show decode cX12_bars 39 = .ok (.iadd, 1) from by decide +kernel) rfl ?_
      refine sr_iconst (v := (0 : Int32)) (q := 41) C (show decode cX12_bars 40 = .ok (.iconst 0, 1) from by decide +kernel) (by decide) rfl ?_
      refine sr_iastore (q := 42) C (kt hv0 kp_12_34) (show decode cX12_bars 41 = .ok (.iastore, 1) from by decide +kernel) rfl ?_
      refine sr_iload (i := 4) (q := 44) C (show decode cX12_bars 42 = .ok (.iload 4, 2) from by decide +kernel) rfl rfl ?_
      refine sr_aload_n (i := 0) (q := 45) C (show decode cX12_bars 44 = .ok (.aload_n 0, 1) from by decide +kernel) rfl rfl rfl ?_
      refine sr_iload_n (i := 2) (q := 46) C (show decode cX12_bars 45 = .ok (.iload_n 2, 1) from by decide +kernel) rfl rfl rfl ?_
      refine sr_cVi (As := [.int v2]) (st := [.int x23]) (b := v0) (q := 49) C yvX12_flow ml_X12_450 (cnX12_flow (xo κ) v0 v2 hv0) hv0 (by decide) rfl rfl rfl (by decide) (by decide) (Nat.le_of_ble_eq_true rfl) rfl (show decode cX12_bars 46 = .ok (.invokevirtual 450, 3) from by decide +kernel) rfl (fun x46 => ?_)
      refine sr_isub (q := 50) C (show decode cX12_bars 49 = .ok (.isub, 1) from by decide +kernel) rfl ?_
      exact sr_ireturn C _ rfl (show decode cX12_bars 50 = .ok (.ireturn, 1) from by decide +kernel)
    · refine sr_bipush (v := (-2 : Int32)) (q := 19) C (show decode cX12_bars 17 = .ok (.bipush (-2), 2) from by decide +kernel) (by decide) rfl ?_
      exact sr_ireturn C _ rfl (show decode cX12_bars 19 = .ok (.ireturn, 1) from by decide +kernel)
theorem cnX12_bars (ω : sm_O) (v0 : Nat) (v1 : Int32) (v2 : Int32) (v3 : Int32) (hv0 : kd v0 = 12) : sm_Mt 6 yX12_bars cX12_bars 5 (some .int) ω [.ref (ω.1 + v0), .int v1, .int v2, .int v3] (fun a => some (.int a)) (fnX12_bars v0 v1 v2 v3) := by
  refine sm_conI (r := fun a => a) (by decide) (fun _ => rfl) (Nat.le_of_ble_eq_true rfl) ?_
  intro κ hκ C
  subst hκ
  exact slX12_bars C v0 v1 v2 v3 hv0
