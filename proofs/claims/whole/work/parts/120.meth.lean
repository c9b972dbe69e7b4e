def fnX12_isSeed (v0 : Int32) : sm_M Bool := m_bnd (fnX12_in v0.toInt64 (0 : Int64) (2000000000 : Int64)) fun x6 => m_ret x6
set_option maxHeartbeats 4000000 in
set_option maxRecDepth 100000 in
theorem slX12_isSeed {κ : sm_X} (C : sm_C κ RX12 cX12_isSeed 1 2) (v0 : Int32)  : sm_S κ (fun r : Bool => .inr (some (.int (bI r)))) (.inl (0, [some (.int v0)], [])) (fnX12_isSeed v0) := by
  unfold fnX12_isSeed
  refine sr_iload_n (i := 0) (q := 1) C (show decode cX12_isSeed 0 = .ok (.iload_n 0, 1) from by decide +kernel) rfl rfl rfl ?_
  refine sr_i2l (q := 2) C (show decode cX12_isSeed 1 = .ok (.i2l, 1) from by decide +kernel) rfl ?_
  refine sr_lconst (v := (0 : Int64)) (q := 3) C (show decode cX12_isSeed 2 = .ok (.lconst 0, 1) from by decide +kernel) (by decide) rfl ?_
  refine sr_ldc2 (q := 6) C co_X12_538 (show decode cX12_isSeed 3 = .ok (.ldc2_w 538, 3) from by decide +kernel) rfl ?_
  refine sr_cSz (As := [.long v0.toInt64, .long (0 : Int64), .long (2000000000 : Int64)]) (st := []) (q := 9) C ysX12_in ml_X12_103 (cnX12_in (xo κ) v0.toInt64 (0 : Int64) (2000000000 : Int64)) rfl (by decide) (by decide) (Nat.le_of_ble_eq_true rfl) rfl (show decode cX12_isSeed 6 = .ok (.invokestatic 103, 3) from by decide +kernel) rfl (fun x6 => ?_)
  exact sr_ireturn C x6 rfl (show decode cX12_isSeed 9 = .ok (.ireturn, 1) from by decide +kernel)
theorem cnX12_isSeed (ω : sm_O) (v0 : Int32)  : sm_Mt 2 yX12_isSeed cX12_isSeed 1 (some .boolean) ω [.int v0] (fun a => some (.int (bI a))) (fnX12_isSeed v0) := by
  refine sm_conI (r := bI) (by decide) bI_nar (Nat.le_of_ble_eq_true rfl) ?_
  intro κ hκ C
  subst hκ
  exact slX12_isSeed C v0
def fnX12_isSpot (v0 : Nat) (v1 : Int32) (v2 : Int32) : sm_M Bool := m_ai (lk v0 1) (2 : Int32) fun x8 => m_bnd (fnX12_in v1.toInt64 (0 : Int64) ((x8 - (1 : Int32)).toInt64)) fun x12 => m_br ((bI x12) = 0)
    (m_ret false)
    (m_ai (lk v0 1) (1 : Int32) fun x26 => m_bnd (fnX12_in v2.toInt64 (1 : Int64) ((x26 - (1 : Int32)).toInt64)) fun x30 => m_br ((bI x30) = 0)
    (m_ret false)
    (m_ret true))
set_option maxHeartbeats 4000000 in
set_option maxRecDepth 100000 in
theorem slX12_isSpot {κ : sm_X} (C : sm_C κ RX12 cX12_isSpot 3 2) (v0 : Nat) (v1 : Int32) (v2 : Int32) (hv0 : kd v0 = 12) : sm_S κ (fun r : Bool => .inr (some (.int (bI r)))) (.inl (0, [some (xad κ v0), some (.int v1), some (.int v2)], [])) (fnX12_isSpot v0 v1 v2) := by
  unfold fnX12_isSpot
  refine sr_iload_n (i := 1) (q := 1) C (show decode cX12_isSpot 0 = .ok (.iload_n 1, 1) from by decide +kernel) rfl rfl rfl ?_
  refine sr_i2l (q := 2) C (show decode cX12_isSpot 1 = .ok (.i2l, 1) from by decide +kernel) rfl ?_
  refine sr_lconst (v := (0 : Int64)) (q := 3) C (show decode cX12_isSpot 2 = .ok (.lconst 0, 1) from by decide +kernel) (by decide) rfl ?_
  refine sr_aload_n (i := 0) (q := 4) C (show decode cX12_isSpot 3 = .ok (.aload_n 0, 1) from by decide +kernel) rfl rfl rfl ?_
  refine sr_getr (q := 7) C fl_X12_9 hv0 (show decode cX12_isSpot 4 = .ok (.getfield 9, 3) from by decide +kernel) rfl ?_
  refine sr_iconst (v := (2 : Int32)) (q := 8) C (show decode cX12_isSpot 7 = .ok (.iconst 2, 1) from by decide +kernel) (by decide) rfl ?_
  refine sr_iaload (q := 9) C (kt hv0 kp_12_1) (show decode cX12_isSpot 8 = .ok (.iaload, 1) from by decide +kernel) rfl (fun x8 => ?_)
  refine sr_iconst (v := (1 : Int32)) (q := 10) C (show decode cX12_isSpot 9 = .ok (.iconst 1, 1) from by decide +kernel) (by decide) rfl ?_
  refine sr_isub (q := 11) C (show decode cX12_isSpot 10 = .ok (.isub, 1) from by decide +kernel) rfl ?_
  refine sr_i2l (q := 12) C (show decode cX12_isSpot 11 = .ok (.i2l, 1) from by decide +kernel) rfl ?_
  refine sr_cSz (As := [.long v1.toInt64, .long (0 : Int64), .long ((x8 - (1 : Int32)).toInt64)]) (st := []) (q := 15) C ysX12_in ml_X12_103 (cnX12_in (xo κ) v1.toInt64 (0 : Int64) ((x8 - (1 : Int32)).toInt64)) rfl (by decide) (by decide) (Nat.le_of_ble_eq_true rfl) rfl (show decode cX12_isSpot 12 = .ok (.invokestatic 103, 3) from by decide +kernel) rfl (fun x12 => ?_)
  refine sr_if_eq (q := 18) C 40 (show decode cX12_isSpot 15 = .ok (.ifCond .eq 25, 3) from by decide +kernel) (by decide) rfl ?_ ?_
  · refine sr_iconst (v := (0 : Int32)) (q := 41) C (show decode cX12_isSpot 40 = .ok (.iconst 0, 1) from by decide +kernel) (by decide) rfl ?_
    exact sr_ireturn C false rfl (show decode cX12_isSpot 41 = .ok (.ireturn, 1) from by decide +kernel)
  · refine sr_iload_n (i := 2) (q := 19) C (show decode cX12_isSpot 18 = .ok (.iload_n 2, 1) from by decide +kernel) rfl rfl rfl ?_
    refine sr_i2l (q := 20) C (show decode cX12_isSpot 19 = .ok (.i2l, 1) from by decide +kernel) rfl ?_
    refine sr_lconst (v := (1 : Int64)) (q := 21) C (show decode cX12_isSpot 20 = .ok (.lconst 1, 1) from by decide +kernel) (by decide) rfl ?_
    refine sr_aload_n (i := 0) (q := 22) C (show decode cX12_isSpot 21 = .ok (.aload_n 0, 1) from by decide +kernel) rfl rfl rfl ?_
    refine sr_getr (q := 25) C fl_X12_9 hv0 (show decode cX12_isSpot 22 = .ok (.getfield 9, 3) from by decide +kernel) rfl ?_
    refine sr_iconst (v := (1 : Int32)) (q := 26) C (show decode cX12_isSpot 25 = .ok (.iconst 1, 1) from by decide +kernel) (by decide) rfl ?_
    refine sr_iaload (q := 27) C (kt hv0 kp_12_1) (show decode cX12_isSpot 26 = .ok (.iaload, 1) from by decide +kernel) rfl (fun x26 => ?_)
    refine sr_iconst (v := (1 : Int32)) (q := 28) C (show decode cX12_isSpot 27 = .ok (.iconst 1, 1) from by decide +kernel) (by decide) rfl ?_
    refine sr_isub (q := 29) C (show decode cX12_isSpot 28 = .ok (.isub, 1) from by decide +kernel) rfl ?_
    refine sr_i2l (q := 30) C (show decode cX12_isSpot 29 = .ok (.i2l, 1) from by decide +kernel) rfl ?_
    refine sr_cSz (As := [.long v2.toInt64, .long (1 : Int64), .long ((x26 - (1 : Int32)).toInt64)]) (st := []) (q := 33) C ysX12_in ml_X12_103 (cnX12_in (xo κ) v2.toInt64 (1 : Int64) ((x26 - (1 : Int32)).toInt64)) rfl (by decide) (by decide) (Nat.le_of_ble_eq_true rfl) rfl (show decode cX12_isSpot 30 = .ok (.invokestatic 103, 3) from by decide +kernel) rfl (fun x30 => ?_)
    refine sr_if_eq (q := 36) C 40 (show decode cX12_isSpot 33 = .ok (.ifCond .eq 7, 3) from by decide +kernel) (by decide) rfl ?_ ?_
    · refine sr_iconst (v := (0 : Int32)) (q := 41) C (show decode cX12_isSpot 40 = .ok (.iconst 0, 1) from by decide +kernel) (by decide) rfl ?_
      exact sr_ireturn C false rfl (show decode cX12_isSpot 41 = .ok (.ireturn, 1) from by decide +kernel)
    · refine sr_iconst (v := (1 : Int32)) (q := 37) C (show decode cX12_isSpot 36 = .ok (.iconst 1, 1) from by decide +kernel) (by decide) rfl ?_
      refine sr_goto (q := 41) C (show decode cX12_isSpot 37 = .ok (.goto 4, 3) from by decide +kernel) (by decide) ?_
      exact sr_ireturn C true rfl (show decode cX12_isSpot 41 = .ok (.ireturn, 1) from by decide +kernel)
theorem cnX12_isSpot (ω : sm_O) (v0 : Nat) (v1 : Int32) (v2 : Int32) (hv0 : kd v0 = 12) : sm_Mt 2 yX12_isSpot cX12_isSpot 3 (some .boolean) ω [.ref (ω.1 + v0), .int v1, .int v2] (fun a => some (.int (bI a))) (fnX12_isSpot v0 v1 v2) := by
  refine sm_conI (r := bI) (by decide) bI_nar (Nat.le_of_ble_eq_true rfl) ?_
  intro κ hκ C
  subst hκ
  exact slX12_isSpot C v0 v1 v2 hv0
def fnX12_judge (v0 : Nat) (v1 : Int32) : sm_M Int32 := m_bnd (fnX12_isSlot v1) fun x1 => m_br ((bI x1) = 0)
    (m_ret (-2 : Int32))
    (m_ai (lk v0 43) v1 fun x15 => m_br (x15 = (-1 : Int32))
    (m_ret (-6 : Int32))
    (m_bnd (fnX12_thinks v0) fun _ => m_bnd (fnX12_walks v0 v1) fun x29 => m_bnd (fnX12_wakes v0) fun _ => m_ret x29))
set_option maxHeartbeats 4000000 in
set_option maxRecDepth 100000 in
theorem slX12_judge {κ : sm_X} (C : sm_C κ RX12 cX12_judge 3 7) (v0 : Nat) (v1 : Int32) (hv0 : kd v0 = 12) : sm_S κ (fun r : Int32 => .inr (some (.int r))) (.inl (0, [some (xad κ v0), some (.int v1), none], [])) (fnX12_judge v0 v1) := by
  unfold fnX12_judge
  refine sr_iload_n (i := 1) (q := 1) C (show decode cX12_judge 0 = .ok (.iload_n 1, 1) from by decide +kernel) rfl rfl rfl ?_
  refine sr_cSz (As := [.int v1]) (st := []) (q := 4) C ysX12_isSlot ml_X12_336 (cnX12_isSlot (xo κ) v1) rfl (by decide) (by decide) (Nat.le_of_ble_eq_true rfl) rfl (show decode cX12_judge 1 = .ok (.invokestatic 336, 3) from by decide +kernel) rfl (fun x1 => ?_)
  refine sr_if_ne (q := 7) C 10 (show decode cX12_judge 4 = .ok (.ifCond .ne 6, 3) from by decide +kernel) (by decide) rfl ?_ ?_
  · refine sr_aload_n (i := 0) (q := 11) C (show decode cX12_judge 10 = .ok (.aload_n 0, 1) from by decide +kernel) rfl rfl rfl ?_
    refine sr_getr (q := 14) C fl_X12_86 hv0 (show decode cX12_judge 11 = .ok (.getfield 86, 3) from by decide +kernel) rfl ?_
    refine sr_iload_n (i := 1) (q := 15) C (show decode cX12_judge 14 = .ok (.iload_n 1, 1) from by decide +kernel) rfl rfl rfl ?_
    refine sr_iaload (q := 16) C (kt hv0 kp_12_43) (show decode cX12_judge 15 = .ok (.iaload, 1) from by decide +kernel) rfl (fun x15 => ?_)
    refine sr_iconst (v := (-1 : Int32)) (q := 17) C (show decode cX12_judge 16 = .ok (.iconst (-1), 1) from by decide +kernel) (by decide) rfl ?_
    refine sr_icmp_ne (q := 20) C 23 (show decode cX12_judge 17 = .ok (.if_icmp .ne 6, 3) from by decide +kernel) (by decide) rfl ?_ ?_
    · refine sr_aload_n (i := 0) (q := 24) C (show decode cX12_judge 23 = .ok (.aload_n 0, 1) from by decide +kernel) rfl rfl rfl ?_
      refine sr_cVv (As := []) (st := []) (b := v0) (q := 27) C yvX12_thinks ml_X12_339 (cnX12_thinks (xo κ) v0 hv0) hv0 (by decide) rfl rfl rfl (by decide) (by decide) (Nat.le_of_ble_eq_true rfl) rfl (show decode cX12_judge 24 = .ok (.invokevirtual 339, 3) from by decide +kernel) rfl (fun _ => ?_)
      refine sr_aload_n (i := 0) (q := 28) C (show decode cX12_judge 27 = .ok (.aload_n 0, 1) from by decide +kernel) rfl rfl rfl ?_
      refine sr_iload_n (i := 1) (q := 29) C (show decode cX12_judge 28 = .ok (.iload_n 1, 1) from by decide +kernel) rfl rfl rfl ?_
      refine sr_cVi (As := [.int v1]) (st := []) (b := v0) (q := 32) C yvX12_walks ml_X12_342 (cnX12_walks (xo κ) v0 v1 hv0) hv0 (by decide) rfl rfl rfl (by decide) (by decide) (Nat.le_of_ble_eq_true rfl) rfl (show decode cX12_judge 29 = .ok (.invokevirtual 342, 3) from by decide +kernel) rfl (fun x29 => ?_)
      refine sr_istore_n (i := 2) (L' := [some (xad κ v0), some (.int v1), some (.int x29)]) (q := 33) C (show decode cX12_judge 32 = .ok (.istore_n 2, 1) from by decide +kernel) rfl (by decide) rfl rfl ?_
      refine sr_aload_n (i := 0) (q := 34) C (show decode cX12_judge 33 = .ok (.aload_n 0, 1) from by decide +kernel) rfl rfl rfl ?_
      refine sr_cVv (As := []) (st := []) (b := v0) (q := 37) C yvX12_wakes ml_X12_345 (cnX12_wakes (xo κ) v0 hv0) hv0 (by decide) rfl rfl rfl (by decide) (by decide) (Nat.le_of_ble_eq_true rfl) rfl (show decode cX12_judge 34 = .ok (.invokevirtual 345, 3) from by decide +kernel) rfl (fun _ => ?_)
      refine sr_iload_n (i := 2) (q := 38) C (show decode cX12_judge 37 = .ok (.iload_n 2, 1) from by decide +kernel) rfl rfl rfl ?_
      exact sr_ireturn C _ rfl (show decode cX12_judge 38 = .ok (.ireturn, 1) from by decide +kernel)
    · refine sr_bipush (v := (-6 : Int32)) (q := 22) C (show decode cX12_judge 20 = .ok (.bipush (-6), 2) from by decide +kernel) (by decide) rfl ?_
      exact sr_ireturn C _ rfl (show decode cX12_judge 22 = .ok (.ireturn, 1) from by decide +kernel)
  · refine sr_bipush (v := (-2 : Int32)) (q := 9) C (show decode cX12_judge 7 = .ok (.bipush (-2), 2) from by decide +kernel) (by decide) rfl ?_
    exact sr_ireturn C _ rfl (show decode cX12_judge 9 = .ok (.ireturn, 1) from by decide +kernel)
theorem cnX12_judge (ω : sm_O) (v0 : Nat) (v1 : Int32) (hv0 : kd v0 = 12) : sm_Mt 7 yX12_judge cX12_judge 3 (some .int) ω [.ref (ω.1 + v0), .int v1] (fun a => some (.int a)) (fnX12_judge v0 v1) := by
  refine sm_conI (r := fun a => a) (by decide) (fun _ => rfl) (Nat.le_of_ble_eq_true rfl) ?_
  intro κ hκ C
  subst hκ
  exact slX12_judge C v0 v1 hv0
def fnX12_priceOf_J58 (v0 : Nat) (v1 : Int32) (v4 : Int32) : sm_M Int32 := m_bnd (fnX12_mostOf v0 v1 (1 : Int32)) fun x61 => m_bnd (fnX12_wakes v0) fun _ => m_ret (v4 - x61)
set_option maxHeartbeats 4000000 in
set_option maxRecDepth 100000 in
theorem slX12_priceOf_J58 {κ : sm_X} (C : sm_C κ RX12 cX12_priceOf 6 8) (v0 : Nat) (v1 : Int32) (v4 : Int32) (hv0 : kd v0 = 12) : sm_S κ (fun r : Int32 => .inr (some (.int r))) (.inl (58, [some (xad κ v0), some (.int v1), none, none, some (.int v4), none], [])) (fnX12_priceOf_J58 v0 v1 v4) := by
  unfold fnX12_priceOf_J58
  refine sr_aload_n (i := 0) (q := 59) C (show decode cX12_priceOf 58 = .ok (.aload_n 0, 1) from by decide +kernel) rfl rfl rfl ?_
  refine sr_iload_n (i := 1) (q := 60) C (show decode cX12_priceOf 59 = .ok (.iload_n 1, 1) from by decide +kernel) rfl rfl rfl ?_
  refine sr_iconst (v := (1 : Int32)) (q := 61) C (show decode cX12_priceOf 60 = .ok (.iconst 1, 1) from by decide +kernel) (by decide) rfl ?_
  refine sr_cVi (As := [.int v1, .int (1 : Int32)]) (st := []) (b := v0) (q := 64) C yvX12_mostOf ml_X12_456 (cnX12_mostOf (xo κ) v0 v1 (1 : Int32) hv0) hv0 (by decide) rfl rfl rfl (by decide) (by decide) (Nat.le_of_ble_eq_true rfl) rfl (show decode cX12_priceOf 61 = .ok (.invokevirtual 456, 3) from by decide +kernel) rfl (fun x61 => ?_)
  refine sr_istore (i := 5) (L' := [some (xad κ v0), some (.int v1), none, none, some (.int v4), some (.int x61)]) (q := 66) C (show decode cX12_priceOf 64 = .ok (.istore 5, 2) from by decide +kernel) (by decide) rfl rfl ?_
  refine sr_aload_n (i := 0) (q := 67) C (show decode cX12_priceOf 66 = .ok (.aload_n 0, 1) from by decide +kernel) rfl rfl rfl ?_
  refine sr_cVv (As := []) (st := []) (b := v0) (q := 70) C yvX12_wakes ml_X12_345 (cnX12_wakes (xo κ) v0 hv0) hv0 (by decide) rfl rfl rfl (by decide) (by decide) (Nat.le_of_ble_eq_true rfl) rfl (show decode cX12_priceOf 67 = .ok (.invokevirtual 345, 3) from by decide +kernel) rfl (fun _ => ?_)
  refine sr_iload (i := 4) (q := 72) C (show decode cX12_priceOf 70 = .ok (.iload 4, 2) from by decide +kernel) rfl rfl ?_
  refine sr_iload (i := 5) (q := 74) C (show decode cX12_priceOf 72 = .ok (.iload 5, 2) from by decide +kernel) rfl rfl ?_
  refine sr_isub (q := 75) C (show decode cX12_priceOf 74 = .ok (.isub, 1) from by decide +kernel) rfl ?_
  exact sr_ireturn C _ rfl (show decode cX12_priceOf 75 = .ok (.ireturn, 1) from by decide +kernel)
def fnX12_priceOf_L31 : Nat → Nat → Int32 → Int32 → Int32 → sm_M Int32
  | 0, _, _, _, _ => m_fail
  | n + 1, v0, v1, v4, v5 => m_gi v0 19 fun x34 => m_br (x34 ≤ v5)
    (fnX12_priceOf_J58 v0 v1 v4)
    (m_ai (lk v0 18) v5 fun x47 => m_bnd (fnX12_bears v0 x47 (1 : Int32)) fun _ => (fnX12_priceOf_L31 n) v0 v1 v4 (v5 + (1 : Int32)))
set_option maxHeartbeats 4000000 in
set_option maxRecDepth 100000 in
theorem slX12_priceOf_L31 {κ : sm_X} (C : sm_C κ RX12 cX12_priceOf 6 8) : ∀ (n : Nat) (v0 : Nat) (v1 : Int32) (v4 : Int32) (v5 : Int32) (hv0 : kd v0 = 12), sm_S κ (fun r : Int32 => .inr (some (.int r))) (.inl (31, [some (xad κ v0), some (.int v1), none, none, some (.int v4), some (.int v5)], [])) (fnX12_priceOf_L31 n v0 v1 v4 v5) := by
  intro n
  induction n with
  | zero =>
    intros
    exact sr_fail
  | succ n K31 =>
    intro v0 v1 v4 v5 hv0
    unfold fnX12_priceOf_L31
    refine sr_iload (i := 5) (q := 33) C (show decode cX12_priceOf 31 = .ok (.iload 5, 2) from by decide +kernel) rfl rfl ?_
    refine sr_aload_n (i := 0) (q := 34) C (show decode cX12_priceOf 33 = .ok (.aload_n 0, 1) from by decide +kernel) rfl rfl rfl ?_
    refine sr_geti (q := 37) C fl_X12_297 (Or.inl rfl) hv0 (show decode cX12_priceOf 34 = .ok (.getfield 297, 3) from by decide +kernel) rfl (fun x34 => ?_)
    refine sr_icmp_ge (q := 40) C 58 (show decode cX12_priceOf 37 = .ok (.if_icmp .ge 21, 3) from by decide +kernel) (by decide) rfl ?_ ?_
    · refine sr_weak (L' := [some (xad κ v0), some (.int v1), none, none, some (.int v4), none]) ⟨rfl, rfl, rfl, trivial⟩ ?_
      exact slX12_priceOf_J58 C v0 v1 v4 hv0
    · refine sr_aload_n (i := 0) (q := 41) C (show decode cX12_priceOf 40 = .ok (.aload_n 0, 1) from by decide +kernel) rfl rfl rfl ?_
      refine sr_aload_n (i := 0) (q := 42) C (show decode cX12_priceOf 41 = .ok (.aload_n 0, 1) from by decide +kernel) rfl rfl rfl ?_
      refine sr_getr (q := 45) C fl_X12_43 hv0 (show decode cX12_priceOf 42 = .ok (.getfield 43, 3) from by decide +kernel) rfl ?_
      refine sr_iload (i := 5) (q := 47) C (show decode cX12_priceOf 45 = .ok (.iload 5, 2) from by decide +kernel) rfl rfl ?_
      refine sr_iaload (q := 48) C (kt hv0 kp_12_18) (show decode cX12_priceOf 47 = .ok (.iaload, 1) from by decide +kernel) rfl (fun x47 => ?_)
      refine sr_iconst (v := (1 : Int32)) (q := 49) C (show decode cX12_priceOf 48 = .ok (.iconst 1, 1) from by decide +kernel) (by decide) rfl ?_
      refine sr_cVv (As := [.int x47, .int (1 : Int32)]) (st := []) (b := v0) (q := 52) C yvX12_bears ml_X12_316 (cnX12_bears (xo κ) v0 x47 (1 : Int32) hv0) hv0 (by decide) rfl rfl rfl (by decide) (by decide) (Nat.le_of_ble_eq_true rfl) rfl (show decode cX12_priceOf 49 = .ok (.invokevirtual 316, 3) from by decide +kernel) rfl (fun _ => ?_)
      refine sr_iinc (v := v5 + (1 : Int32)) (L' := [some (xad κ v0), some (.int v1), none, none, some (.int v4), some (.int (v5 + (1 : Int32)))]) (q := 55) C (show decode cX12_priceOf 52 = .ok (.iinc 5 1, 3) from by decide +kernel) rfl rfl (by decide) rfl rfl ?_
      refine sr_goto (q := 31) C (show decode cX12_priceOf 55 = .ok (.goto (-24), 3) from by decide +kernel) (by decide) ?_
      exact K31 v0 v1 v4 (v5 + (1 : Int32)) hv0
def fnX12_priceOf (v0 : Nat) (v1 : Int32) (v2 : Int32) (v3 : Int32) : sm_M Int32 := m_bnd (fnX12_finds v0 v2 (1 : Int32) v3 (98 : Int32)) fun x6 => m_br ((bI x6) = 0)
    (m_ret (-1000000 : Int32))
    (m_bnd (fnX12_mostOf v0 v1 (1 : Int32)) fun x19 => m_bnd (fnX12_thinks v0) fun _ => fnX12_priceOf_L31 4096 v0 v1 x19 (0 : Int32))
set_option maxHeartbeats 4000000 in
set_option maxRecDepth 100000 in
theorem slX12_priceOf {κ : sm_X} (C : sm_C κ RX12 cX12_priceOf 6 8) (v0 : Nat) (v1 : Int32) (v2 : Int32) (v3 : Int32) (hv0 : kd v0 = 12) : sm_S κ (fun r : Int32 => .inr (some (.int r))) (.inl (0, [some (xad κ v0), some (.int v1), some (.int v2), some (.int v3), none, none], [])) (fnX12_priceOf v0 v1 v2 v3) := by
  unfold fnX12_priceOf
  refine sr_aload_n (i := 0) (q := 1) C (show decode cX12_priceOf 0 = .ok (.aload_n 0, 1) from by decide +kernel) rfl rfl rfl ?_
  refine sr_iload_n (i := 2) (q := 2) C (show decode cX12_priceOf 1 = .ok (.iload_n 2, 1) from by decide +kernel) rfl rfl rfl ?_
  refine sr_iconst (v := (1 : Int32)) (q := 3) C (show decode cX12_priceOf 2 = .ok (.iconst 1, 1) from by decide +kernel) (by decide) rfl ?_
  refine sr_iload_n (i := 3) (q := 4) C (show decode cX12_priceOf 3 = .ok (.iload_n 3, 1) from by decide +kernel) rfl rfl rfl ?_
  refine sr_bipush (v := (98 : Int32)) (q := 6) C (show decode cX12_priceOf 4 = .ok (.bipush 98, 2) from by decide +kernel) (by decide) rfl ?_
  refine sr_cVz (As := [.int v2, .int (1 : Int32), .int v3, .int (98 : Int32)]) (st := []) (b := v0) (q := 9) C yvX12_finds ml_X12_313 (cnX12_finds (xo κ) v0 v2 (1 : Int32) v3 (98 : Int32) hv0) hv0 (by decide) rfl rfl rfl (by decide) (by decide) (Nat.le_of_ble_eq_true rfl) rfl (show decode cX12_priceOf 6 = .ok (.invokevirtual 313, 3) from by decide +kernel) rfl (fun x6 => ?_)
  refine sr_if_ne (q := 12) C 16 (show decode cX12_priceOf 9 = .ok (.ifCond .ne 7, 3) from by decide +kernel) (by decide) rfl ?_ ?_
  · refine sr_aload_n (i := 0) (q := 17) C (show decode cX12_priceOf 16 = .ok (.aload_n 0, 1) from by decide +kernel) rfl rfl rfl ?_
    refine sr_iload_n (i := 1) (q := 18) C (show decode cX12_priceOf 17 = .ok (.iload_n 1, 1) from by decide +kernel) rfl rfl rfl ?_
    refine sr_iconst (v := (1 : Int32)) (q := 19) C (show decode cX12_priceOf 18 = .ok (.iconst 1, 1) from by decide +kernel) (by decide) rfl ?_
    refine sr_cVi (As := [.int v1, .int (1 : Int32)]) (st := []) (b := v0) (q := 22) C yvX12_mostOf ml_X12_456 (cnX12_mostOf (xo κ) v0 v1 (1 : Int32) hv0) hv0 (by decide) rfl rfl rfl (by decide) (by decide) (Nat.le_of_ble_eq_true rfl) rfl (show decode cX12_priceOf 19 = .ok (.invokevirtual 456, 3) from by decide +kernel) rfl (fun x19 => ?_)
    refine sr_istore (i := 4) (L' := [some (xad κ v0), some (.int v1), some (.int v2), some (.int v3), some (.int x19), none]) (q := 24) C (show decode cX12_priceOf 22 = .ok (.istore 4, 2) from by decide +kernel) (by decide) rfl rfl ?_
    refine sr_aload_n (i := 0) (q := 25) C (show decode cX12_priceOf 24 = .ok (.aload_n 0, 1) from by decide +kernel) rfl rfl rfl ?_
    refine sr_cVv (As := []) (st := []) (b := v0) (q := 28) C yvX12_thinks ml_X12_339 (cnX12_thinks (xo κ) v0 hv0) hv0 (by decide) rfl rfl rfl (by decide) (by decide) (Nat.le_of_ble_eq_true rfl) rfl (show decode cX12_priceOf 25 = .ok (.invokevirtual 339, 3) from by decide +kernel) rfl (fun _ => ?_)
    refine sr_iconst (v := (0 : Int32)) (q := 29) C (show decode cX12_priceOf 28 = .ok (.iconst 0, 1) from by decide +kernel) (by decide) rfl ?_
    refine sr_istore (i := 5) (L' := [some (xad κ v0), some (.int v1), some (.int v2), some (.int v3), some (.int x19), some (.int (0 : Int32))]) (q := 31) C (show decode cX12_priceOf 29 = .ok (.istore 5, 2) from by decide +kernel) (by decide) rfl rfl ?_
    refine sr_weak (L' := [some (xad κ v0), some (.int v1), none, none, some (.int x19), some (.int (0 : Int32))]) ⟨rfl, rfl, rfl, rfl, trivial⟩ ?_
    exact slX12_priceOf_L31 C 4096 v0 v1 x19 (0 : Int32) hv0
  · refine sr_ldcw (q := 15) C co_X12_428 (show decode cX12_priceOf 12 = .ok (.ldc_w 428, 3) from by decide +kernel) rfl ?_
    exact sr_ireturn C _ rfl (show decode cX12_priceOf 15 = .ok (.ireturn, 1) from by decide +kernel)
theorem cnX12_priceOf (ω : sm_O) (v0 : Nat) (v1 : Int32) (v2 : Int32) (v3 : Int32) (hv0 : kd v0 = 12) : sm_Mt 8 yX12_priceOf cX12_priceOf 6 (some .int) ω [.ref (ω.1 + v0), .int v1, .int v2, .int v3] (fun a => some (.int a)) (fnX12_priceOf v0 v1 v2 v3) := by
  refine sm_conI (r := fun a => a) (by decide) (fun _ => rfl) (Nat.le_of_ble_eq_true rfl) ?_
  intro κ hκ C
  subst hκ
  exact slX12_priceOf C v0 v1 v2 v3 hv0
def fnX12_keep_J78 (k32 : Nat → Int32 → Int32 → Int32 → Int32 → Int32 → sm_M Int32) (v0 : Nat) (v1 : Int32) (v2 : Int32) (v3 : Int32) (v4 : Int32) (v5 : Int32) : sm_M Int32 := k32 v0 v1 v2 v3 v4 (v5 + (1 : Int32))
set_option maxHeartbeats 4000000 in
set_option maxRecDepth 100000 in
theorem slX12_keep_J78 {κ : sm_X} (C : sm_C κ RX12 cX12_keep 7 9) {k32 : Nat → Int32 → Int32 → Int32 → Int32 → Int32 → sm_M Int32} (K32 : ∀ (v0 : Nat) (v1 : Int32) (v2 : Int32) (v3 : Int32) (v4 : Int32) (v5 : Int32) (hv0 : kd v0 = 12), sm_S κ (fun r : Int32 => .inr (some (.int r))) (.inl (32, [some (xad κ v0), some (.int v1), some (.int v2), some (.int v3), some (.int v4), some (.int v5), none], [])) (k32 v0 v1 v2 v3 v4 v5)) (v0 : Nat) (v1 : Int32) (v2 : Int32) (v3 : Int32) (v4 : Int32) (v5 : Int32) (hv0 : kd v0 = 12) : sm_S κ (fun r : Int32 => .inr (some (.int r))) (.inl (78, [some (xad κ v0), some (.int v1), some (.int v2), some (.int v3), some (.int v4), some (.int v5), none], [])) (fnX12_keep_J78 k32 v0 v1 v2 v3 v4 v5) := by
  unfold fnX12_keep_J78
  refine sr_iinc (v := v5 + (1 : Int32)) (L' := [some (xad κ v0), some (.int v1), some (.int v2), some (.int v3), some (.int v4), some (.int (v5 + (1 : Int32))), none]) (q := 81) C (show decode cX12_keep 78 = .ok (.iinc 5 1, 3) from by decide +kernel) rfl rfl (by decide) rfl rfl ?_
  refine sr_goto (q := 32) C (show decode cX12_keep 81 = .ok (.goto (-49), 3) from by decide +kernel) (by decide) ?_
  exact K32 v0 v1 v2 v3 v4 (v5 + (1 : Int32)) hv0
def fnX12_keep_J71 (k32 : Nat → Int32 → Int32 → Int32 → Int32 → Int32 → sm_M Int32) (v0 : Nat) (v1 : Int32) (v2 : Int32) (v5 : Int32) (v6 : Int32) : sm_M Int32 := fnX12_keep_J78 k32 v0 v1 v2 v5 v6 v5
set_option maxHeartbeats 4000000 in
set_option maxRecDepth 100000 in
theorem slX12_keep_J71 {κ : sm_X} (C : sm_C κ RX12 cX12_keep 7 9) {k32 : Nat → Int32 → Int32 → Int32 → Int32 → Int32 → sm_M Int32} (K32 : ∀ (v0 : Nat) (v1 : Int32) (v2 : Int32) (v3 : Int32) (v4 : Int32) (v5 : Int32) (hv0 : kd v0 = 12), sm_S κ (fun r : Int32 => .inr (some (.int r))) (.inl (32, [some (xad κ v0), some (.int v1), some (.int v2), some (.int v3), some (.int v4), some (.int v5), none], [])) (k32 v0 v1 v2 v3 v4 v5)) (v0 : Nat) (v1 : Int32) (v2 : Int32) (v5 : Int32) (v6 : Int32) (hv0 : kd v0 = 12) : sm_S κ (fun r : Int32 => .inr (some (.int r))) (.inl (71, [some (xad κ v0), some (.int v1), some (.int v2), none, none, some (.int v5), some (.int v6)], [])) (fnX12_keep_J71 k32 v0 v1 v2 v5 v6) := by
  unfold fnX12_keep_J71
  refine sr_iload (i := 5) (q := 73) C (show decode cX12_keep 71 = .ok (.iload 5, 2) from by decide +kernel) rfl rfl ?_
  refine sr_istore_n (i := 3) (L' := [some (xad κ v0), some (.int v1), some (.int v2), some (.int v5), none, some (.int v5), some (.int v6)]) (q := 74) C (show decode cX12_keep 73 = .ok (.istore_n 3, 1) from by decide +kernel) rfl (by decide) rfl rfl ?_
  refine sr_iload (i := 6) (q := 76) C (show decode cX12_keep 74 = .ok (.iload 6, 2) from by decide +kernel) rfl rfl ?_
  refine sr_istore (i := 4) (L' := [some (xad κ v0), some (.int v1), some (.int v2), some (.int v5), some (.int v6), some (.int v5), some (.int v6)]) (q := 78) C (show decode cX12_keep 76 = .ok (.istore 4, 2) from by decide +kernel) (by decide) rfl rfl ?_
  refine sr_weak (L' := [some (xad κ v0), some (.int v1), some (.int v2), some (.int v5), some (.int v6), some (.int v5), none]) ⟨rfl, rfl, rfl, rfl, rfl, rfl, trivial⟩ ?_
  exact slX12_keep_J78 C K32 v0 v1 v2 v5 v6 v5 hv0
def fnX12_keep_L32 : Nat → Nat → Int32 → Int32 → Int32 → Int32 → Int32 → sm_M Int32
  | 0, _, _, _, _, _, _ => m_fail
  | n + 1, v0, v1, v2, v3, v4, v5 => m_br ((4 : Int32) ≤ v5)
    (m_ret v3)
    (m_bnd (fnX12_priceOf v0 v1 v2 v5) fun x43 => m_br (x43 = (-1000000 : Int32))
    (fnX12_keep_J78 (fnX12_keep_L32 n) v0 v1 v2 v3 v4 v5)
    (m_br (v3 = (-1 : Int32))
    (fnX12_keep_J71 (fnX12_keep_L32 n) v0 v1 v2 v5 x43)
    (m_br (x43 < v4)
    (fnX12_keep_J71 (fnX12_keep_L32 n) v0 v1 v2 v5 x43)
    (fnX12_keep_J78 (fnX12_keep_L32 n) v0 v1 v2 v3 v4 v5))))
set_option maxHeartbeats 4000000 in
set_option maxRecDepth 100000 in
theorem slX12_keep_L32 {κ : sm_X} (C : sm_C κ RX12 cX12_keep 7 9) : ∀ (n : Nat) (v0 : Nat) (v1 : Int32) (v2 : Int32) (v3 : Int32) (v4 : Int32) (v5 : Int32) (hv0 : kd v0 = 12), sm_S κ (fun r : Int32 => .inr (some (.int r))) (.inl (32, [some (xad κ v0), some (.int v1), some (.int v2), some (.int v3), some (.int v4), some (.int v5), none], [])) (fnX12_keep_L32 n v0 v1 v2 v3 v4 v5) := by
  intro n
  induction n with
  | zero =>
    intros
    exact sr_fail
  | succ n K32 =>
    intro v0 v1 v2 v3 v4 v5 hv0
    unfold fnX12_keep_L32
    refine sr_iload (i := 5) (q := 34) C (show decode cX12_keep 32 = .ok (.iload 5, 2) from by decide +kernel) rfl rfl ?_
    refine sr_iconst (v := (4 : Int32)) (q := 35) C (show decode cX12_keep 34 = .ok (.iconst 4, 1) from by decide +kernel) (by decide) rfl ?_
    refine sr_icmp_ge (q := 38) C 84 (show decode cX12_keep 35 = .ok (.if_icmp .ge 49, 3) from by decide +kernel) (by decide) rfl ?_ ?_
    · refine sr_iload_n (i := 3) (q := 85) C (show decode cX12_keep 84 = .ok (.iload_n 3, 1) from by decide +kernel) rfl rfl rfl ?_
      exact sr_ireturn C _ rfl (show decode cX12_keep 85 = .ok (.ireturn, 1) from by decide +kernel)
    · refine sr_aload_n (i := 0) (q := 39) C (show decode cX12_keep 38 = .ok (.aload_n 0, 1) from by decide +kernel) rfl rfl rfl ?_
      refine sr_iload_n (i := 1) (q := 40) C (show decode cX12_keep 39 = .ok (.iload_n 1, 1) from by decide +kernel) rfl rfl rfl ?_
      refine sr_iload_n (i := 2) (q := 41) C (show decode cX12_keep 40 = .ok (.iload_n 2, 1) from by decide +kernel) rfl rfl rfl ?_
      refine sr_iload (i := 5) (q := 43) C (show decode cX12_keep 41 = .ok (.iload 5, 2) from by decide +kernel) rfl rfl ?_
      refine sr_cVi (As := [.int v1, .int v2, .int v5]) (st := []) (b := v0) (q := 46) C yvX12_priceOf ml_X12_500 (cnX12_priceOf (xo κ) v0 v1 v2 v5 hv0) hv0 (by decide) rfl rfl rfl (by decide) (by decide) (Nat.le_of_ble_eq_true rfl) rfl (show decode cX12_keep 43 = .ok (.invokevirtual 500, 3) from by decide +kernel) rfl (fun x43 => ?_)
      refine sr_istore (i := 6) (L' := [some (xad κ v0), some (.int v1), some (.int v2), some (.int v3), some (.int v4), some (.int v5), some (.int x43)]) (q := 48) C (show decode cX12_keep 46 = .ok (.istore 6, 2) from by decide +kernel) (by decide) rfl rfl ?_
      refine sr_iload (i := 6) (q := 50) C (show decode cX12_keep 48 = .ok (.iload 6, 2) from by decide +kernel) rfl rfl ?_
      refine sr_ldcw (q := 53) C co_X12_428 (show decode cX12_keep 50 = .ok (.ldc_w 428, 3) from by decide +kernel) rfl ?_
      refine sr_icmp_eq (q := 56) C 78 (show decode cX12_keep 53 = .ok (.if_icmp .eq 25, 3) from by decide +kernel) (by decide) rfl ?_ ?_
      · refine sr_weak (L' := [some (xad κ v0), some (.int v1), some (.int v2), some (.int v3), some (.int v4), some (.int v5), none]) ⟨rfl, rfl, rfl, rfl, rfl, rfl, trivial⟩ ?_
        exact slX12_keep_J78 C K32 v0 v1 v2 v3 v4 v5 hv0
      · refine sr_iload_n (i := 3) (q := 57) C (show decode cX12_keep 56 = .ok (.iload_n 3, 1) from by decide +kernel) rfl rfl rfl ?_
        refine sr_iconst (v := (-1 : Int32)) (q := 58) C (show decode cX12_keep 57 = .ok (.iconst (-1), 1) from by decide +kernel) (by decide) rfl ?_
        refine sr_icmp_eq (q := 61) C 71 (show decode cX12_keep 58 = .ok (.if_icmp .eq 13, 3) from by decide +kernel) (by decide) rfl ?_ ?_
        · refine sr_weak (L' := [some (xad κ v0), some (.int v1), some (.int v2), none, none, some (.int v5), some (.int x43)]) ⟨rfl, rfl, rfl, rfl, rfl, trivial⟩ ?_
          exact slX12_keep_J71 C K32 v0 v1 v2 v5 x43 hv0
        · refine sr_iload (i := 6) (q := 63) C (show decode cX12_keep 61 = .ok (.iload 6, 2) from by decide +kernel) rfl rfl ?_
          refine sr_iload (i := 4) (q := 65) C (show decode cX12_keep 63 = .ok (.iload 4, 2) from by decide +kernel) rfl rfl ?_
          refine sr_icmp_lt (q := 68) C 71 (show decode cX12_keep 65 = .ok (.if_icmp .lt 6, 3) from by decide +kernel) (by decide) rfl ?_ ?_
          · refine sr_weak (L' := [some (xad κ v0), some (.int v1), some (.int v2), none, none, some (.int v5), some (.int x43)]) ⟨rfl, rfl, rfl, rfl, rfl, trivial⟩ ?_
            exact slX12_keep_J71 C K32 v0 v1 v2 v5 x43 hv0
          · refine sr_goto (q := 78) C (show decode cX12_keep 68 = .ok (.goto 10, 3) from by decide +kernel) (by decide) ?_
            refine sr_weak (L' := [some (xad κ v0), some (.int v1), some (.int v2), some (.int v3), some (.int v4), some (.int v5), none]) ⟨rfl, rfl, rfl, rfl, rfl, rfl, trivial⟩ ?_
            exact slX12_keep_J78 C K32 v0 v1 v2 v3 v4 v5 hv0
def fnX12_keep (v0 : Nat) (v1 : Int32) (v2 : Int32) : sm_M Int32 := m_bnd (fnX12_isRiver v0) fun x1 => m_br ((bI x1) = 0)
    (m_ret (-2 : Int32))
    (m_bnd (fnX12_isStride v1) fun x8 => m_br ((bI x8) = 0)
    (m_ret (-2 : Int32))
    (m_bnd (fnX12_isStride v2) fun x15 => m_br ((bI x15) = 0)
    (m_ret (-2 : Int32))
    (fnX12_keep_L32 4096 v0 v1 v2 (-1 : Int32) (0 : Int32) (0 : Int32))))
set_option maxHeartbeats 4000000 in
set_option maxRecDepth 100000 in
theorem slX12_keep {κ : sm_X} (C : sm_C κ RX12 cX12_keep 7 9) (v0 : Nat) (v1 : Int32) (v2 : Int32) (hv0 : kd v0 = 12) : sm_S κ (fun r : Int32 => .inr (some (.int r))) (.inl (0, [some (xad κ v0), some (.int v1), some (.int v2), none, none, none, none], [])) (fnX12_keep v0 v1 v2) := by
  unfold fnX12_keep
  refine sr_aload_n (i := 0) (q := 1) C (show decode cX12_keep 0 = .ok (.aload_n 0, 1) from by decide +kernel) rfl rfl rfl ?_
  refine sr_cVz (As := []) (st := []) (b := v0) (q := 4) C yvX12_isRiver ml_X12_107 (cnX12_isRiver (xo κ) v0 hv0) hv0 (by decide) rfl rfl rfl (by decide) (by decide) (Nat.le_of_ble_eq_true rfl) rfl (show decode cX12_keep 1 = .ok (.invokevirtual 107, 3) from by decide +kernel) rfl (fun x1 => ?_)
  refine sr_if_eq (q := 7) C 21 (show decode cX12_keep 4 = .ok (.ifCond .eq 17, 3) from by decide +kernel) (by decide) rfl ?_ ?_
  · refine sr_bipush (v := (-2 : Int32)) (q := 23) C (show decode cX12_keep 21 = .ok (.bipush (-2), 2) from by decide +kernel) (by decide) rfl ?_
    exact sr_ireturn C _ rfl (show decode cX12_keep 23 = .ok (.ireturn, 1) from by decide +kernel)
  · refine sr_iload_n (i := 1) (q := 8) C (show decode cX12_keep 7 = .ok (.iload_n 1, 1) from by decide +kernel) rfl rfl rfl ?_
    refine sr_cSz (As := [.int v1]) (st := []) (q := 11) C ysX12_isStride ml_X12_267 (cnX12_isStride (xo κ) v1) rfl (by decide) (by decide) (Nat.le_of_ble_eq_true rfl) rfl (show decode cX12_keep 8 = .ok (.invokestatic 267, 3) from by decide +kernel) rfl (fun x8 => ?_)
    refine sr_if_eq (q := 14) C 21 (show decode cX12_keep 11 = .ok (.ifCond .eq 10, 3) from by decide +kernel) (by decide) rfl ?_ ?_
    · refine sr_bipush (v := (-2 : Int32)) (q := 23) C (show decode cX12_keep 21 = .ok (.bipush (-2), 2) from by decide +kernel) (by decide) rfl ?_
      exact sr_ireturn C _ rfl (show decode cX12_keep 23 = .ok (.ireturn, 1) from by decide +kernel)
    · refine sr_iload_n (i := 2) (q := 15) C (show decode cX12_keep 14 = .ok (.iload_n 2, 1) from by decide +kernel) rfl rfl rfl ?_
      refine sr_cSz (As := [.int v2]) (st := []) (q := 18) C ysX12_isStride ml_X12_267 (cnX12_isStride (xo κ) v2) rfl (by decide) (by decide) (Nat.le_of_ble_eq_true rfl) rfl (show decode cX12_keep 15 = .ok (.invokestatic 267, 3) from by decide +kernel) rfl (fun x15 => ?_)
      refine sr_if_ne (q := 21) C 24 (show decode cX12_keep 18 = .ok (.ifCond .ne 6, 3) from by decide +kernel) (by decide) rfl ?_ ?_
      · refine sr_iconst (v := (-1 : Int32)) (q := 25) C (show decode cX12_keep 24 = .ok (.iconst (-1), 1) from by decide +kernel) (by decide) rfl ?_
        refine sr_istore_n (i := 3) (L' := [some (xad κ v0), some (.int v1), some (.int v2), some (.int (-1 : Int32)), none, none, none]) (q := 26) C (show decode cX12_keep 25 = .ok (.istore_n 3, 1) from by decide +kernel) rfl (by decide) rfl rfl ?_
        refine sr_iconst (v := (0 : Int32)) (q := 27) C (show decode cX12_keep 26 = .ok (.iconst 0, 1) from by decide +kernel) (by decide) rfl ?_
        refine sr_istore (i := 4) (L' := [some (xad κ v0), some (.int v1), some (.int v2), some (.int (-1 : Int32)), some (.int (0 : Int32)), none, none]) (q := 29) C (show decode cX12_keep 27 = .ok (.istore 4, 2) from by decide +kernel) (by decide) rfl rfl ?_
        refine sr_iconst (v := (0 : Int32)) (q := 30) C (show decode cX12_keep 29 = .ok (.iconst 0, 1) from by decide +kernel) (by decide) rfl ?_
        refine sr_istore (i := 5) (L' := [some (xad κ v0), some (.int v1), some (.int v2), some (.int (-1 : Int32)), some (.int (0 : Int32)), some (.int (0 : Int32)), none]) (q := 32) C (show decode cX12_keep 30 = .ok (.istore 5, 2) from by decide +kernel) (by decide) rfl rfl ?_
        exact slX12_keep_L32 C 4096 v0 v1 v2 (-1 : Int32) (0 : Int32) (0 : Int32) hv0
      · refine sr_bipush (v := (-2 : Int32)) (q := 23) C (show decode cX12_keep 21 = .ok (.bipush (-2), 2) from by decide +kernel) (by decide) rfl ?_
        exact sr_ireturn C _ rfl (show decode cX12_keep 23 = .ok (.ireturn, 1) from by decide +kernel)
theorem cnX12_keep (ω : sm_O) (v0 : Nat) (v1 : Int32) (v2 : Int32) (hv0 : kd v0 = 12) : sm_Mt 9 yX12_keep cX12_keep 7 (some .int) ω [.ref (ω.1 + v0), .int v1, .int v2] (fun a => some (.int a)) (fnX12_keep v0 v1 v2) := by
  refine sm_conI (r := fun a => a) (by decide) (fun _ => rfl) (Nat.le_of_ble_eq_true rfl) ?_
  intro κ hκ C
  subst hκ
  exact slX12_keep C v0 v1 v2 hv0
def fnX12_know_J34 (s0 : Int32) (s1 : Int32) (s2 : Int32) (s3 : Nat) : sm_M Int32 := m_bnd (fnX12_setStone s3 s2 s1 s0) fun _ => m_ret (0 : Int32)
set_option maxHeartbeats 4000000 in
set_option maxRecDepth 100000 in
theorem slX12_know_J34 {κ : sm_X} (C : sm_C κ RX12 cX12_know 3 3) (s0 : Int32) (s1 : Int32) (s2 : Int32) (s3 : Nat) (hs3 : kd s3 = 12) : sm_S κ (fun r : Int32 => .inr (some (.int r))) (.inl (34, [none, none, none], [.int s0, .int s1, .int s2, xad κ s3])) (fnX12_know_J34 s0 s1 s2 s3) := by
  unfold fnX12_know_J34
  refine sr_cVv (As := [.int s2, .int s1, .int s0]) (st := []) (b := s3) (q := 37) C yvX12_setStone ml_X12_279 (cnX12_setStone (xo κ) s3 s2 s1 s0 hs3) hs3 (by decide) rfl rfl rfl (by decide) (by decide) (Nat.le_of_ble_eq_true rfl) rfl (show decode cX12_know 34 = .ok (.invokevirtual 279, 3) from by decide +kernel) rfl (fun _ => ?_)
  refine sr_iconst (v := (0 : Int32)) (q := 38) C (show decode cX12_know 37 = .ok (.iconst 0, 1) from by decide +kernel) (by decide) rfl ?_
  exact sr_ireturn C _ rfl (show decode cX12_know 38 = .ok (.ireturn, 1) from by decide +kernel)
def fnX12_know (v0 : Nat) (v1 : Int32) (v2 : Int32) : sm_M Int32 := m_bnd (fnX12_isStone v0 v1) fun x2 => m_br ((bI x2) = 0)
    (m_ret (-2 : Int32))
    (m_bnd (fnX12_isInDoubt v0 v1) fun x13 => m_br ((bI x13) = 0)
    (m_ret (-5 : Int32))
    (m_br (v2 = 0)
    (fnX12_know_J34 (1 : Int32) (5 : Int32) v1 v0)
    (fnX12_know_J34 (2 : Int32) (5 : Int32) v1 v0)))
set_option maxHeartbeats 4000000 in
set_option maxRecDepth 100000 in
theorem slX12_know {κ : sm_X} (C : sm_C κ RX12 cX12_know 3 3) (v0 : Nat) (v1 : Int32) (v2 : Int32) (hv0 : kd v0 = 12) : sm_S κ (fun r : Int32 => .inr (some (.int r))) (.inl (0, [some (xad κ v0), some (.int v1), some (.int v2)], [])) (fnX12_know v0 v1 v2) := by
  unfold fnX12_know
  refine sr_aload_n (i := 0) (q := 1) C (show decode cX12_know 0 = .ok (.aload_n 0, 1) from by decide +kernel) rfl rfl rfl ?_
  refine sr_iload_n (i := 1) (q := 2) C (show decode cX12_know 1 = .ok (.iload_n 1, 1) from by decide +kernel) rfl rfl rfl ?_
  refine sr_cVz (As := [.int v1]) (st := []) (b := v0) (q := 5) C yvX12_isStone ml_X12_111 (cnX12_isStone (xo κ) v0 v1 hv0) hv0 (by decide) rfl rfl rfl (by decide) (by decide) (Nat.le_of_ble_eq_true rfl) rfl (show decode cX12_know 2 = .ok (.invokevirtual 111, 3) from by decide +kernel) rfl (fun x2 => ?_)
  refine sr_if_ne (q := 8) C 11 (show decode cX12_know 5 = .ok (.ifCond .ne 6, 3) from by decide +kernel) (by decide) rfl ?_ ?_
  · refine sr_aload_n (i := 0) (q := 12) C (show decode cX12_know 11 = .ok (.aload_n 0, 1) from by decide +kernel) rfl rfl rfl ?_
    refine sr_iload_n (i := 1) (q := 13) C (show decode cX12_know 12 = .ok (.iload_n 1, 1) from by decide +kernel) rfl rfl rfl ?_
    refine sr_cVz (As := [.int v1]) (st := []) (b := v0) (q := 16) C yvX12_isInDoubt ml_X12_253 (cnX12_isInDoubt (xo κ) v0 v1 hv0) hv0 (by decide) rfl rfl rfl (by decide) (by decide) (Nat.le_of_ble_eq_true rfl) rfl (show decode cX12_know 13 = .ok (.invokevirtual 253, 3) from by decide +kernel) rfl (fun x13 => ?_)
    refine sr_if_ne (q := 19) C 22 (show decode cX12_know 16 = .ok (.ifCond .ne 6, 3) from by decide +kernel) (by decide) rfl ?_ ?_
    · refine sr_aload_n (i := 0) (q := 23) C (show decode cX12_know 22 = .ok (.aload_n 0, 1) from by decide +kernel) rfl rfl rfl ?_
      refine sr_iload_n (i := 1) (q := 24) C (show decode cX12_know 23 = .ok (.iload_n 1, 1) from by decide +kernel) rfl rfl rfl ?_
      refine sr_iconst (v := (5 : Int32)) (q := 25) C (show decode cX12_know 24 = .ok (.iconst 5, 1) from by decide +kernel) (by decide) rfl ?_
      refine sr_iload_n (i := 2) (q := 26) C (show decode cX12_know 25 = .ok (.iload_n 2, 1) from by decide +kernel) rfl rfl rfl ?_
      refine sr_if_eq (q := 29) C 33 (show decode cX12_know 26 = .ok (.ifCond .eq 7, 3) from by decide +kernel) (by decide) rfl ?_ ?_
      · refine sr_iconst (v := (1 : Int32)) (q := 34) C (show decode cX12_know 33 = .ok (.iconst 1, 1) from by decide +kernel) (by decide) rfl ?_
        refine sr_weak (L' := [none, none, none]) trivial ?_
        exact slX12_know_J34 C (1 : Int32) (5 : Int32) v1 v0 hv0
      · refine sr_iconst (v := (2 : Int32)) (q := 30) C (show decode cX12_know 29 = .ok (.iconst 2, 1) from by decide +kernel) (by decide) rfl ?_
        refine sr_goto (q := 34) C (show decode cX12_know 30 = .ok (.goto 4, 3) from by decide +kernel) (by decide) ?_
        refine sr_weak (L' := [none, none, none]) trivial ?_
        exact slX12_know_J34 C (2 : Int32) (5 : Int32) v1 v0 hv0
    · refine sr_bipush (v := (-5 : Int32)) (q := 21) C (show decode cX12_know 19 = .ok (.bipush (-5), 2) from by decide +kernel) (by decide) rfl ?_
      exact sr_ireturn C _ rfl (show decode cX12_know 21 = .ok (.ireturn, 1) from by decide +kernel)
  · refine sr_bipush (v := (-2 : Int32)) (q := 10) C (show decode cX12_know 8 = .ok (.bipush (-2), 2) from by decide +kernel) (by decide) rfl ?_
    exact sr_ireturn C _ rfl (show decode cX12_know 10 = .ok (.ireturn, 1) from by decide +kernel)
theorem cnX12_know (ω : sm_O) (v0 : Nat) (v1 : Int32) (v2 : Int32) (hv0 : kd v0 = 12) : sm_Mt 3 yX12_know cX12_know 3 (some .int) ω [.ref (ω.1 + v0), .int v1, .int v2] (fun a => some (.int a)) (fnX12_know v0 v1 v2) := by
  refine sm_conI (r := fun a => a) (by decide) (fun _ => rfl) (Nat.le_of_ble_eq_true rfl) ?_
  intro κ hκ C
  subst hκ
  exact slX12_know C v0 v1 v2 hv0
def fnX12_lateOf (v0 : Nat) (v1 : Int32) (v2 : Int32) : sm_M Int32 := m_ai (lk v0 1) (7 : Int32) fun x6 => m_sai (lk v0 1) (7 : Int32) v2 <| m_bnd (fnX12_mostOf v0 v1 (1 : Int32)) fun x19 => m_sai (lk v0 1) (7 : Int32) x6 <| m_ret x19
set_option maxHeartbeats 4000000 in
set_option maxRecDepth 100000 in
theorem slX12_lateOf {κ : sm_X} (C : sm_C κ RX12 cX12_lateOf 5 6) (v0 : Nat) (v1 : Int32) (v2 : Int32) (hv0 : kd v0 = 12) : sm_S κ (fun r : Int32 => .inr (some (.int r))) (.inl (0, [some (xad κ v0), some (.int v1), some (.int v2), none, none], [])) (fnX12_lateOf v0 v1 v2) := by
  unfold fnX12_lateOf
  refine sr_aload_n (i := 0) (q := 1) C (show decode cX12_lateOf 0 = .ok (.aload_n 0, 1) from by decide +kernel) rfl rfl rfl ?_
  refine sr_getr (q := 4) C fl_X12_9 hv0 (show decode cX12_lateOf 1 = .ok (.getfield 9, 3) from by decide +kernel) rfl ?_
  refine sr_bipush (v := (7 : Int32)) (q := 6) C (show decode cX12_lateOf 4 = .ok (.bipush 7, 2) from by decide +kernel) (by decide) rfl ?_
  refine sr_iaload (q := 7) C (kt hv0 kp_12_1) (show decode cX12_lateOf 6 = .ok (.iaload, 1) from by decide +kernel) rfl (fun x6 => ?_)
  refine sr_istore_n (i := 3) (L' := [some (xad κ v0), some (.int v1), some (.int v2), some (.int x6), none]) (q := 8) C (show decode cX12_lateOf 7 = .ok (.istore_n 3, 1) from by decide +kernel) rfl (by decide) rfl rfl ?_
  refine sr_aload_n (i := 0) (q := 9) C (show decode cX12_lateOf 8 = .ok (.aload_n 0, 1) from by decide +kernel) rfl rfl rfl ?_
  refine sr_getr (q := 12) C fl_X12_9 hv0 (show decode cX12_lateOf 9 = .ok (.getfield 9, 3) from by decide +kernel) rfl ?_
  refine sr_bipush (v := (7 : Int32)) (q := 14) C (show decode cX12_lateOf 12 = .ok (.bipush 7, 2) from by decide +kernel) (by decide) rfl ?_
  refine sr_iload_n (i := 2) (q := 15) C (show decode cX12_lateOf 14 = .ok (.iload_n 2, 1) from by decide +kernel) rfl rfl rfl ?_
  refine sr_iastore (q := 16) C (kt hv0 kp_12_1) (show decode cX12_lateOf 15 = .ok (.iastore, 1) from by decide +kernel) rfl ?_
  refine sr_aload_n (i := 0) (q := 17) C (show decode cX12_lateOf 16 = .ok (.aload_n 0, 1) from by decide +kernel) rfl rfl rfl ?_
  refine sr_iload_n (i := 1) (q := 18) C (show decode cX12_lateOf 17 = .ok (.iload_n 1, 1) from by decide +kernel) rfl rfl rfl ?_
  refine sr_iconst (v := (1 : Int32)) (q := 19) C (show decode cX12_lateOf 18 = .ok (.iconst 1, 1) from by decide +kernel) (by decide) rfl ?_
  refine sr_cVi (As := [.int v1, .int (1 : Int32)]) (st := []) (b := v0) (q := 22) C yvX12_mostOf ml_X12_456 (cnX12_mostOf (xo κ) v0 v1 (1 : Int32) hv0) hv0 (by decide) rfl rfl rfl (by decide) (by decide) (Nat.le_of_ble_eq_true rfl) rfl (show decode cX12_lateOf 19 = .ok (.invokevirtual 456, 3) from by decide +kernel) rfl (fun x19 => ?_)
  refine sr_istore (i := 4) (L' := [some (xad κ v0), some (.int v1), some (.int v2), some (.int x6), some (.int x19)]) (q := 24) C (show decode cX12_lateOf 22 = .ok (.istore 4, 2) from by decide +kernel) (by decide) rfl rfl ?_
  refine sr_aload_n (i := 0) (q := 25) C (show decode cX12_lateOf 24 = .ok (.aload_n 0, 1) from by decide +kernel) rfl rfl rfl ?_
  refine sr_getr (q := 28) C fl_X12_9 hv0 (show decode cX12_lateOf 25 = .ok (.getfield 9, 3) from by decide +kernel) rfl ?_
  refine sr_bipush (v := (7 : Int32)) (q := 30) C (show decode cX12_lateOf 28 = .ok (.bipush 7, 2) from by decide +kernel) (by decide) rfl ?_
  refine sr_iload_n (i := 3) (q := 31) C (show decode cX12_lateOf 30 = .ok (.iload_n 3, 1) from by decide +kernel) rfl rfl rfl ?_
  refine sr_iastore (q := 32) C (kt hv0 kp_12_1) (show decode cX12_lateOf 31 = .ok (.iastore, 1) from by decide +kernel) rfl ?_
  refine sr_iload (i := 4) (q := 34) C (show decode cX12_lateOf 32 = .ok (.iload 4, 2) from by decide +kernel) rfl rfl ?_
  exact sr_ireturn C _ rfl (show decode cX12_lateOf 34 = .ok (.ireturn, 1) from by decide +kernel)
theorem cnX12_lateOf (ω : sm_O) (v0 : Nat) (v1 : Int32) (v2 : Int32) (hv0 : kd v0 = 12) : sm_Mt 6 yX12_lateOf cX12_lateOf 5 (some .int) ω [.ref (ω.1 + v0), .int v1, .int v2] (fun a => some (.int a)) (fnX12_lateOf v0 v1 v2) := by
  refine sm_conI (r := fun a => a) (by decide) (fun _ => rfl) (Nat.le_of_ble_eq_true rfl) ?_
  intro κ hκ C
  subst hκ
  exact slX12_lateOf C v0 v1 v2 hv0
def fnX12_late (v0 : Nat) (v1 : Int32) (v2 : Int32) : sm_M Int32 := m_bnd (fnX12_isRiver v0) fun x1 => m_br ((bI x1) = 0)
    (m_ret (-2 : Int32))
    (m_bnd (fnX12_isStride v1) fun x8 => m_br ((bI x8) = 0)
    (m_ret (-2 : Int32))
    (m_bnd (fnX12_in v2.toInt64 (0 : Int64) (23 : Int64)) fun x20 => m_br ((bI x20) = 0)
    (m_ret (-2 : Int32))
    (m_bnd (fnX12_lateOf v0 v1 v2) fun x29 => m_ret x29)))
set_option maxHeartbeats 4000000 in
set_option maxRecDepth 100000 in
theorem slX12_late {κ : sm_X} (C : sm_C κ RX12 cX12_late 3 7) (v0 : Nat) (v1 : Int32) (v2 : Int32) (hv0 : kd v0 = 12) : sm_S κ (fun r : Int32 => .inr (some (.int r))) (.inl (0, [some (xad κ v0), some (.int v1), some (.int v2)], [])) (fnX12_late v0 v1 v2) := by
  unfold fnX12_late
  refine sr_aload_n (i := 0) (q := 1) C (show decode cX12_late 0 = .ok (.aload_n 0, 1) from by decide +kernel) rfl rfl rfl ?_
  refine sr_cVz (As := []) (st := []) (b := v0) (q := 4) C yvX12_isRiver ml_X12_107 (cnX12_isRiver (xo κ) v0 hv0) hv0 (by decide) rfl rfl rfl (by decide) (by decide) (Nat.le_of_ble_eq_true rfl) rfl (show decode cX12_late 1 = .ok (.invokevirtual 107, 3) from by decide +kernel) rfl (fun x1 => ?_)
  refine sr_if_eq (q := 7) C 35 (show decode cX12_late 4 = .ok (.ifCond .eq 31, 3) from by decide +kernel) (by decide) rfl ?_ ?_
  · refine sr_bipush (v := (-2 : Int32)) (q := 37) C (show decode cX12_late 35 = .ok (.bipush (-2), 2) from by decide +kernel) (by decide) rfl ?_
    exact sr_ireturn C _ rfl (show decode cX12_late 37 = .ok (.ireturn, 1) from by decide +kernel)
  · refine sr_iload_n (i := 1) (q := 8) C (show decode cX12_late 7 = .ok (.iload_n 1, 1) from by decide +kernel) rfl rfl rfl ?_
    refine sr_cSz (As := [.int v1]) (st := []) (q := 11) C ysX12_isStride ml_X12_267 (cnX12_isStride (xo κ) v1) rfl (by decide) (by decide) (Nat.le_of_ble_eq_true rfl) rfl (show decode cX12_late 8 = .ok (.invokestatic 267, 3) from by decide +kernel) rfl (fun x8 => ?_)
    refine sr_if_eq (q := 14) C 35 (show decode cX12_late 11 = .ok (.ifCond .eq 24, 3) from by decide +kernel) (by decide) rfl ?_ ?_
    · refine sr_bipush (v := (-2 : Int32)) (q := 37) C (show decode cX12_late 35 = .ok (.bipush (-2), 2) from by decide +kernel) (by decide) rfl ?_
      exact sr_ireturn C _ rfl (show decode cX12_late 37 = .ok (.ireturn, 1) from by decide +kernel)
    · refine sr_iload_n (i := 2) (q := 15) C (show decode cX12_late 14 = .ok (.iload_n 2, 1) from by decide +kernel) rfl rfl rfl ?_
      refine sr_i2l (q := 16) C (show decode cX12_late 15 = .ok (.i2l, 1) from by decide +kernel) rfl ?_
      refine sr_lconst (v := (0 : Int64)) (q := 17) C (show decode cX12_late 16 = .ok (.lconst 0, 1) from by decide +kernel) (by decide) rfl ?_
      refine sr_ldc2 (q := 20) C co_X12_277 (show decode cX12_late 17 = .ok (.ldc2_w 277, 3) from by decide +kernel) rfl ?_
      refine sr_cSz (As := [.long v2.toInt64, .long (0 : Int64), .long (23 : Int64)]) (st := []) (q := 23) C ysX12_in ml_X12_103 (cnX12_in (xo κ) v2.toInt64 (0 : Int64) (23 : Int64)) rfl (by decide) (by decide) (Nat.le_of_ble_eq_true rfl) rfl (show decode cX12_late 20 = .ok (.invokestatic 103, 3) from by decide +kernel) rfl (fun x20 => ?_)
      refine sr_if_eq (q := 26) C 35 (show decode cX12_late 23 = .ok (.ifCond .eq 12, 3) from by decide +kernel) (by decide) rfl ?_ ?_
      · refine sr_bipush (v := (-2 : Int32)) (q := 37) C (show decode cX12_late 35 = .ok (.bipush (-2), 2) from by decide +kernel) (by decide) rfl ?_
        exact sr_ireturn C _ rfl (show decode cX12_late 37 = .ok (.ireturn, 1) from by decide +kernel)
      · refine sr_aload_n (i := 0) (q := 27) C (show decode cX12_late 26 = .ok (.aload_n 0, 1) from by decide +kernel) rfl rfl rfl ?_
        refine sr_iload_n (i := 1) (q := 28) C (show decode cX12_late 27 = .ok (.iload_n 1, 1) from by decide +kernel) rfl rfl rfl ?_
        refine sr_iload_n (i := 2) (q := 29) C (show decode cX12_late 28 = .ok (.iload_n 2, 1) from by decide +kernel) rfl rfl rfl ?_
        refine sr_cVi (As := [.int v1, .int v2]) (st := []) (b := v0) (q := 32) C yvX12_lateOf ml_X12_503 (cnX12_lateOf (xo κ) v0 v1 v2 hv0) hv0 (by decide) rfl rfl rfl (by decide) (by decide) (Nat.le_of_ble_eq_true rfl) rfl (show decode cX12_late 29 = .ok (.invokevirtual 503, 3) from by decide +kernel) rfl (fun x29 => ?_)
        refine sr_goto (q := 37) C (show decode cX12_late 32 = .ok (.goto 5, 3) from by decide +kernel) (by decide) ?_
        exact sr_ireturn C _ rfl (show decode cX12_late 37 = .ok (.ireturn, 1) from by decide +kernel)
theorem cnX12_late (ω : sm_O) (v0 : Nat) (v1 : Int32) (v2 : Int32) (hv0 : kd v0 = 12) : sm_Mt 7 yX12_late cX12_late 3 (some .int) ω [.ref (ω.1 + v0), .int v1, .int v2] (fun a => some (.int a)) (fnX12_late v0 v1 v2) := by
  refine sm_conI (r := fun a => a) (by decide) (fun _ => rfl) (Nat.le_of_ble_eq_true rfl) ?_
  intro κ hκ C
  subst hκ
  exact slX12_late C v0 v1 v2 hv0
def fnX12_length (v0 : Nat) (v1 : Int32) (v2 : Int32) (v3 : Int32) : sm_M Int32 := m_bnd (fnX12_isAsked v0 v1 v2 v3) fun x4 => m_br ((bI x4) = 0)
    (m_ret (-2 : Int32))
    (m_bnd (fnX12_finds v0 v1 v2 v3 (98 : Int32)) fun x16 => m_br ((bI x16) = 0)
    (m_ret (-1 : Int32))
    (m_gi v0 19 fun x23 => m_ret x23))
set_option maxHeartbeats 4000000 in
set_option maxRecDepth 100000 in
theorem slX12_length {κ : sm_X} (C : sm_C κ RX12 cX12_length 4 8) (v0 : Nat) (v1 : Int32) (v2 : Int32) (v3 : Int32) (hv0 : kd v0 = 12) : sm_S κ (fun r : Int32 => .inr (some (.int r))) (.inl (0, [some (xad κ v0), some (.int v1), some (.int v2), some (.int v3)], [])) (fnX12_length v0 v1 v2 v3) := by
  unfold fnX12_length
  refine sr_aload_n (i := 0) (q := 1) C (show decode cX12_length 0 = .ok (.aload_n 0, 1) from by decide +kernel) rfl rfl rfl ?_
  refine sr_iload_n (i := 1) (q := 2) C (show decode cX12_length 1 = .ok (.iload_n 1, 1) from by decide +kernel) rfl rfl rfl ?_
  refine sr_iload_n (i := 2) (q := 3) C (show decode cX12_length 2 = .ok (.iload_n 2, 1) from by decide +kernel) rfl rfl rfl ?_
  refine sr_iload_n (i := 3) (q := 4) C (show decode cX12_length 3 = .ok (.iload_n 3, 1) from by decide +kernel) rfl rfl rfl ?_
  refine sr_cVz (As := [.int v1, .int v2, .int v3]) (st := []) (b := v0) (q := 7) C yvX12_isAsked ml_X12_310 (cnX12_isAsked (xo κ) v0 v1 v2 v3 hv0) hv0 (by decide) rfl rfl rfl (by decide) (by decide) (Nat.le_of_ble_eq_true rfl) rfl (show decode cX12_length 4 = .ok (.invokevirtual 310, 3) from by decide +kernel) rfl (fun x4 => ?_)
  refine sr_if_eq (q := 10) C 33 (show decode cX12_length 7 = .ok (.ifCond .eq 26, 3) from by decide +kernel) (by decide) rfl ?_ ?_
  · refine sr_bipush (v := (-2 : Int32)) (q := 35) C (show decode cX12_length 33 = .ok (.bipush (-2), 2) from by decide +kernel) (by decide) rfl ?_
    exact sr_ireturn C _ rfl (show decode cX12_length 35 = .ok (.ireturn, 1) from by decide +kernel)
  · refine sr_aload_n (i := 0) (q := 11) C (show decode cX12_length 10 = .ok (.aload_n 0, 1) from by decide +kernel) rfl rfl rfl ?_
    refine sr_iload_n (i := 1) (q := 12) C (show decode cX12_length 11 = .ok (.iload_n 1, 1) from by decide +kernel) rfl rfl rfl ?_
    refine sr_iload_n (i := 2) (q := 13) C (show decode cX12_length 12 = .ok (.iload_n 2, 1) from by decide +kernel) rfl rfl rfl ?_
    refine sr_iload_n (i := 3) (q := 14) C (show decode cX12_length 13 = .ok (.iload_n 3, 1) from by decide +kernel) rfl rfl rfl ?_
    refine sr_bipush (v := (98 : Int32)) (q := 16) C (show decode cX12_length 14 = .ok (.bipush 98, 2) from by decide +kernel) (by decide) rfl ?_
    refine sr_cVz (As := [.int v1, .int v2, .int v3, .int (98 : Int32)]) (st := []) (b := v0) (q := 19) C yvX12_finds ml_X12_313 (cnX12_finds (xo κ) v0 v1 v2 v3 (98 : Int32) hv0) hv0 (by decide) rfl rfl rfl (by decide) (by decide) (Nat.le_of_ble_eq_true rfl) rfl (show decode cX12_length 16 = .ok (.invokevirtual 313, 3) from by decide +kernel) rfl (fun x16 => ?_)
    refine sr_if_eq (q := 22) C 29 (show decode cX12_length 19 = .ok (.ifCond .eq 10, 3) from by decide +kernel) (by decide) rfl ?_ ?_
    · refine sr_iconst (v := (-1 : Int32)) (q := 30) C (show decode cX12_length 29 = .ok (.iconst (-1), 1) from by decide +kernel) (by decide) rfl ?_
      refine sr_goto (q := 35) C (show decode cX12_length 30 = .ok (.goto 5, 3) from by decide +kernel) (by decide) ?_
      exact sr_ireturn C _ rfl (show decode cX12_length 35 = .ok (.ireturn, 1) from by decide +kernel)
    · refine sr_aload_n (i := 0) (q := 23) C (show decode cX12_length 22 = .ok (.aload_n 0, 1) from by decide +kernel) rfl rfl rfl ?_
      refine sr_geti (q := 26) C fl_X12_297 (Or.inl rfl) hv0 (show decode cX12_length 23 = .ok (.getfield 297, 3) from by decide +kernel) rfl (fun x23 => ?_)
      refine sr_goto (q := 35) C (show decode cX12_length 26 = .ok (.goto 9, 3) from by decide +kernel) (by decide) ?_
      exact sr_ireturn C _ rfl (show decode cX12_length 35 = .ok (.ireturn, 1) from by decide +kernel)
theorem cnX12_length (ω : sm_O) (v0 : Nat) (v1 : Int32) (v2 : Int32) (v3 : Int32) (hv0 : kd v0 = 12) : sm_Mt 8 yX12_length cX12_length 4 (some .int) ω [.ref (ω.1 + v0), .int v1, .int v2, .int v3] (fun a => some (.int a)) (fnX12_length v0 v1 v2 v3) := by
  refine sm_conI (r := fun a => a) (by decide) (fun _ => rfl) (Nat.le_of_ble_eq_true rfl) ?_
  intro κ hκ C
  subst hκ
  exact slX12_length C v0 v1 v2 v3 hv0
def fnX12_may (v0 : Nat) (v1 : Int32) (v2 : Int32) (v3 : Int32) : sm_M Int32 := m_bnd (fnX12_isPlace v0 v1) fun x2 => m_br ((bI x2) = 0)
    (m_ret (-2 : Int32))
    (m_bnd (fnX12_isPlace v0 v2) fun x10 => m_br ((bI x10) = 0)
    (m_ret (-2 : Int32))
    (m_bnd (fnX12_isStride v3) fun x17 => m_br ((bI x17) = 0)
    (m_ret (-2 : Int32))
    (m_bnd (fnX12_isStep v0 v1 v2 v3) fun x27 => m_br ((bI x27) = 0)
    (m_ret (0 : Int32))
    (m_ret (1 : Int32)))))
set_option maxHeartbeats 4000000 in
set_option maxRecDepth 100000 in
theorem slX12_may {κ : sm_X} (C : sm_C κ RX12 cX12_may 4 5) (v0 : Nat) (v1 : Int32) (v2 : Int32) (v3 : Int32) (hv0 : kd v0 = 12) : sm_S κ (fun r : Int32 => .inr (some (.int r))) (.inl (0, [some (xad κ v0), some (.int v1), some (.int v2), some (.int v3)], [])) (fnX12_may v0 v1 v2 v3) := by
  unfold fnX12_may
  refine sr_aload_n (i := 0) (q := 1) C (show decode cX12_may 0 = .ok (.aload_n 0, 1) from by decide +kernel) rfl rfl rfl ?_
  refine sr_iload_n (i := 1) (q := 2) C (show decode cX12_may 1 = .ok (.iload_n 1, 1) from by decide +kernel) rfl rfl rfl ?_
  refine sr_cVz (As := [.int v1]) (st := []) (b := v0) (q := 5) C yvX12_isPlace ml_X12_264 (cnX12_isPlace (xo κ) v0 v1 hv0) hv0 (by decide) rfl rfl rfl (by decide) (by decide) (Nat.le_of_ble_eq_true rfl) rfl (show decode cX12_may 2 = .ok (.invokevirtual 264, 3) from by decide +kernel) rfl (fun x2 => ?_)
  refine sr_if_eq (q := 8) C 41 (show decode cX12_may 5 = .ok (.ifCond .eq 36, 3) from by decide +kernel) (by decide) rfl ?_ ?_
  · refine sr_bipush (v := (-2 : Int32)) (q := 43) C (show decode cX12_may 41 = .ok (.bipush (-2), 2) from by decide +kernel) (by decide) rfl ?_
    exact sr_ireturn C _ rfl (show decode cX12_may 43 = .ok (.ireturn, 1) from by decide +kernel)
  · refine sr_aload_n (i := 0) (q := 9) C (show decode cX12_may 8 = .ok (.aload_n 0, 1) from by decide +kernel) rfl rfl rfl ?_
    refine sr_iload_n (i := 2) (q := 10) C (show decode cX12_may 9 = .ok (.iload_n 2, 1) from by decide +kernel) rfl rfl rfl ?_
    refine sr_cVz (As := [.int v2]) (st := []) (b := v0) (q := 13) C yvX12_isPlace ml_X12_264 (cnX12_isPlace (xo κ) v0 v2 hv0) hv0 (by decide) rfl rfl rfl (by decide) (by decide) (Nat.le_of_ble_eq_true rfl) rfl (show decode cX12_may 10 = .ok (.invokevirtual 264, 3) from by decide +kernel) rfl (fun x10 => ?_)
    refine sr_if_eq (q := 16) C 41 (show decode cX12_may 13 = .ok (.ifCond .eq 28, 3) from by decide +kernel) (by decide) rfl ?_ ?_
    · refine sr_bipush (v := (-2 : Int32)) (q := 43) C (show decode cX12_may 41 = .ok (.bipush (-2), 2) from by decide +kernel) (by decide) rfl ?_
      exact sr_ireturn C _ rfl (show decode cX12_may 43 = .ok (.ireturn, 1) from by decide +kernel)
    · refine sr_iload_n (i := 3) (q := 17) C (show decode cX12_may 16 = .ok (.iload_n 3, 1) from by decide +kernel) rfl rfl rfl ?_
      refine sr_cSz (As := [.int v3]) (st := []) (q := 20) C ysX12_isStride ml_X12_267 (cnX12_isStride (xo κ) v3) rfl (by decide) (by decide) (Nat.le_of_ble_eq_true rfl) rfl (show decode cX12_may 17 = .ok (.invokestatic 267, 3) from by decide +kernel) rfl (fun x17 => ?_)
      refine sr_if_eq (q := 23) C 41 (show decode cX12_may 20 = .ok (.ifCond .eq 21, 3) from by decide +kernel) (by decide) rfl ?_ ?_
      · refine sr_bipush (v := (-2 : Int32)) (q := 43) C (show decode cX12_may 41 = .ok (.bipush (-2), 2) from by decide +kernel) (by decide) rfl ?_
        exact sr_ireturn C _ rfl (show decode cX12_may 43 = .ok (.ireturn, 1) from by decide +kernel)
      · refine sr_aload_n (i := 0) (q := 24) C (show decode cX12_may 23 = .ok (.aload_n 0, 1) from by decide +kernel) rfl rfl rfl ?_
        refine sr_iload_n (i := 1) (q := 25) C (show decode cX12_may 24 = .ok (.iload_n 1, 1) from by decide +kernel) rfl rfl rfl ?_
        refine sr_iload_n (i := 2) (q := 26) C (show decode cX12_may 25 = .ok (.iload_n 2, 1) from by decide +kernel) rfl rfl rfl ?_
        refine sr_iload_n (i := 3) (q := 27) C (show decode cX12_may 26 = .ok (.iload_n 3, 1) from by decide +kernel) rfl rfl rfl ?_
        refine sr_cVz (As := [.int v1, .int v2, .int v3]) (st := []) (b := v0) (q := 30) C yvX12_isStep ml_X12_270 (cnX12_isStep (xo κ) v0 v1 v2 v3 hv0) hv0 (by decide) rfl rfl rfl (by decide) (by decide) (Nat.le_of_ble_eq_true rfl) rfl (show decode cX12_may 27 = .ok (.invokevirtual 270, 3) from by decide +kernel) rfl (fun x27 => ?_)
        refine sr_if_eq (q := 33) C 37 (show decode cX12_may 30 = .ok (.ifCond .eq 7, 3) from by decide +kernel) (by decide) rfl ?_ ?_
        · refine sr_iconst (v := (0 : Int32)) (q := 38) C (show decode cX12_may 37 = .ok (.iconst 0, 1) from by decide +kernel) (by decide) rfl ?_
          refine sr_goto (q := 43) C (show decode cX12_may 38 = .ok (.goto 5, 3) from by decide +kernel) (by decide) ?_
          exact sr_ireturn C _ rfl (show decode cX12_may 43 = .ok (.ireturn, 1) from by decide +kernel)
        · refine sr_iconst (v := (1 : Int32)) (q := 34) C (show decode cX12_may 33 = .ok (.iconst 1, 1) from by decide +kernel) (by decide) rfl ?_
          refine sr_goto (q := 43) C (show decode cX12_may 34 = .ok (.goto 9, 3) from by decide +kernel) (by decide) ?_
          exact sr_ireturn C _ rfl (show decode cX12_may 43 = .ok (.ireturn, 1) from by decide +kernel)
theorem cnX12_may (ω : sm_O) (v0 : Nat) (v1 : Int32) (v2 : Int32) (v3 : Int32) (hv0 : kd v0 = 12) : sm_Mt 5 yX12_may cX12_may 4 (some .int) ω [.ref (ω.1 + v0), .int v1, .int v2, .int v3] (fun a => some (.int a)) (fnX12_may v0 v1 v2 v3) := by
  refine sm_conI (r := fun a => a) (by decide) (fun _ => rfl) (Nat.le_of_ble_eq_true rfl) ?_
  intro κ hκ C
  subst hκ
  exact slX12_may C v0 v1 v2 v3 hv0
def fnX12_meet_J61 (k3 : Nat → Int32 → Int32 → Int32 → Int32 → sm_M Bool) (v0 : Nat) (v1 : Int32) (v2 : Int32) (v3 : Int32) (v4 : Int32) : sm_M Bool := k3 v0 v1 v2 v3 (v4 + (1 : Int32))
set_option maxHeartbeats 4000000 in
set_option maxRecDepth 100000 in
theorem slX12_meet_J61 {κ : sm_X} (C : sm_C κ RX12 cX12_meet 6 1) {k3 : Nat → Int32 → Int32 → Int32 → Int32 → sm_M Bool} (K3 : ∀ (v0 : Nat) (v1 : Int32) (v2 : Int32) (v3 : Int32) (v4 : Int32) (hv0 : kd v0 = 12), sm_S κ (fun r : Bool => .inr (some (.int (bI r)))) (.inl (3, [some (xad κ v0), some (.int v1), some (.int v2), some (.int v3), some (.int v4), none], [])) (k3 v0 v1 v2 v3 v4)) (v0 : Nat) (v1 : Int32) (v2 : Int32) (v3 : Int32) (v4 : Int32) (hv0 : kd v0 = 12) : sm_S κ (fun r : Bool => .inr (some (.int (bI r)))) (.inl (61, [some (xad κ v0), some (.int v1), some (.int v2), some (.int v3), some (.int v4), none], [])) (fnX12_meet_J61 k3 v0 v1 v2 v3 v4) := by
  unfold fnX12_meet_J61
  refine sr_iinc (v := v4 + (1 : Int32)) (L' := [some (xad κ v0), some (.int v1), some (.int v2), some (.int v3), some (.int (v4 + (1 : Int32))), none]) (q := 64) C (show decode cX12_meet 61 = .ok (.iinc 4 1, 3) from by decide +kernel) rfl rfl (by decide) rfl rfl ?_
  refine sr_goto (q := 3) C (show decode cX12_meet 64 = .ok (.goto (-61), 3) from by decide +kernel) (by decide) ?_
  exact K3 v0 v1 v2 v3 (v4 + (1 : Int32)) hv0
def fnX12_meet_L3 : Nat → Nat → Int32 → Int32 → Int32 → Int32 → sm_M Bool
  | 0, _, _, _, _, _ => m_fail
  | n + 1, v0, v1, v2, v3, v4 => m_ai (lk v0 43) v2 fun x10 => m_br (x10 ≤ v4)
    (m_ret false)
    (m_nm (v4 + v3) fun y18 => m_ai (lk v0 43) v1 fun x27 => m_br (x27 ≤ y18)
    (fnX12_meet_J61 (fnX12_meet_L3 n) v0 v1 v2 v3 v4)
    (m_al (lk v0 45) (((60 : Int32) * v1) + y18) fun x42 => m_al (lk v0 45) (((60 : Int32) * v2) + v4) fun x54 => m_br ((lg_cmp x42 x54) = 0)
    (m_ret true)
    (fnX12_meet_J61 (fnX12_meet_L3 n) v0 v1 v2 v3 v4)))
set_option maxHeartbeats 4000000 in
set_option maxRecDepth 100000 in
theorem slX12_meet_L3 {κ : sm_X} (C : sm_C κ RX12 cX12_meet 6 1) : ∀ (n : Nat) (v0 : Nat) (v1 : Int32) (v2 : Int32) (v3 : Int32) (v4 : Int32) (hv0 : kd v0 = 12), sm_S κ (fun r : Bool => .inr (some (.int (bI r)))) (.inl (3, [some (xad κ v0), some (.int v1), some (.int v2), some (.int v3), some (.int v4), none], [])) (fnX12_meet_L3 n v0 v1 v2 v3 v4) := by
  intro n
  induction n with
  | zero =>
    intros
    exact sr_fail
  | succ n K3 =>
    intro v0 v1 v2 v3 v4 hv0
    unfold fnX12_meet_L3
    refine sr_iload (i := 4) (q := 5) C (show decode cX12_meet 3 = .ok (.iload 4, 2) from by decide +kernel) rfl rfl ?_
    refine sr_aload_n (i := 0) (q := 6) C (show decode cX12_meet 5 = .ok (.aload_n 0, 1) from by decide +kernel) rfl rfl rfl ?_
    refine sr_getr (q := 9) C fl_X12_86 hv0 (show decode cX12_meet 6 = .ok (.getfield 86, 3) from by decide +kernel) rfl ?_
    refine sr_iload_n (i := 2) (q := 10) C (show decode cX12_meet 9 = .ok (.iload_n 2, 1) from by decide +kernel) rfl rfl rfl ?_
    refine sr_iaload (q := 11) C (kt hv0 kp_12_43) (show decode cX12_meet 10 = .ok (.iaload, 1) from by decide +kernel) rfl (fun x10 => ?_)
    refine sr_icmp_ge (q := 14) C 67 (show decode cX12_meet 11 = .ok (.if_icmp .ge 56, 3) from by decide +kernel) (by decide) rfl ?_ ?_
    · refine sr_iconst (v := (0 : Int32)) (q := 68) C (show decode cX12_meet 67 = .ok (.iconst 0, 1) from by decide +kernel) (by decide) rfl ?_
      exact sr_ireturn C false rfl (show decode cX12_meet 68 = .ok (.ireturn, 1) from by decide +kernel)
    · refine sr_iload (i := 4) (q := 16) C (show decode cX12_meet 14 = .ok (.iload 4, 2) from by decide +kernel) rfl rfl ?_
      refine sr_iload_n (i := 3) (q := 17) C (show decode cX12_meet 16 = .ok (.iload_n 3, 1) from by decide +kernel) rfl rfl rfl ?_
      refine sr_iadd (q := 18) C (show decode cX12_meet 17 = .ok (.iadd, 1) from by decide +kernel) rfl ?_
      refine sr_nmi (fun y18 => ?_)
      refine sr_istore (i := 5) (L' := [some (xad κ v0), some (.int v1), some (.int v2), some (.int v3), some (.int v4), some (.int y18)]) (q := 20) C (show decode cX12_meet 18 = .ok (.istore 5, 2) from by decide +kernel) (by decide) rfl rfl ?_
      refine sr_iload (i := 5) (q := 22) C (show decode cX12_meet 20 = .ok (.iload 5, 2) from by decide +kernel) rfl rfl ?_
      refine sr_aload_n (i := 0) (q := 23) C (show decode cX12_meet 22 = .ok (.aload_n 0, 1) from by decide +kernel) rfl rfl rfl ?_
      refine sr_getr (q := 26) C fl_X12_86 hv0 (show decode cX12_meet 23 = .ok (.getfield 86, 3) from by decide +kernel) rfl ?_
      refine sr_iload_n (i := 1) (q := 27) C (show decode cX12_meet 26 = .ok (.iload_n 1, 1) from by decide +kernel) rfl rfl rfl ?_
      refine sr_iaload (q := 28) C (kt hv0 kp_12_43) (show decode cX12_meet 27 = .ok (.iaload, 1) from by decide +kernel) rfl (fun x27 => ?_)
      refine sr_icmp_ge (q := 31) C 61 (show decode cX12_meet 28 = .ok (.if_icmp .ge 33, 3) from by decide +kernel) (by decide) rfl ?_ ?_
      · refine sr_weak (L' := [some (xad κ v0), some (.int v1), some (.int v2), some (.int v3), some (.int v4), none]) ⟨rfl, rfl, rfl, rfl, rfl, trivial⟩ ?_
        exact slX12_meet_J61 C K3 v0 v1 v2 v3 v4 hv0
      · refine sr_aload_n (i := 0) (q := 32) C (show decode cX12_meet 31 = .ok (.aload_n 0, 1) from by decide +kernel) rfl rfl rfl ?_
        refine sr_getr (q := 35) C fl_X12_92 hv0 (show decode cX12_meet 32 = .ok (.getfield 92, 3) from by decide +kernel) rfl ?_
        refine sr_bipush (v := (60 : Int32)) (q := 37) C (show decode cX12_meet 35 = .ok (.bipush 60, 2) from by decide +kernel) (by decide) rfl ?_
        refine sr_iload_n (i := 1) (q := 38) C (show decode cX12_meet 37 = .ok (.iload_n 1, 1) from by decide +kernel) rfl rfl rfl ?_
        refine sr_imul (q := 39) C (show decode cX12_meet 38 = .ok (.imul, 1) from by decide +kernel) rfl ?_
        refine sr_iload (i := 5) (q := 41) C (show decode cX12_meet 39 = .ok (.iload 5, 2) from by decide +kernel) rfl rfl ?_
        refine sr_iadd (q := 42) C (show decode cX12_meet 41 = .ok (.iadd, 1) from by decide +kernel) rfl ?_
        refine sr_laload (q := 43) C (kt hv0 kp_12_45) (show decode cX12_meet 42 = .ok (.laload, 1) from by decide +kernel) rfl (fun x42 => ?_)
        refine sr_aload_n (i := 0) (q := 44) C (show decode cX12_meet 43 = .ok (.aload_n 0, 1) from by decide +kernel) rfl rfl rfl ?_
        refine sr_getr (q := 47) C fl_X12_92 hv0 (show decode cX12_meet 44 = .ok (.getfield 92, 3) from by decide +kernel) rfl ?_
        refine sr_bipush (v := (60 : Int32)) (q := 49) C (show decode cX12_meet 47 = .ok (.bipush 60, 2) from by decide +kernel) (by decide) rfl ?_
        refine sr_iload_n (i := 2) (q := 50) C (show decode cX12_meet 49 = .ok (.iload_n 2, 1) from by decide +kernel) rfl rfl rfl ?_
        refine sr_imul (q := 51) C (show decode cX12_meet 50 = .ok (.imul, 1) from by decide +kernel) rfl ?_
        refine sr_iload (i := 4) (q := 53) C (show decode cX12_meet 51 = .ok (.iload 4, 2) from by decide +kernel) rfl rfl ?_
        refine sr_iadd (q := 54) C (show decode cX12_meet 53 = .ok (.iadd, 1) from by decide +kernel) rfl ?_
        refine sr_laload (q := 55) C (kt hv0 kp_12_45) (show decode cX12_meet 54 = .ok (.laload, 1) from by decide +kernel) rfl (fun x54 => ?_)
        refine sr_lcmp (q := 56) C (show decode cX12_meet 55 = .ok (.lcmp, 1) from by decide +kernel) rfl ?_
        refine sr_if_ne (q := 59) C 61 (show decode cX12_meet 56 = .ok (.ifCond .ne 5, 3) from by decide +kernel) (by decide) rfl ?_ ?_
        · refine sr_weak (L' := [some (xad κ v0), some (.int v1), some (.int v2), some (.int v3), some (.int v4), none]) ⟨rfl, rfl, rfl, rfl, rfl, trivial⟩ ?_
          exact slX12_meet_J61 C K3 v0 v1 v2 v3 v4 hv0
        · refine sr_iconst (v := (1 : Int32)) (q := 60) C (show decode cX12_meet 59 = .ok (.iconst 1, 1) from by decide +kernel) (by decide) rfl ?_
          exact sr_ireturn C true rfl (show decode cX12_meet 60 = .ok (.ireturn, 1) from by decide +kernel)
def fnX12_meet (v0 : Nat) (v1 : Int32) (v2 : Int32) (v3 : Int32) : sm_M Bool := fnX12_meet_L3 4096 v0 v1 v2 v3 (0 : Int32)
set_option maxHeartbeats 4000000 in
set_option maxRecDepth 100000 in
theorem slX12_meet {κ : sm_X} (C : sm_C κ RX12 cX12_meet 6 1) (v0 : Nat) (v1 : Int32) (v2 : Int32) (v3 : Int32) (hv0 : kd v0 = 12) : sm_S κ (fun r : Bool => .inr (some (.int (bI r)))) (.inl (0, [some (xad κ v0), some (.int v1), some (.int v2), some (.int v3), none, none], [])) (fnX12_meet v0 v1 v2 v3) := by
  unfold fnX12_meet
  refine sr_iconst (v := (0 : Int32)) (q := 1) C (show decode cX12_meet 0 = .ok (.iconst 0, 1) from by decide +kernel) (by decide) rfl ?_
  refine sr_istore (i := 4) (L' := [some (xad κ v0), some (.int v1), some (.int v2), some (.int v3), some (.int (0 : Int32)), none]) (q := 3) C (show decode cX12_meet 1 = .ok (.istore 4, 2) from by decide +kernel) (by decide) rfl rfl ?_
  exact slX12_meet_L3 C 4096 v0 v1 v2 v3 (0 : Int32) hv0
theorem cnX12_meet (ω : sm_O) (v0 : Nat) (v1 : Int32) (v2 : Int32) (v3 : Int32) (hv0 : kd v0 = 12) : sm_Mt 1 yX12_meet cX12_meet 6 (some .boolean) ω [.ref (ω.1 + v0), .int v1, .int v2, .int v3] (fun a => some (.int (bI a))) (fnX12_meet v0 v1 v2 v3) := by
  refine sm_conI (r := bI) (by decide) bI_nar (Nat.le_of_ble_eq_true rfl) ?_
  intro κ hκ C
  subst hκ
  exact slX12_meet C v0 v1 v2 v3 hv0
def fnX12_stoneOn_J34 (k2 : Nat → Int32 → Int32 → Int32 → sm_M Int32) (v0 : Nat) (v1 : Int32) (v2 : Int32) (v3 : Int32) : sm_M Int32 := k2 v0 v1 v2 (v3 + (1 : Int32))
set_option maxHeartbeats 4000000 in
set_option maxRecDepth 100000 in
theorem slX12_stoneOn_J34 {κ : sm_X} (C : sm_C κ RX12 cX12_stoneOn 4 2) {k2 : Nat → Int32 → Int32 → Int32 → sm_M Int32} (K2 : ∀ (v0 : Nat) (v1 : Int32) (v2 : Int32) (v3 : Int32) (hv0 : kd v0 = 12), sm_S κ (fun r : Int32 => .inr (some (.int r))) (.inl (2, [some (xad κ v0), some (.int v1), some (.int v2), some (.int v3)], [])) (k2 v0 v1 v2 v3)) (v0 : Nat) (v1 : Int32) (v2 : Int32) (v3 : Int32) (hv0 : kd v0 = 12) : sm_S κ (fun r : Int32 => .inr (some (.int r))) (.inl (34, [some (xad κ v0), some (.int v1), some (.int v2), some (.int v3)], [])) (fnX12_stoneOn_J34 k2 v0 v1 v2 v3) := by
  unfold fnX12_stoneOn_J34
  refine sr_iinc (v := v3 + (1 : Int32)) (L' := [some (xad κ v0), some (.int v1), some (.int v2), some (.int (v3 + (1 : Int32)))]) (q := 37) C (show decode cX12_stoneOn 34 = .ok (.iinc 3 1, 3) from by decide +kernel) rfl rfl (by decide) rfl rfl ?_
  refine sr_goto (q := 2) C (show decode cX12_stoneOn 37 = .ok (.goto (-35), 3) from by decide +kernel) (by decide) ?_
  exact K2 v0 v1 v2 (v3 + (1 : Int32)) hv0
def fnX12_stoneOn_L2 : Nat → Nat → Int32 → Int32 → Int32 → sm_M Int32
  | 0, _, _, _, _ => m_fail
  | n + 1, v0, v1, v2, v3 => m_ai (lk v0 1) (3 : Int32) fun x8 => m_br (x8 ≤ v3)
    (m_ret (-1 : Int32))
    (m_bnd (fnX12_ofStone v0 v3 (0 : Int32)) fun x15 => m_br (x15 = v1)
    (m_bnd (fnX12_ofStone v0 v3 (1 : Int32)) fun x25 => m_br (x25 = v2)
    (m_ret v3)
    (fnX12_stoneOn_J34 (fnX12_stoneOn_L2 n) v0 v1 v2 v3))
    (fnX12_stoneOn_J34 (fnX12_stoneOn_L2 n) v0 v1 v2 v3))
set_option maxHeartbeats 4000000 in
set_option maxRecDepth 100000 in
theorem slX12_stoneOn_L2 {κ : sm_X} (C : sm_C κ RX12 cX12_stoneOn 4 2) : ∀ (n : Nat) (v0 : Nat) (v1 : Int32) (v2 : Int32) (v3 : Int32) (hv0 : kd v0 = 12), sm_S κ (fun r : Int32 => .inr (some (.int r))) (.inl (2, [some (xad κ v0), some (.int v1), some (.int v2), some (.int v3)], [])) (fnX12_stoneOn_L2 n v0 v1 v2 v3) := by
  intro n
  induction n with
  | zero =>
    intros
    exact sr_fail
  | succ n K2 =>
    intro v0 v1 v2 v3 hv0
    unfold fnX12_stoneOn_L2
    refine sr_iload_n (i := 3) (q := 3) C (show decode cX12_stoneOn 2 = .ok (.iload_n 3, 1) from by decide +kernel) rfl rfl rfl ?_
    refine sr_aload_n (i := 0) (q := 4) C (show decode cX12_stoneOn 3 = .ok (.aload_n 0, 1) from by decide +kernel) rfl rfl rfl ?_
    refine sr_getr (q := 7) C fl_X12_9 hv0 (show decode cX12_stoneOn 4 = .ok (.getfield 9, 3) from by decide +kernel) rfl ?_
    refine sr_iconst (v := (3 : Int32)) (q := 8) C (show decode cX12_stoneOn 7 = .ok (.iconst 3, 1) from by decide +kernel) (by decide) rfl ?_
    refine sr_iaload (q := 9) C (kt hv0 kp_12_1) (show decode cX12_stoneOn 8 = .ok (.iaload, 1) from by decide +kernel) rfl (fun x8 => ?_)
    refine sr_icmp_ge (q := 12) C 40 (show decode cX12_stoneOn 9 = .ok (.if_icmp .ge 31, 3) from by decide +kernel) (by decide) rfl ?_ ?_
    · refine sr_iconst (v := (-1 : Int32)) (q := 41) C (show decode cX12_stoneOn 40 = .ok (.iconst (-1), 1) from by decide +kernel) (by decide) rfl ?_
      exact sr_ireturn C _ rfl (show decode cX12_stoneOn 41 = .ok (.ireturn, 1) from by decide +kernel)
    · refine sr_aload_n (i := 0) (q := 13) C (show decode cX12_stoneOn 12 = .ok (.aload_n 0, 1) from by decide +kernel) rfl rfl rfl ?_
      refine sr_iload_n (i := 3) (q := 14) C (show decode cX12_stoneOn 13 = .ok (.iload_n 3, 1) from by decide +kernel) rfl rfl rfl ?_
      refine sr_iconst (v := (0 : Int32)) (q := 15) C (show decode cX12_stoneOn 14 = .ok (.iconst 0, 1) from by decide +kernel) (by decide) rfl ?_
      refine sr_cVi (As := [.int v3, .int (0 : Int32)]) (st := []) (b := v0) (q := 18) C yvX12_ofStone ml_X12_239 (cnX12_ofStone (xo κ) v0 v3 (0 : Int32) hv0) hv0 (by decide) rfl rfl rfl (by decide) (by decide) (Nat.le_of_ble_eq_true rfl) rfl (show decode cX12_stoneOn 15 = .ok (.invokevirtual 239, 3) from by decide +kernel) rfl (fun x15 => ?_)
      refine sr_iload_n (i := 1) (q := 19) C (show decode cX12_stoneOn 18 = .ok (.iload_n 1, 1) from by decide +kernel) rfl rfl rfl ?_
      refine sr_icmp_ne (q := 22) C 34 (show decode cX12_stoneOn 19 = .ok (.if_icmp .ne 15, 3) from by decide +kernel) (by decide) rfl ?_ ?_
      · exact slX12_stoneOn_J34 C K2 v0 v1 v2 v3 hv0
      · refine sr_aload_n (i := 0) (q := 23) C (show decode cX12_stoneOn 22 = .ok (.aload_n 0, 1) from by decide +kernel) rfl rfl rfl ?_
        refine sr_iload_n (i := 3) (q := 24) C (show decode cX12_stoneOn 23 = .ok (.iload_n 3, 1) from by decide +kernel) rfl rfl rfl ?_
        refine sr_iconst (v := (1 : Int32)) (q := 25) C (show decode cX12_stoneOn 24 = .ok (.iconst 1, 1) from by decide +kernel) (by decide) rfl ?_
        refine sr_cVi (As := [.int v3, .int (1 : Int32)]) (st := []) (b := v0) (q := 28) C yvX12_ofStone ml_X12_239 (cnX12_ofStone (xo κ) v0 v3 (1 : Int32) hv0) hv0 (by decide) rfl rfl rfl (by decide) (by decide) (Nat.le_of_ble_eq_true rfl) rfl (show decode cX12_stoneOn 25 = .ok (.invokevirtual 239, 3) from by decide +kernel) rfl (fun x25 => ?_)
        refine sr_iload_n (i := 2) (q := 29) C (show decode cX12_stoneOn 28 = .ok (.iload_n 2, 1) from by decide +kernel) rfl rfl rfl ?_
        refine sr_icmp_ne (q := 32) C 34 (show decode cX12_stoneOn 29 = .ok (.if_icmp .ne 5, 3) from by decide +kernel) (by decide) rfl ?_ ?_
        · exact slX12_stoneOn_J34 C K2 v0 v1 v2 v3 hv0
        · refine sr_iload_n (i := 3) (q := 33) C (show decode cX12_stoneOn 32 = .ok (.iload_n 3, 1) from by decide +kernel) rfl rfl rfl ?_
          exact sr_ireturn C _ rfl (show decode cX12_stoneOn 33 = .ok (.ireturn, 1) from by decide +kernel)
def fnX12_stoneOn (v0 : Nat) (v1 : Int32) (v2 : Int32) : sm_M Int32 := fnX12_stoneOn_L2 4096 v0 v1 v2 (0 : Int32)
set_option maxHeartbeats 4000000 in
set_option maxRecDepth 100000 in
theorem slX12_stoneOn {κ : sm_X} (C : sm_C κ RX12 cX12_stoneOn 4 2) (v0 : Nat) (v1 : Int32) (v2 : Int32) (hv0 : kd v0 = 12) : sm_S κ (fun r : Int32 => .inr (some (.int r))) (.inl (0, [some (xad κ v0), some (.int v1), some (.int v2), none], [])) (fnX12_stoneOn v0 v1 v2) := by
  unfold fnX12_stoneOn
  refine sr_iconst (v := (0 : Int32)) (q := 1) C (show decode cX12_stoneOn 0 = .ok (.iconst 0, 1) from by decide +kernel) (by decide) rfl ?_
  refine sr_istore_n (i := 3) (L' := [some (xad κ v0), some (.int v1), some (.int v2), some (.int (0 : Int32))]) (q := 2) C (show decode cX12_stoneOn 1 = .ok (.istore_n 3, 1) from by decide +kernel) rfl (by decide) rfl rfl ?_
  exact slX12_stoneOn_L2 C 4096 v0 v1 v2 (0 : Int32) hv0
theorem cnX12_stoneOn (ω : sm_O) (v0 : Nat) (v1 : Int32) (v2 : Int32) (hv0 : kd v0 = 12) : sm_Mt 2 yX12_stoneOn cX12_stoneOn 4 (some .int) ω [.ref (ω.1 + v0), .int v1, .int v2] (fun a => some (.int a)) (fnX12_stoneOn v0 v1 v2) := by
  refine sm_conI (r := fun a => a) (by decide) (fun _ => rfl) (Nat.le_of_ble_eq_true rfl) ?_
  intro κ hκ C
  subst hκ
  exact slX12_stoneOn C v0 v1 v2 hv0
def fnX12_withMore (v0 : Nat) (v1 : Int32) (v2 : Int32) (v3 : Int32) (v4 : Int32) : sm_M Int32 := m_bnd (fnX12_fillNodes v0 (1 : Int32)) fun _ => m_bnd (fnX12_addNode v0 v1 v2 v3) fun _ => m_bnd (fnX12_flow v0 v4) fun x15 => m_ret x15
set_option maxHeartbeats 4000000 in
set_option maxRecDepth 100000 in
theorem slX12_withMore {κ : sm_X} (C : sm_C κ RX12 cX12_withMore 5 5) (v0 : Nat) (v1 : Int32) (v2 : Int32) (v3 : Int32) (v4 : Int32) (hv0 : kd v0 = 12) : sm_S κ (fun r : Int32 => .inr (some (.int r))) (.inl (0, [some (xad κ v0), some (.int v1), some (.int v2), some (.int v3), some (.int v4)], [])) (fnX12_withMore v0 v1 v2 v3 v4) := by
  unfold fnX12_withMore
  refine sr_aload_n (i := 0) (q := 1) C (show decode cX12_withMore 0 = .ok (.aload_n 0, 1) from by decide +kernel) rfl rfl rfl ?_
  refine sr_iconst (v := (1 : Int32)) (q := 2) C (show decode cX12_withMore 1 = .ok (.iconst 1, 1) from by decide +kernel) (by decide) rfl ?_
  refine sr_cVv (As := [.int (1 : Int32)]) (st := []) (b := v0) (q := 5) C yvX12_fillNodes ml_X12_447 (cnX12_fillNodes (xo κ) v0 (1 : Int32) hv0) hv0 (by decide) rfl rfl rfl (by decide) (by decide) (Nat.le_of_ble_eq_true rfl) rfl (show decode cX12_withMore 2 = .ok (.invokevirtual 447, 3) from by decide +kernel) rfl (fun _ => ?_)
  refine sr_aload_n (i := 0) (q := 6) C (show decode cX12_withMore 5 = .ok (.aload_n 0, 1) from by decide +kernel) rfl rfl rfl ?_
  refine sr_iload_n (i := 1) (q := 7) C (show decode cX12_withMore 6 = .ok (.iload_n 1, 1) from by decide +kernel) rfl rfl rfl ?_
  refine sr_iload_n (i := 2) (q := 8) C (show decode cX12_withMore 7 = .ok (.iload_n 2, 1) from by decide +kernel) rfl rfl rfl ?_
  refine sr_iload_n (i := 3) (q := 9) C (show decode cX12_withMore 8 = .ok (.iload_n 3, 1) from by decide +kernel) rfl rfl rfl ?_
  refine sr_cVv (As := [.int v1, .int v2, .int v3]) (st := []) (b := v0) (q := 12) C yvX12_addNode ml_X12_435 (cnX12_addNode (xo κ) v0 v1 v2 v3 hv0) hv0 (by decide) rfl rfl rfl (by decide) (by decide) (Nat.le_of_ble_eq_true rfl) rfl (show decode cX12_withMore 9 = .ok (.invokevirtual 435, 3) from by decide +kernel) rfl (fun _ => ?_)
  refine sr_aload_n (i := 0) (q := 13) C (show decode cX12_withMore 12 = .ok (.aload_n 0, 1) from by decide +kernel) rfl rfl rfl ?_
  refine sr_iload (i := 4) (q := 15) C (show decode cX12_withMore 13 = .ok (.iload 4, 2) from by decide +kernel) rfl rfl ?_
  refine sr_cVi (As := [.int v4]) (st := []) (b := v0) (q := 18) C yvX12_flow ml_X12_450 (cnX12_flow (xo κ) v0 v4 hv0) hv0 (by decide) rfl rfl rfl (by decide) (by decide) (Nat.le_of_ble_eq_true rfl) rfl (show decode cX12_withMore 15 = .ok (.invokevirtual 450, 3) from by decide +kernel) rfl (fun x15 => ?_)
  exact sr_ireturn C _ rfl (show decode cX12_withMore 18 = .ok (.ireturn, 1) from by decide +kernel)
theorem cnX12_withMore (ω : sm_O) (v0 : Nat) (v1 : Int32) (v2 : Int32) (v3 : Int32) (v4 : Int32) (hv0 : kd v0 = 12) : sm_Mt 5 yX12_withMore cX12_withMore 5 (some .int) ω [.ref (ω.1 + v0), .int v1, .int v2, .int v3, .int v4] (fun a => some (.int a)) (fnX12_withMore v0 v1 v2 v3 v4) := by
  refine sm_conI (r := fun a => a) (by decide) (fun _ => rfl) (Nat.le_of_ble_eq_true rfl) ?_
  intro κ hκ C
  subst hκ
  exact slX12_withMore C v0 v1 v2 v3 v4 hv0
def fnX12_more (v0 : Nat) (v1 : Int32) (v2 : Int32) (v3 : Int32) (v4 : Int32) : sm_M Int32 := m_bnd (fnX12_isRiver v0) fun x1 => m_br ((bI x1) = 0)
    (m_ret (-2 : Int32))
    (m_bnd (fnX12_isSpot v0 v1 v2) fun x10 => m_br ((bI x10) = 0)
    (m_ret (-2 : Int32))
    (m_bnd (fnX12_in v3.toInt64 (1 : Int64) (9 : Int64)) fun x22 => m_br ((bI x22) = 0)
    (m_ret (-2 : Int32))
    (m_bnd (fnX12_isStride v4) fun x30 => m_br ((bI x30) = 0)
    (m_ret (-2 : Int32))
    (m_bnd (fnX12_stoneOn v0 v1 v2) fun x42 => m_br (x42 = (-1 : Int32))
    (m_bnd (fnX12_withMore v0 v1 v2 v3 v4) fun x60 => m_ret x60)
    (m_ret (-5 : Int32))))))
set_option maxHeartbeats 4000000 in
set_option maxRecDepth 100000 in
theorem slX12_more {κ : sm_X} (C : sm_C κ RX12 cX12_more 5 6) (v0 : Nat) (v1 : Int32) (v2 : Int32) (v3 : Int32) (v4 : Int32) (hv0 : kd v0 = 12) : sm_S κ (fun r : Int32 => .inr (some (.int r))) (.inl (0, [some (xad κ v0), some (.int v1), some (.int v2), some (.int v3), some (.int v4)], [])) (fnX12_more v0 v1 v2 v3 v4) := by
  unfold fnX12_more
  refine sr_aload_n (i := 0) (q := 1) C (show decode cX12_more 0 = .ok (.aload_n 0, 1) from by decide +kernel) rfl rfl rfl ?_
  refine sr_cVz (As := []) (st := []) (b := v0) (q := 4) C yvX12_isRiver ml_X12_107 (cnX12_isRiver (xo κ) v0 hv0) hv0 (by decide) rfl rfl rfl (by decide) (by decide) (Nat.le_of_ble_eq_true rfl) rfl (show decode cX12_more 1 = .ok (.invokevirtual 107, 3) from by decide +kernel) rfl (fun x1 => ?_)
  refine sr_if_eq (q := 7) C 36 (show decode cX12_more 4 = .ok (.ifCond .eq 32, 3) from by decide +kernel) (by decide) rfl ?_ ?_
  · refine sr_bipush (v := (-2 : Int32)) (q := 38) C (show decode cX12_more 36 = .ok (.bipush (-2), 2) from by decide +kernel) (by decide) rfl ?_
    exact sr_ireturn C _ rfl (show decode cX12_more 38 = .ok (.ireturn, 1) from by decide +kernel)
  · refine sr_aload_n (i := 0) (q := 8) C (show decode cX12_more 7 = .ok (.aload_n 0, 1) from by decide +kernel) rfl rfl rfl ?_
    refine sr_iload_n (i := 1) (q := 9) C (show decode cX12_more 8 = .ok (.iload_n 1, 1) from by decide +kernel) rfl rfl rfl ?_
    refine sr_iload_n (i := 2) (q := 10) C (show decode cX12_more 9 = .ok (.iload_n 2, 1) from by decide +kernel) rfl rfl rfl ?_
    refine sr_cVz (As := [.int v1, .int v2]) (st := []) (b := v0) (q := 13) C yvX12_isSpot ml_X12_459 (cnX12_isSpot (xo κ) v0 v1 v2 hv0) hv0 (by decide) rfl rfl rfl (by decide) (by decide) (Nat.le_of_ble_eq_true rfl) rfl (show decode cX12_more 10 = .ok (.invokevirtual 459, 3) from by decide +kernel) rfl (fun x10 => ?_)
    refine sr_if_eq (q := 16) C 36 (show decode cX12_more 13 = .ok (.ifCond .eq 23, 3) from by decide +kernel) (by decide) rfl ?_ ?_
    · refine sr_bipush (v := (-2 : Int32)) (q := 38) C (show decode cX12_more 36 = .ok (.bipush (-2), 2) from by decide +kernel) (by decide) rfl ?_
      exact sr_ireturn C _ rfl (show decode cX12_more 38 = .ok (.ireturn, 1) from by decide +kernel)
    · refine sr_iload_n (i := 3) (q := 17) C (show decode cX12_more 16 = .ok (.iload_n 3, 1) from by decide +kernel) rfl rfl rfl ?_
      refine sr_i2l (q := 18) C (show decode cX12_more 17 = .ok (.i2l, 1) from by decide +kernel) rfl ?_
      refine sr_lconst (v := (1 : Int64)) (q := 19) C (show decode cX12_more 18 = .ok (.lconst 1, 1) from by decide +kernel) (by decide) rfl ?_
      refine sr_ldc2 (q := 22) C co_X12_262 (show decode cX12_more 19 = .ok (.ldc2_w 262, 3) from by decide +kernel) rfl ?_
      refine sr_cSz (As := [.long v3.toInt64, .long (1 : Int64), .long (9 : Int64)]) (st := []) (q := 25) C ysX12_in ml_X12_103 (cnX12_in (xo κ) v3.toInt64 (1 : Int64) (9 : Int64)) rfl (by decide) (by decide) (Nat.le_of_ble_eq_true rfl) rfl (show decode cX12_more 22 = .ok (.invokestatic 103, 3) from by decide +kernel) rfl (fun x22 => ?_)
      refine sr_if_eq (q := 28) C 36 (show decode cX12_more 25 = .ok (.ifCond .eq 11, 3) from by decide +kernel) (by decide) rfl ?_ ?_
      · refine sr_bipush (v := (-2 : Int32)) (q := 38) C (show decode cX12_more 36 = .ok (.bipush (-2), 2) from by decide +kernel) (by decide) rfl ?_
        exact sr_ireturn C _ rfl (show decode cX12_more 38 = .ok (.ireturn, 1) from by decide +kernel)
      · refine sr_iload (i := 4) (q := 30) C (show decode cX12_more 28 = .ok (.iload 4, 2) from by decide +kernel) rfl rfl ?_
        refine sr_cSz (As := [.int v4]) (st := []) (q := 33) C ysX12_isStride ml_X12_267 (cnX12_isStride (xo κ) v4) rfl (by decide) (by decide) (Nat.le_of_ble_eq_true rfl) rfl (show decode cX12_more 30 = .ok (.invokestatic 267, 3) from by decide +kernel) rfl (fun x30 => ?_)
        refine sr_if_ne (q := 36) C 39 (show decode cX12_more 33 = .ok (.ifCond .ne 6, 3) from by decide +kernel) (by decide) rfl ?_ ?_
        · refine sr_aload_n (i := 0) (q := 40) C (show decode cX12_more 39 = .ok (.aload_n 0, 1) from by decide +kernel) rfl rfl rfl ?_
          refine sr_iload_n (i := 1) (q := 41) C (show decode cX12_more 40 = .ok (.iload_n 1, 1) from by decide +kernel) rfl rfl rfl ?_
          refine sr_iload_n (i := 2) (q := 42) C (show decode cX12_more 41 = .ok (.iload_n 2, 1) from by decide +kernel) rfl rfl rfl ?_
          refine sr_cVi (As := [.int v1, .int v2]) (st := []) (b := v0) (q := 45) C yvX12_stoneOn ml_X12_462 (cnX12_stoneOn (xo κ) v0 v1 v2 hv0) hv0 (by decide) rfl rfl rfl (by decide) (by decide) (Nat.le_of_ble_eq_true rfl) rfl (show decode cX12_more 42 = .ok (.invokevirtual 462, 3) from by decide +kernel) rfl (fun x42 => ?_)
          refine sr_iconst (v := (-1 : Int32)) (q := 46) C (show decode cX12_more 45 = .ok (.iconst (-1), 1) from by decide +kernel) (by decide) rfl ?_
          refine sr_icmp_eq (q := 49) C 54 (show decode cX12_more 46 = .ok (.if_icmp .eq 8, 3) from by decide +kernel) (by decide) rfl ?_ ?_
          · refine sr_aload_n (i := 0) (q := 55) C (show decode cX12_more 54 = .ok (.aload_n 0, 1) from by decide +kernel) rfl rfl rfl ?_
            refine sr_iload_n (i := 1) (q := 56) C (show decode cX12_more 55 = .ok (.iload_n 1, 1) from by decide +kernel) rfl rfl rfl ?_
            refine sr_iload_n (i := 2) (q := 57) C (show decode cX12_more 56 = .ok (.iload_n 2, 1) from by decide +kernel) rfl rfl rfl ?_
            refine sr_iload_n (i := 3) (q := 58) C (show decode cX12_more 57 = .ok (.iload_n 3, 1) from by decide +kernel) rfl rfl rfl ?_
            refine sr_iload (i := 4) (q := 60) C (show decode cX12_more 58 = .ok (.iload 4, 2) from by decide +kernel) rfl rfl ?_
            refine sr_cVi (As := [.int v1, .int v2, .int v3, .int v4]) (st := []) (b := v0) (q := 63) C yvX12_withMore ml_X12_465 (cnX12_withMore (xo κ) v0 v1 v2 v3 v4 hv0) hv0 (by decide) rfl rfl rfl (by decide) (by decide) (Nat.le_of_ble_eq_true rfl) rfl (show decode cX12_more 60 = .ok (.invokevirtual 465, 3) from by decide +kernel) rfl (fun x60 => ?_)
            exact sr_ireturn C _ rfl (show decode cX12_more 63 = .ok (.ireturn, 1) from by decide +kernel)
          · refine sr_bipush (v := (-5 : Int32)) (q := 51) C (show decode cX12_more 49 = .ok (.bipush (-5), 2) from by decide +kernel) (by decide) rfl ?_
            refine sr_goto (q := 63) C (show decode cX12_more 51 = .ok (.goto 12, 3) from by decide +kernel) (by decide) ?_
            exact sr_ireturn C _ rfl (show decode cX12_more 63 = .ok (.ireturn, 1) from by decide +kernel)
        · refine sr_bipush (v := (-2 : Int32)) (q := 38) C (show decode cX12_more 36 = .ok (.bipush (-2), 2) from by decide +kernel) (by decide) rfl ?_
          exact sr_ireturn C _ rfl (show decode cX12_more 38 = .ok (.ireturn, 1) from by decide +kernel)
theorem cnX12_more (ω : sm_O) (v0 : Nat) (v1 : Int32) (v2 : Int32) (v3 : Int32) (v4 : Int32) (hv0 : kd v0 = 12) : sm_Mt 6 yX12_more cX12_more 5 (some .int) ω [.ref (ω.1 + v0), .int v1, .int v2, .int v3, .int v4] (fun a => some (.int a)) (fnX12_more v0 v1 v2 v3 v4) := by
  refine sm_conI (r := fun a => a) (by decide) (fun _ => rfl) (Nat.le_of_ble_eq_true rfl) ?_
  intro κ hκ C
  subst hκ
  exact slX12_more C v0 v1 v2 v3 v4 hv0
def fnX12_most (v0 : Nat) (v1 : Int32) (v2 : Int32) : sm_M Int32 := m_bnd (fnX12_isLoad v0 v1 v2) fun x3 => m_br ((bI x3) = 0)
    (m_ret (-2 : Int32))
    (m_bnd (fnX12_mostOf v0 v1 v2) fun x12 => m_ret x12)
set_option maxHeartbeats 4000000 in
set_option maxRecDepth 100000 in
theorem slX12_most {κ : sm_X} (C : sm_C κ RX12 cX12_most 3 6) (v0 : Nat) (v1 : Int32) (v2 : Int32) (hv0 : kd v0 = 12) : sm_S κ (fun r : Int32 => .inr (some (.int r))) (.inl (0, [some (xad κ v0), some (.int v1), some (.int v2)], [])) (fnX12_most v0 v1 v2) := by
  unfold fnX12_most
  refine sr_aload_n (i := 0) (q := 1) C (show decode cX12_most 0 = .ok (.aload_n 0, 1) from by decide +kernel) rfl rfl rfl ?_
  refine sr_iload_n (i := 1) (q := 2) C (show decode cX12_most 1 = .ok (.iload_n 1, 1) from by decide +kernel) rfl rfl rfl ?_
  refine sr_iload_n (i := 2) (q := 3) C (show decode cX12_most 2 = .ok (.iload_n 2, 1) from by decide +kernel) rfl rfl rfl ?_
  refine sr_cVz (As := [.int v1, .int v2]) (st := []) (b := v0) (q := 6) C yvX12_isLoad ml_X12_453 (cnX12_isLoad (xo κ) v0 v1 v2 hv0) hv0 (by decide) rfl rfl rfl (by decide) (by decide) (Nat.le_of_ble_eq_true rfl) rfl (show decode cX12_most 3 = .ok (.invokevirtual 453, 3) from by decide +kernel) rfl (fun x3 => ?_)
  refine sr_if_eq (q := 9) C 18 (show decode cX12_most 6 = .ok (.ifCond .eq 12, 3) from by decide +kernel) (by decide) rfl ?_ ?_
  · refine sr_bipush (v := (-2 : Int32)) (q := 20) C (show decode cX12_most 18 = .ok (.bipush (-2), 2) from by decide +kernel) (by decide) rfl ?_
    exact sr_ireturn C _ rfl (show decode cX12_most 20 = .ok (.ireturn, 1) from by decide +kernel)
  · refine sr_aload_n (i := 0) (q := 10) C (show decode cX12_most 9 = .ok (.aload_n 0, 1) from by decide +kernel) rfl rfl rfl ?_
    refine sr_iload_n (i := 1) (q := 11) C (show decode cX12_most 10 = .ok (.iload_n 1, 1) from by decide +kernel) rfl rfl rfl ?_
    refine sr_iload_n (i := 2) (q := 12) C (show decode cX12_most 11 = .ok (.iload_n 2, 1) from by decide +kernel) rfl rfl rfl ?_
    refine sr_cVi (As := [.int v1, .int v2]) (st := []) (b := v0) (q := 15) C yvX12_mostOf ml_X12_456 (cnX12_mostOf (xo κ) v0 v1 v2 hv0) hv0 (by decide) rfl rfl rfl (by decide) (by decide) (Nat.le_of_ble_eq_true rfl) rfl (show decode cX12_most 12 = .ok (.invokevirtual 456, 3) from by decide +kernel) rfl (fun x12 => ?_)
    refine sr_goto (q := 20) C (show decode cX12_most 15 = .ok (.goto 5, 3) from by decide +kernel) (by decide) ?_
    exact sr_ireturn C _ rfl (show decode cX12_most 20 = .ok (.ireturn, 1) from by decide +kernel)
theorem cnX12_most (ω : sm_O) (v0 : Nat) (v1 : Int32) (v2 : Int32) (hv0 : kd v0 = 12) : sm_Mt 6 yX12_most cX12_most 3 (some .int) ω [.ref (ω.1 + v0), .int v1, .int v2] (fun a => some (.int a)) (fnX12_most v0 v1 v2) := by
  refine sm_conI (r := fun a => a) (by decide) (fun _ => rfl) (Nat.le_of_ble_eq_true rfl) ?_
  intro κ hκ C
  subst hκ
  exact slX12_most C v0 v1 v2 hv0
def fnX12_movedOf_J86 (v0 : Nat) (v1 : Int32) (v3 : Int32) (v4 : Int32) (v5 : Int32) : sm_M Int32 := m_bnd (fnX12_fillNodes v0 (1 : Int32)) fun _ => m_sai (lk v0 32) ((2 : Int32) + v1) v4 <| m_sai (lk v0 33) ((2 : Int32) + v1) v5 <| m_bnd (fnX12_flow v0 v3) fun x113 => m_ret x113
set_option maxHeartbeats 4000000 in
set_option maxRecDepth 100000 in
theorem slX12_movedOf_J86 {κ : sm_X} (C : sm_C κ RX12 cX12_movedOf 6 5) (v0 : Nat) (v1 : Int32) (v3 : Int32) (v4 : Int32) (v5 : Int32) (hv0 : kd v0 = 12) : sm_S κ (fun r : Int32 => .inr (some (.int r))) (.inl (86, [some (xad κ v0), some (.int v1), none, some (.int v3), some (.int v4), some (.int v5)], [])) (fnX12_movedOf_J86 v0 v1 v3 v4 v5) := by
  unfold fnX12_movedOf_J86
  refine sr_aload_n (i := 0) (q := 87) C (show decode cX12_movedOf 86 = .ok (.aload_n 0, 1) from by decide +kernel) rfl rfl rfl ?_
  refine sr_iconst (v := (1 : Int32)) (q := 88) C (show decode cX12_movedOf 87 = .ok (.iconst 1, 1) from by decide +kernel) (by decide) rfl ?_
  refine sr_cVv (As := [.int (1 : Int32)]) (st := []) (b := v0) (q := 91) C yvX12_fillNodes ml_X12_447 (cnX12_fillNodes (xo κ) v0 (1 : Int32) hv0) hv0 (by decide) rfl rfl rfl (by decide) (by decide) (Nat.le_of_ble_eq_true rfl) rfl (show decode cX12_movedOf 88 = .ok (.invokevirtual 447, 3) from by decide +kernel) rfl (fun _ => ?_)
  refine sr_aload_n (i := 0) (q := 92) C (show decode cX12_movedOf 91 = .ok (.aload_n 0, 1) from by decide +kernel) rfl rfl rfl ?_
  refine sr_getr (q := 95) C fl_X12_58 hv0 (show decode cX12_movedOf 92 = .ok (.getfield 58, 3) from by decide +kernel) rfl ?_
  refine sr_iconst (v := (2 : Int32)) (q := 96) C (show decode cX12_movedOf 95 = .ok (.iconst 2, 1) from by decide +kernel) (by decide) rfl ?_
  refine sr_iload_n (i := 1) (q := 97) C (show decode cX12_movedOf 96 = .ok (.iload_n 1, 1) from by decide +kernel) rfl rfl rfl ?_
  refine sr_iadd (q := 98) C (show decode cX12_movedOf 97 = .ok (.iadd, 1) from by decide +kernel) rfl ?_
  refine sr_iload (i := 4) (q := 100) C (show decode cX12_movedOf 98 = .ok (.iload 4, 2) from by decide +kernel) rfl rfl ?_
  refine sr_iastore (q := 101) C (kt hv0 kp_12_32) (show decode cX12_movedOf 100 = .ok (.iastore, 1) from by decide +kernel) rfl ?_
  refine sr_aload_n (i := 0) (q := 102) C (show decode cX12_movedOf 101 = .ok (.aload_n 0, 1) from by decide +kernel) rfl rfl rfl ?_
  refine sr_getr (q := 105) C fl_X12_61 hv0 (show decode cX12_movedOf 102 = .ok (.getfield 61, 3) from by decide +kernel) rfl ?_
  refine sr_iconst (v := (2 : Int32)) (q := 106) C (show decode cX12_movedOf 105 = .ok (.iconst 2, 1) from by decide +kernel) (by decide) rfl ?_
  refine sr_iload_n (i := 1) (q := 107) C (show decode cX12_movedOf 106 = .ok (.iload_n 1, 1) from by decide +kernel) rfl rfl rfl ?_
  refine sr_iadd (q := 108) C (show decode cX12_movedOf 107 = .ok (.iadd, 1) from by decide +kernel) rfl ?_
  refine sr_iload (i := 5) (q := 110) C (show decode cX12_movedOf 108 = .ok (.iload 5, 2) from by decide +kernel) rfl rfl ?_
  refine sr_iastore (q := 111) C (kt hv0 kp_12_33) (show decode cX12_movedOf 110 = .ok (.iastore, 1) from by decide +kernel) rfl ?_
  refine sr_aload_n (i := 0) (q := 112) C (show decode cX12_movedOf 111 = .ok (.aload_n 0, 1) from by decide +kernel) rfl rfl rfl ?_
  refine sr_iload_n (i := 3) (q := 113) C (show decode cX12_movedOf 112 = .ok (.iload_n 3, 1) from by decide +kernel) rfl rfl rfl ?_
  refine sr_cVi (As := [.int v3]) (st := []) (b := v0) (q := 116) C yvX12_flow ml_X12_450 (cnX12_flow (xo κ) v0 v3 hv0) hv0 (by decide) rfl rfl rfl (by decide) (by decide) (Nat.le_of_ble_eq_true rfl) rfl (show decode cX12_movedOf 113 = .ok (.invokevirtual 450, 3) from by decide +kernel) rfl (fun x113 => ?_)
  exact sr_ireturn C _ rfl (show decode cX12_movedOf 116 = .ok (.ireturn, 1) from by decide +kernel)
def fnX12_movedOf_J53 (v0 : Nat) (v1 : Int32) (v2 : Int32) (v3 : Int32) (v4 : Int32) (s0 : Int32) (s1 : Int32) : sm_M Int32 := m_nm (s1 + s0) fun y54 => m_br (v2 ≤ 0)
    (fnX12_movedOf_J86 v0 v1 v3 v4 y54)
    (m_bnd (fnX12_isSpot v0 v4 y54) fun x65 => m_br ((bI x65) = 0)
    (m_ret (-5 : Int32))
    (m_bnd (fnX12_stoneOn v0 v4 y54) fun x76 => m_br (x76 = (-1 : Int32))
    (fnX12_movedOf_J86 v0 v1 v3 v4 y54)
    (m_ret (-5 : Int32))))
set_option maxHeartbeats 4000000 in
set_option maxRecDepth 100000 in
theorem slX12_movedOf_J53 {κ : sm_X} (C : sm_C κ RX12 cX12_movedOf 6 5) (v0 : Nat) (v1 : Int32) (v2 : Int32) (v3 : Int32) (v4 : Int32) (s0 : Int32) (s1 : Int32) (hv0 : kd v0 = 12) : sm_S κ (fun r : Int32 => .inr (some (.int r))) (.inl (53, [some (xad κ v0), some (.int v1), some (.int v2), some (.int v3), some (.int v4), none], [.int s0, .int s1])) (fnX12_movedOf_J53 v0 v1 v2 v3 v4 s0 s1) := by
  unfold fnX12_movedOf_J53
  refine sr_iadd (q := 54) C (show decode cX12_movedOf 53 = .ok (.iadd, 1) from by decide +kernel) rfl ?_
  refine sr_nmi (fun y54 => ?_)
  refine sr_istore (i := 5) (L' := [some (xad κ v0), some (.int v1), some (.int v2), some (.int v3), some (.int v4), some (.int y54)]) (q := 56) C (show decode cX12_movedOf 54 = .ok (.istore 5, 2) from by decide +kernel) (by decide) rfl rfl ?_
  refine sr_iload_n (i := 2) (q := 57) C (show decode cX12_movedOf 56 = .ok (.iload_n 2, 1) from by decide +kernel) rfl rfl rfl ?_
  refine sr_if_le (q := 60) C 86 (show decode cX12_movedOf 57 = .ok (.ifCond .le 29, 3) from by decide +kernel) (by decide) rfl ?_ ?_
  · refine sr_weak (L' := [some (xad κ v0), some (.int v1), none, some (.int v3), some (.int v4), some (.int y54)]) ⟨rfl, rfl, rfl, rfl, rfl, trivial⟩ ?_
    exact slX12_movedOf_J86 C v0 v1 v3 v4 y54 hv0
  · refine sr_aload_n (i := 0) (q := 61) C (show decode cX12_movedOf 60 = .ok (.aload_n 0, 1) from by decide +kernel) rfl rfl rfl ?_
    refine sr_iload (i := 4) (q := 63) C (show decode cX12_movedOf 61 = .ok (.iload 4, 2) from by decide +kernel) rfl rfl ?_
    refine sr_iload (i := 5) (q := 65) C (show decode cX12_movedOf 63 = .ok (.iload 5, 2) from by decide +kernel) rfl rfl ?_
    refine sr_cVz (As := [.int v4, .int y54]) (st := []) (b := v0) (q := 68) C yvX12_isSpot ml_X12_459 (cnX12_isSpot (xo κ) v0 v4 y54 hv0) hv0 (by decide) rfl rfl rfl (by decide) (by decide) (Nat.le_of_ble_eq_true rfl) rfl (show decode cX12_movedOf 65 = .ok (.invokevirtual 459, 3) from by decide +kernel) rfl (fun x65 => ?_)
    refine sr_if_eq (q := 71) C 83 (show decode cX12_movedOf 68 = .ok (.ifCond .eq 15, 3) from by decide +kernel) (by decide) rfl ?_ ?_
    · refine sr_bipush (v := (-5 : Int32)) (q := 85) C (show decode cX12_movedOf 83 = .ok (.bipush (-5), 2) from by decide +kernel) (by decide) rfl ?_
      exact sr_ireturn C _ rfl (show decode cX12_movedOf 85 = .ok (.ireturn, 1) from by decide +kernel)
    · refine sr_aload_n (i := 0) (q := 72) C (show decode cX12_movedOf 71 = .ok (.aload_n 0, 1) from by decide +kernel) rfl rfl rfl ?_
      refine sr_iload (i := 4) (q := 74) C (show decode cX12_movedOf 72 = .ok (.iload 4, 2) from by decide +kernel) rfl rfl ?_
      refine sr_iload (i := 5) (q := 76) C (show decode cX12_movedOf 74 = .ok (.iload 5, 2) from by decide +kernel) rfl rfl ?_
      refine sr_cVi (As := [.int v4, .int y54]) (st := []) (b := v0) (q := 79) C yvX12_stoneOn ml_X12_462 (cnX12_stoneOn (xo κ) v0 v4 y54 hv0) hv0 (by decide) rfl rfl rfl (by decide) (by decide) (Nat.le_of_ble_eq_true rfl) rfl (show decode cX12_movedOf 76 = .ok (.invokevirtual 462, 3) from by decide +kernel) rfl (fun x76 => ?_)
      refine sr_iconst (v := (-1 : Int32)) (q := 80) C (show decode cX12_movedOf 79 = .ok (.iconst (-1), 1) from by decide +kernel) (by decide) rfl ?_
      refine sr_icmp_eq (q := 83) C 86 (show decode cX12_movedOf 80 = .ok (.if_icmp .eq 6, 3) from by decide +kernel) (by decide) rfl ?_ ?_
      · refine sr_weak (L' := [some (xad κ v0), some (.int v1), none, some (.int v3), some (.int v4), some (.int y54)]) ⟨rfl, rfl, rfl, rfl, rfl, trivial⟩ ?_
        exact slX12_movedOf_J86 C v0 v1 v3 v4 y54 hv0
      · refine sr_bipush (v := (-5 : Int32)) (q := 85) C (show decode cX12_movedOf 83 = .ok (.bipush (-5), 2) from by decide +kernel) (by decide) rfl ?_
        exact sr_ireturn C _ rfl (show decode cX12_movedOf 85 = .ok (.ireturn, 1) from by decide +kernel)
def fnX12_movedOf_J25 (v0 : Nat) (v1 : Int32) (v2 : Int32) (v3 : Int32) (s0 : Int32) (s1 : Int32) : sm_M Int32 := m_nm (s1 + s0) fun y26 => m_bnd (fnX12_ofStone v0 v1 (1 : Int32)) fun x31 => m_br (v2 = (3 : Int32))
    (fnX12_movedOf_J53 v0 v1 v2 v3 y26 (1 : Int32) x31)
    (m_br (v2 = (4 : Int32))
    (fnX12_movedOf_J53 v0 v1 v2 v3 y26 (-1 : Int32) x31)
    (fnX12_movedOf_J53 v0 v1 v2 v3 y26 (0 : Int32) x31))
set_option maxHeartbeats 4000000 in
set_option maxRecDepth 100000 in
theorem slX12_movedOf_J25 {κ : sm_X} (C : sm_C κ RX12 cX12_movedOf 6 5) (v0 : Nat) (v1 : Int32) (v2 : Int32) (v3 : Int32) (s0 : Int32) (s1 : Int32) (hv0 : kd v0 = 12) : sm_S κ (fun r : Int32 => .inr (some (.int r))) (.inl (25, [some (xad κ v0), some (.int v1), some (.int v2), some (.int v3), none, none], [.int s0, .int s1])) (fnX12_movedOf_J25 v0 v1 v2 v3 s0 s1) := by
  unfold fnX12_movedOf_J25
  refine sr_iadd (q := 26) C (show decode cX12_movedOf 25 = .ok (.iadd, 1) from by decide +kernel) rfl ?_
  refine sr_nmi (fun y26 => ?_)
  refine sr_istore (i := 4) (L' := [some (xad κ v0), some (.int v1), some (.int v2), some (.int v3), some (.int y26), none]) (q := 28) C (show decode cX12_movedOf 26 = .ok (.istore 4, 2) from by decide +kernel) (by decide) rfl rfl ?_
  refine sr_aload_n (i := 0) (q := 29) C (show decode cX12_movedOf 28 = .ok (.aload_n 0, 1) from by decide +kernel) rfl rfl rfl ?_
  refine sr_iload_n (i := 1) (q := 30) C (show decode cX12_movedOf 29 = .ok (.iload_n 1, 1) from by decide +kernel) rfl rfl rfl ?_
  refine sr_iconst (v := (1 : Int32)) (q := 31) C (show decode cX12_movedOf 30 = .ok (.iconst 1, 1) from by decide +kernel) (by decide) rfl ?_
  refine sr_cVi (As := [.int v1, .int (1 : Int32)]) (st := []) (b := v0) (q := 34) C yvX12_ofStone ml_X12_239 (cnX12_ofStone (xo κ) v0 v1 (1 : Int32) hv0) hv0 (by decide) rfl rfl rfl (by decide) (by decide) (Nat.le_of_ble_eq_true rfl) rfl (show decode cX12_movedOf 31 = .ok (.invokevirtual 239, 3) from by decide +kernel) rfl (fun x31 => ?_)
  refine sr_iload_n (i := 2) (q := 35) C (show decode cX12_movedOf 34 = .ok (.iload_n 2, 1) from by decide +kernel) rfl rfl rfl ?_
  refine sr_iconst (v := (3 : Int32)) (q := 36) C (show decode cX12_movedOf 35 = .ok (.iconst 3, 1) from by decide +kernel) (by decide) rfl ?_
  refine sr_icmp_ne (q := 39) C 43 (show decode cX12_movedOf 36 = .ok (.if_icmp .ne 7, 3) from by decide +kernel) (by decide) rfl ?_ ?_
  · refine sr_iload_n (i := 2) (q := 44) C (show decode cX12_movedOf 43 = .ok (.iload_n 2, 1) from by decide +kernel) rfl rfl rfl ?_
    refine sr_iconst (v := (4 : Int32)) (q := 45) C (show decode cX12_movedOf 44 = .ok (.iconst 4, 1) from by decide +kernel) (by decide) rfl ?_
    refine sr_icmp_ne (q := 48) C 52 (show decode cX12_movedOf 45 = .ok (.if_icmp .ne 7, 3) from by decide +kernel) (by decide) rfl ?_ ?_
    · refine sr_iconst (v := (0 : Int32)) (q := 53) C (show decode cX12_movedOf 52 = .ok (.iconst 0, 1) from by decide +kernel) (by decide) rfl ?_
      exact slX12_movedOf_J53 C v0 v1 v2 v3 y26 (0 : Int32) x31 hv0
    · refine sr_iconst (v := (-1 : Int32)) (q := 49) C (show decode cX12_movedOf 48 = .ok (.iconst (-1), 1) from by decide +kernel) (by decide) rfl ?_
      refine sr_goto (q := 53) C (show decode cX12_movedOf 49 = .ok (.goto 4, 3) from by decide +kernel) (by decide) ?_
      exact slX12_movedOf_J53 C v0 v1 v2 v3 y26 (-1 : Int32) x31 hv0
  · refine sr_iconst (v := (1 : Int32)) (q := 40) C (show decode cX12_movedOf 39 = .ok (.iconst 1, 1) from by decide +kernel) (by decide) rfl ?_
    refine sr_goto (q := 53) C (show decode cX12_movedOf 40 = .ok (.goto 13, 3) from by decide +kernel) (by decide) ?_
    exact slX12_movedOf_J53 C v0 v1 v2 v3 y26 (1 : Int32) x31 hv0
def fnX12_movedOf (v0 : Nat) (v1 : Int32) (v2 : Int32) (v3 : Int32) : sm_M Int32 := m_bnd (fnX12_ofStone v0 v1 (0 : Int32)) fun x3 => m_br (v2 = (1 : Int32))
    (fnX12_movedOf_J25 v0 v1 v2 v3 (1 : Int32) x3)
    (m_br (v2 = (2 : Int32))
    (fnX12_movedOf_J25 v0 v1 v2 v3 (-1 : Int32) x3)
    (fnX12_movedOf_J25 v0 v1 v2 v3 (0 : Int32) x3))
set_option maxHeartbeats 4000000 in
set_option maxRecDepth 100000 in
theorem slX12_movedOf {κ : sm_X} (C : sm_C κ RX12 cX12_movedOf 6 5) (v0 : Nat) (v1 : Int32) (v2 : Int32) (v3 : Int32) (hv0 : kd v0 = 12) : sm_S κ (fun r : Int32 => .inr (some (.int r))) (.inl (0, [some (xad κ v0), some (.int v1), some (.int v2), some (.int v3), none, none], [])) (fnX12_movedOf v0 v1 v2 v3) := by
  unfold fnX12_movedOf
  refine sr_aload_n (i := 0) (q := 1) C (show decode cX12_movedOf 0 = .ok (.aload_n 0, 1) from by decide +kernel) rfl rfl rfl ?_
  refine sr_iload_n (i := 1) (q := 2) C (show decode cX12_movedOf 1 = .ok (.iload_n 1, 1) from by decide +kernel) rfl rfl rfl ?_
  refine sr_iconst (v := (0 : Int32)) (q := 3) C (show decode cX12_movedOf 2 = .ok (.iconst 0, 1) from by decide +kernel) (by decide) rfl ?_
  refine sr_cVi (As := [.int v1, .int (0 : Int32)]) (st := []) (b := v0) (q := 6) C yvX12_ofStone ml_X12_239 (cnX12_ofStone (xo κ) v0 v1 (0 : Int32) hv0) hv0 (by decide) rfl rfl rfl (by decide) (by decide) (Nat.le_of_ble_eq_true rfl) rfl (show decode cX12_movedOf 3 = .ok (.invokevirtual 239, 3) from by decide +kernel) rfl (fun x3 => ?_)
  refine sr_iload_n (i := 2) (q := 7) C (show decode cX12_movedOf 6 = .ok (.iload_n 2, 1) from by decide +kernel) rfl rfl rfl ?_
  refine sr_iconst (v := (1 : Int32)) (q := 8) C (show decode cX12_movedOf 7 = .ok (.iconst 1, 1) from by decide +kernel) (by decide) rfl ?_
  refine sr_icmp_ne (q := 11) C 15 (show decode cX12_movedOf 8 = .ok (.if_icmp .ne 7, 3) from by decide +kernel) (by decide) rfl ?_ ?_
  · refine sr_iload_n (i := 2) (q := 16) C (show decode cX12_movedOf 15 = .ok (.iload_n 2, 1) from by decide +kernel) rfl rfl rfl ?_
    refine sr_iconst (v := (2 : Int32)) (q := 17) C (show decode cX12_movedOf 16 = .ok (.iconst 2, 1) from by decide +kernel) (by decide) rfl ?_
    refine sr_icmp_ne (q := 20) C 24 (show decode cX12_movedOf 17 = .ok (.if_icmp .ne 7, 3) from by decide +kernel) (by decide) rfl ?_ ?_
    · refine sr_iconst (v := (0 : Int32)) (q := 25) C (show decode cX12_movedOf 24 = .ok (.iconst 0, 1) from by decide +kernel) (by decide) rfl ?_
      exact slX12_movedOf_J25 C v0 v1 v2 v3 (0 : Int32) x3 hv0
    · refine sr_iconst (v := (-1 : Int32)) (q := 21) C (show decode cX12_movedOf 20 = .ok (.iconst (-1), 1) from by decide +kernel) (by decide) rfl ?_
      refine sr_goto (q := 25) C (show decode cX12_movedOf 21 = .ok (.goto 4, 3) from by decide +kernel) (by decide) ?_
      exact slX12_movedOf_J25 C v0 v1 v2 v3 (-1 : Int32) x3 hv0
  · refine sr_iconst (v := (1 : Int32)) (q := 12) C (show decode cX12_movedOf 11 = .ok (.iconst 1, 1) from by decide +kernel) (by decide) rfl ?_
    refine sr_goto (q := 25) C (show decode cX12_movedOf 12 = .ok (.goto 13, 3) from by decide +kernel) (by decide) ?_
    exact slX12_movedOf_J25 C v0 v1 v2 v3 (1 : Int32) x3 hv0
theorem cnX12_movedOf (ω : sm_O) (v0 : Nat) (v1 : Int32) (v2 : Int32) (v3 : Int32) (hv0 : kd v0 = 12) : sm_Mt 5 yX12_movedOf cX12_movedOf 6 (some .int) ω [.ref (ω.1 + v0), .int v1, .int v2, .int v3] (fun a => some (.int a)) (fnX12_movedOf v0 v1 v2 v3) := by
  refine sm_conI (r := fun a => a) (by decide) (fun _ => rfl) (Nat.le_of_ble_eq_true rfl) ?_
  intro κ hκ C
  subst hκ
  exact slX12_movedOf C v0 v1 v2 v3 hv0
def fnX12_move_J59 (k26 : Nat → Int32 → Int32 → Int32 → Int32 → Int32 → sm_M Int32) (v0 : Nat) (v1 : Int32) (v2 : Int32) (v3 : Int32) (v4 : Int32) (v5 : Int32) : sm_M Int32 := k26 v0 v1 v2 v3 v4 (v5 + (1 : Int32))
set_option maxHeartbeats 4000000 in
set_option maxRecDepth 100000 in
theorem slX12_move_J59 {κ : sm_X} (C : sm_C κ RX12 cX12_move 7 6) {k26 : Nat → Int32 → Int32 → Int32 → Int32 → Int32 → sm_M Int32} (K26 : ∀ (v0 : Nat) (v1 : Int32) (v2 : Int32) (v3 : Int32) (v4 : Int32) (v5 : Int32) (hv0 : kd v0 = 12), sm_S κ (fun r : Int32 => .inr (some (.int r))) (.inl (26, [some (xad κ v0), some (.int v1), some (.int v2), some (.int v3), some (.int v4), some (.int v5), none], [])) (k26 v0 v1 v2 v3 v4 v5)) (v0 : Nat) (v1 : Int32) (v2 : Int32) (v3 : Int32) (v4 : Int32) (v5 : Int32) (hv0 : kd v0 = 12) : sm_S κ (fun r : Int32 => .inr (some (.int r))) (.inl (59, [some (xad κ v0), some (.int v1), some (.int v2), some (.int v3), some (.int v4), some (.int v5), none], [])) (fnX12_move_J59 k26 v0 v1 v2 v3 v4 v5) := by
  unfold fnX12_move_J59
  refine sr_iinc (v := v5 + (1 : Int32)) (L' := [some (xad κ v0), some (.int v1), some (.int v2), some (.int v3), some (.int v4), some (.int (v5 + (1 : Int32))), none]) (q := 62) C (show decode cX12_move 59 = .ok (.iinc 5 1, 3) from by decide +kernel) rfl rfl (by decide) rfl rfl ?_
  refine sr_goto (q := 26) C (show decode cX12_move 62 = .ok (.goto (-36), 3) from by decide +kernel) (by decide) ?_
  exact K26 v0 v1 v2 v3 v4 (v5 + (1 : Int32)) hv0
def fnX12_move_L26 : Nat → Nat → Int32 → Int32 → Int32 → Int32 → Int32 → sm_M Int32
  | 0, _, _, _, _, _, _ => m_fail
  | n + 1, v0, v1, v2, v3, v4, v5 => m_br ((5 : Int32) ≤ v5)
    (m_ret v3)
    (m_bnd (fnX12_movedOf v0 v1 v5 v2) fun x37 => m_br (v4 < x37)
    (fnX12_move_J59 (fnX12_move_L26 n) v0 v1 v2 v5 x37 v5)
    (fnX12_move_J59 (fnX12_move_L26 n) v0 v1 v2 v3 v4 v5))
set_option maxHeartbeats 4000000 in
set_option maxRecDepth 100000 in
theorem slX12_move_L26 {κ : sm_X} (C : sm_C κ RX12 cX12_move 7 6) : ∀ (n : Nat) (v0 : Nat) (v1 : Int32) (v2 : Int32) (v3 : Int32) (v4 : Int32) (v5 : Int32) (hv0 : kd v0 = 12), sm_S κ (fun r : Int32 => .inr (some (.int r))) (.inl (26, [some (xad κ v0), some (.int v1), some (.int v2), some (.int v3), some (.int v4), some (.int v5), none], [])) (fnX12_move_L26 n v0 v1 v2 v3 v4 v5) := by
  intro n
  induction n with
  | zero =>
    intros
    exact sr_fail
  | succ n K26 =>
    intro v0 v1 v2 v3 v4 v5 hv0
    unfold fnX12_move_L26
    refine sr_iload (i := 5) (q := 28) C (show decode cX12_move 26 = .ok (.iload 5, 2) from by decide +kernel) rfl rfl ?_
    refine sr_iconst (v := (5 : Int32)) (q := 29) C (show decode cX12_move 28 = .ok (.iconst 5, 1) from by decide +kernel) (by decide) rfl ?_
    refine sr_icmp_ge (q := 32) C 65 (show decode cX12_move 29 = .ok (.if_icmp .ge 36, 3) from by decide +kernel) (by decide) rfl ?_ ?_
    · refine sr_iload_n (i := 3) (q := 66) C (show decode cX12_move 65 = .ok (.iload_n 3, 1) from by decide +kernel) rfl rfl rfl ?_
      exact sr_ireturn C _ rfl (show decode cX12_move 66 = .ok (.ireturn, 1) from by decide +kernel)
    · refine sr_aload_n (i := 0) (q := 33) C (show decode cX12_move 32 = .ok (.aload_n 0, 1) from by decide +kernel) rfl rfl rfl ?_
      refine sr_iload_n (i := 1) (q := 34) C (show decode cX12_move 33 = .ok (.iload_n 1, 1) from by decide +kernel) rfl rfl rfl ?_
      refine sr_iload (i := 5) (q := 36) C (show decode cX12_move 34 = .ok (.iload 5, 2) from by decide +kernel) rfl rfl ?_
      refine sr_iload_n (i := 2) (q := 37) C (show decode cX12_move 36 = .ok (.iload_n 2, 1) from by decide +kernel) rfl rfl rfl ?_
      refine sr_cVi (As := [.int v1, .int v5, .int v2]) (st := []) (b := v0) (q := 40) C yvX12_movedOf ml_X12_469 (cnX12_movedOf (xo κ) v0 v1 v5 v2 hv0) hv0 (by decide) rfl rfl rfl (by decide) (by decide) (Nat.le_of_ble_eq_true rfl) rfl (show decode cX12_move 37 = .ok (.invokevirtual 469, 3) from by decide +kernel) rfl (fun x37 => ?_)
      refine sr_istore (i := 6) (L' := [some (xad κ v0), some (.int v1), some (.int v2), some (.int v3), some (.int v4), some (.int v5), some (.int x37)]) (q := 42) C (show decode cX12_move 40 = .ok (.istore 6, 2) from by decide +kernel) (by decide) rfl rfl ?_
      refine sr_iload (i := 6) (q := 44) C (show decode cX12_move 42 = .ok (.iload 6, 2) from by decide +kernel) rfl rfl ?_
      refine sr_iload (i := 4) (q := 46) C (show decode cX12_move 44 = .ok (.iload 4, 2) from by decide +kernel) rfl rfl ?_
      refine sr_icmp_gt (q := 49) C 52 (show decode cX12_move 46 = .ok (.if_icmp .gt 6, 3) from by decide +kernel) (by decide) rfl ?_ ?_
      · refine sr_iload (i := 5) (q := 54) C (show decode cX12_move 52 = .ok (.iload 5, 2) from by decide +kernel) rfl rfl ?_
        refine sr_istore_n (i := 3) (L' := [some (xad κ v0), some (.int v1), some (.int v2), some (.int v5), some (.int v4), some (.int v5), some (.int x37)]) (q := 55) C (show decode cX12_move 54 = .ok (.istore_n 3, 1) from by decide +kernel) rfl (by decide) rfl rfl ?_
        refine sr_iload (i := 6) (q := 57) C (show decode cX12_move 55 = .ok (.iload 6, 2) from by decide +kernel) rfl rfl ?_
        refine sr_istore (i := 4) (L' := [some (xad κ v0), some (.int v1), some (.int v2), some (.int v5), some (.int x37), some (.int v5), some (.int x37)]) (q := 59) C (show decode cX12_move 57 = .ok (.istore 4, 2) from by decide +kernel) (by decide) rfl rfl ?_
        refine sr_weak (L' := [some (xad κ v0), some (.int v1), some (.int v2), some (.int v5), some (.int x37), some (.int v5), none]) ⟨rfl, rfl, rfl, rfl, rfl, rfl, trivial⟩ ?_
        exact slX12_move_J59 C K26 v0 v1 v2 v5 x37 v5 hv0
      · refine sr_goto (q := 59) C (show decode cX12_move 49 = .ok (.goto 10, 3) from by decide +kernel) (by decide) ?_
        refine sr_weak (L' := [some (xad κ v0), some (.int v1), some (.int v2), some (.int v3), some (.int v4), some (.int v5), none]) ⟨rfl, rfl, rfl, rfl, rfl, rfl, trivial⟩ ?_
        exact slX12_move_J59 C K26 v0 v1 v2 v3 v4 v5 hv0
def fnX12_move (v0 : Nat) (v1 : Int32) (v2 : Int32) : sm_M Int32 := m_bnd (fnX12_isStone v0 v1) fun x2 => m_br ((bI x2) = 0)
    (m_ret (-2 : Int32))
    (m_bnd (fnX12_isStride v2) fun x9 => m_br ((bI x9) = 0)
    (m_ret (-2 : Int32))
    (fnX12_move_L26 4096 v0 v1 v2 (0 : Int32) (-1 : Int32) (0 : Int32)))
set_option maxHeartbeats 4000000 in
set_option maxRecDepth 100000 in
theorem slX12_move {κ : sm_X} (C : sm_C κ RX12 cX12_move 7 6) (v0 : Nat) (v1 : Int32) (v2 : Int32) (hv0 : kd v0 = 12) : sm_S κ (fun r : Int32 => .inr (some (.int r))) (.inl (0, [some (xad κ v0), some (.int v1), some (.int v2), none, none, none, none], [])) (fnX12_move v0 v1 v2) := by
  unfold fnX12_move
  refine sr_aload_n (i := 0) (q := 1) C (show decode cX12_move 0 = .ok (.aload_n 0, 1) from by decide +kernel) rfl rfl rfl ?_
  refine sr_iload_n (i := 1) (q := 2) C (show decode cX12_move 1 = .ok (.iload_n 1, 1) from by decide +kernel) rfl rfl rfl ?_
  refine sr_cVz (As := [.int v1]) (st := []) (b := v0) (q := 5) C yvX12_isStone ml_X12_111 (cnX12_isStone (xo κ) v0 v1 hv0) hv0 (by decide) rfl rfl rfl (by decide) (by decide) (Nat.le_of_ble_eq_true rfl) rfl (show decode cX12_move 2 = .ok (.invokevirtual 111, 3) from by decide +kernel) rfl (fun x2 => ?_)
  refine sr_if_eq (q := 8) C 15 (show decode cX12_move 5 = .ok (.ifCond .eq 10, 3) from by decide +kernel) (by decide) rfl ?_ ?_
  · refine sr_bipush (v := (-2 : Int32)) (q := 17) C (show decode cX12_move 15 = .ok (.bipush (-2), 2) from by decide +kernel) (by decide) rfl ?_
    exact sr_ireturn C _ rfl (show decode cX12_move 17 = .ok (.ireturn, 1) from by decide +kernel)
  · refine sr_iload_n (i := 2) (q := 9) C (show decode cX12_move 8 = .ok (.iload_n 2, 1) from by decide +kernel) rfl rfl rfl ?_
    refine sr_cSz (As := [.int v2]) (st := []) (q := 12) C ysX12_isStride ml_X12_267 (cnX12_isStride (xo κ) v2) rfl (by decide) (by decide) (Nat.le_of_ble_eq_true rfl) rfl (show decode cX12_move 9 = .ok (.invokestatic 267, 3) from by decide +kernel) rfl (fun x9 => ?_)
    refine sr_if_ne (q := 15) C 18 (show decode cX12_move 12 = .ok (.ifCond .ne 6, 3) from by decide +kernel) (by decide) rfl ?_ ?_
    · refine sr_iconst (v := (0 : Int32)) (q := 19) C (show decode cX12_move 18 = .ok (.iconst 0, 1) from by decide +kernel) (by decide) rfl ?_
      refine sr_istore_n (i := 3) (L' := [some (xad κ v0), some (.int v1), some (.int v2), some (.int (0 : Int32)), none, none, none]) (q := 20) C (show decode cX12_move 19 = .ok (.istore_n 3, 1) from by decide +kernel) rfl (by decide) rfl rfl ?_
      refine sr_iconst (v := (-1 : Int32)) (q := 21) C (show decode cX12_move 20 = .ok (.iconst (-1), 1) from by decide +kernel) (by decide) rfl ?_
      refine sr_istore (i := 4) (L' := [some (xad κ v0), some (.int v1), some (.int v2), some (.int (0 : Int32)), some (.int (-1 : Int32)), none, none]) (q := 23) C (show decode cX12_move 21 = .ok (.istore 4, 2) from by decide +kernel) (by decide) rfl rfl ?_
      refine sr_iconst (v := (0 : Int32)) (q := 24) C (show decode cX12_move 23 = .ok (.iconst 0, 1) from by decide +kernel) (by decide) rfl ?_
      refine sr_istore (i := 5) (L' := [some (xad κ v0), some (.int v1), some (.int v2), some (.int (0 : Int32)), some (.int (-1 : Int32)), some (.int (0 : Int32)), none]) (q := 26) C (show decode cX12_move 24 = .ok (.istore 5, 2) from by decide +kernel) (by decide) rfl rfl ?_
      exact slX12_move_L26 C 4096 v0 v1 v2 (0 : Int32) (-1 : Int32) (0 : Int32) hv0
    · refine sr_bipush (v := (-2 : Int32)) (q := 17) C (show decode cX12_move 15 = .ok (.bipush (-2), 2) from by decide +kernel) (by decide) rfl ?_
      exact sr_ireturn C _ rfl (show decode cX12_move 17 = .ok (.ireturn, 1) from by decide +kernel)
theorem cnX12_move (ω : sm_O) (v0 : Nat) (v1 : Int32) (v2 : Int32) (hv0 : kd v0 = 12) : sm_Mt 6 yX12_move cX12_move 7 (some .int) ω [.ref (ω.1 + v0), .int v1, .int v2] (fun a => some (.int a)) (fnX12_move v0 v1 v2) := by
  refine sm_conI (r := fun a => a) (by decide) (fun _ => rfl) (Nat.le_of_ble_eq_true rfl) ?_
  intro κ hκ C
  subst hκ
  exact slX12_move C v0 v1 v2 hv0
