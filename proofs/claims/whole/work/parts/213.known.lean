set_option maxHeartbeats 4000000 in
set_option maxRecDepth 100000 in
/-- at the law's entry: the classes' numbers and slots, the array classes -/
theorem law_K {s : State} {args : Array Value} (hts : ∀ w ∈ lw_tbl, w.before args s = true) : ∃ (D : va_G) (cA : Nat → ClassId), ∀ (b0 : Nat) (adK adV : Nat → Nat), va_K D classes (sm_tys (b0, D, cA, adK, adV)) s := by
  obtain ⟨c0, j0, k0⟩ := u_known (C := RX0) (T := TX0) (N := 1) (n := 1) hts (fun w h => lw_m1 (inX0 w h)) (hts _ (lw_m1 (lw_m (lt2 (List.mem_of_getElem? (i := 35) rfl)) rfl)))
  obtain ⟨c1, j1, k1⟩ := u_known (C := RX1) (T := TX1) (N := 3) (n := 3) hts (fun w h => lw_m1 (inX1 w h)) (hts _ (lw_m1 (lw_m (lt2 (List.mem_of_getElem? (i := 84) rfl)) rfl)))
  obtain ⟨c2, j2, k2⟩ := u_known (C := RX2) (T := TX2) (N := 8) (n := 8) hts (fun w h => lw_m1 (inX2 w h)) (hts _ (lw_m1 (lw_m (lt2 (List.mem_of_getElem? (i := 100) rfl)) rfl)))
  obtain ⟨c3, j3, k3⟩ := u_known (C := RX3) (T := TX3) (N := 3) (n := 3) hts (fun w h => lw_m1 (inX3 w h)) (hts _ (lw_m1 (lw_m (lt1 (List.mem_of_getElem? (i := 225) rfl)) rfl)))
  obtain ⟨c4, j4, k4⟩ := u_known (C := RX4) (T := TX4) (N := 10) (n := 10) hts (fun w h => lw_m1 (inX4 w h)) (hts _ (lw_m1 (lw_m (lt2 (List.mem_of_getElem? (i := 106) rfl)) rfl)))
  obtain ⟨c5, j5, k5⟩ := u_known (C := RX5) (T := TX5) (N := 9) (n := 9) hts (fun w h => lw_m1 (inX5 w h)) (hts _ (lw_m1 (lw_m (lt2 (List.mem_of_getElem? (i := 45) rfl)) rfl)))
  obtain ⟨c6, j6, k6⟩ := u_known (C := RX6) (T := TX6) (N := 11) (n := 11) hts (fun w h => lw_m1 (inX6 w h)) (hts _ (lw_m1 (lw_m (lt1 (List.mem_of_getElem? (i := 31) rfl)) rfl)))
  obtain ⟨c7, j7, k7⟩ := u_known (C := RX7) (T := TX7) (N := 17) (n := 17) hts (fun w h => lw_m1 (inX7 w h)) (hts _ (lw_m1 (lw_m (lt1 (List.mem_of_getElem? (i := 37) rfl)) rfl)))
  obtain ⟨c8, j8, k8⟩ := u_known (C := RX8) (T := TX8) (N := 4) (n := 4) hts (fun w h => lw_m1 (inX8 w h)) (hts _ (lw_m1 (lw_m (lt2 (List.mem_of_getElem? (i := 180) rfl)) rfl)))
  obtain ⟨c9, j9, k9⟩ := u_known (C := RX9) (T := TX9) (N := 5) (n := 5) hts (fun w h => lw_m1 (inX9 w h)) (hts _ (lw_m1 (lw_m (lt1 (List.mem_of_getElem? (i := 189) rfl)) rfl)))
  obtain ⟨c10, j10, k10⟩ := u_known (C := RX10) (T := TX10) (N := 6) (n := 6) hts (fun w h => lw_m1 (inX10 w h)) (hts _ (lw_m1 (lw_m (lt2 (List.mem_of_getElem? (i := 7) rfl)) rfl)))
  obtain ⟨c11, j11, k11⟩ := u_known (C := RX11) (T := TX11) (N := 18) (n := 18) hts (fun w h => lw_m1 (inX11 w h)) (hts _ (lw_m1 (lw_m (lt1 (List.mem_of_getElem? (i := 23) rfl)) rfl)))
  obtain ⟨c12, j12, k12⟩ := u_known (C := RX12) (T := TX12) (N := 47) (n := 47) hts (fun w h => lw_m1 (inX12 w h)) (hts _ (lw_m1 (lw_m (lt6 (List.mem_of_getElem? (i := 142) rfl)) rfl)))
  obtain ⟨a20, x20, y20, f20, g20, h20⟩ := Cond.arrayClass_spec (hts (.arrayClass .int) (lw_m1 (lw_m (lt1 (List.mem_of_getElem? (i := 148) rfl)) rfl)))
  obtain ⟨a21, x21, y21, f21, g21, h21⟩ := Cond.arrayClass_spec (hts (.arrayClass .byte) (lw_m1 (lw_m (lt1 (List.mem_of_getElem? (i := 147) rfl)) rfl)))
  obtain ⟨a22, x22, y22, f22, g22, h22⟩ := Cond.arrayClass_spec (hts (.arrayClass .boolean) (lw_m1 (lw_m (lt2 (List.mem_of_getElem? (i := 202) rfl)) rfl)))
  obtain ⟨a23, x23, y23, f23, g23, h23⟩ := Cond.arrayClass_spec (hts (.arrayClass .long) (lw_m1 (lw_m (lt2 (List.mem_of_getElem? (i := 203) rfl)) rfl)))
  obtain ⟨y24, a24, x24, e24, -, g24, h24, f24⟩ := Cond.arrayOver_spec (n := RX9) (hts (.arrayOver (.object RX9)) (lt2 (List.mem_of_getElem? (i := 51) rfl)))
  obtain ⟨y25, a25, x25, e25, -, g25, h25, f25⟩ := Cond.arrayOver_spec (n := RX8) (hts (.arrayOver (.object RX8)) (lt2 (List.mem_of_getElem? (i := 178) rfl)))
  obtain ⟨y26, a26, x26, e26, -, g26, h26, f26⟩ := Cond.arrayOver_spec (n := RX7) (hts (.arrayOver (.object RX7)) (lt2 (List.mem_of_getElem? (i := 179) rfl)))
  refine ⟨(fun k => match k with
    | 0 => c0
    | 1 => c1
    | 2 => c2
    | 3 => c3
    | 4 => c4
    | 5 => c5
    | 6 => c6
    | 7 => c7
    | 8 => c8
    | 9 => c9
    | 10 => c10
    | 11 => c11
    | _ => c12, fun k => match k with
    | 0 => j0
    | 1 => j1
    | 2 => j2
    | 3 => j3
    | 4 => j4
    | 5 => j5
    | 6 => j6
    | 7 => j7
    | 8 => j8
    | 9 => j9
    | 10 => j10
    | 11 => j11
    | _ => j12), fun k => if k = 20 then a20 else if k = 21 then a21 else if k = 22 then a22 else if k = 23 then a23 else if k = 24 then a24 else if k = 25 then a25 else a26, fun b0 adK adV => ⟨fun c q hq => ?_, fun k q hk => ?_⟩⟩
  · match c, hq with
    | 0, hq => cases hq; exact k0
    | 1, hq => cases hq; exact k1
    | 2, hq => cases hq; exact k2
    | 3, hq => cases hq; exact k3
    | 4, hq => cases hq; exact k4
    | 5, hq => cases hq; exact k5
    | 6, hq => cases hq; exact k6
    | 7, hq => cases hq; exact k7
    | 8, hq => cases hq; exact k8
    | 9, hq => cases hq; exact k9
    | 10, hq => cases hq; exact k10
    | 11, hq => cases hq; exact k11
    | 12, hq => cases hq; exact k12
    | k + 13, hq => simp [classes] at hq
  · match k, hk with
    | 0, hk => cases hk; exact ⟨fun n z => ⟨fun k h => (by cases h), x20, g20, y20, h20⟩, f20⟩
    | 1, hk => cases hk; exact ⟨fun n z => ⟨fun k h => (by cases h), x21, g21, y21, h21⟩, f21⟩
    | 2, hk => cases hk; exact ⟨fun n z => ⟨fun k h => (by cases h), x22, g22, y22, h22⟩, f22⟩
    | 3, hk => cases hk; exact ⟨fun n z => ⟨fun k h => (by cases h), x23, g23, y23, h23⟩, f23⟩
    | 4, hk => cases hk; exact ⟨fun n z => ⟨fun k h => (by cases h), x24, g24, y24, h24⟩, x24, y24, g24, h24, e24, f24⟩
    | 5, hk => cases hk; exact ⟨fun n z => ⟨fun k h => (by cases h), x25, g25, y25, h25⟩, x25, y25, g25, h25, e25, f25⟩
    | 6, hk => cases hk; exact ⟨fun n z => ⟨fun k h => (by cases h), x26, g26, y26, h26⟩, x26, y26, g26, h26, e26, f26⟩
    | k + 7, hk => simp [sm_tys] at hk
