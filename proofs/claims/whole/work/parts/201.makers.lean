abbrev df_X8 : List Value := [.int 0, .int 0, .int 0, .null]
theorem dfX8_ok : ∀ j, j < 4 → defaultValue (tyX8 j) = vp_V df_X8 j := by
  intro j hj
  match j, hj with
  | 0, _ => rfl
  | 1, _ => rfl
  | 2, _ => rfl
  | 3, _ => rfl
  | k + 4, hj => exact absurd hj (by omega)
set_option maxRecDepth 100000 in
theorem cy_X8 : c_Y yX8_init cX8_init 1 0 := ⟨(lw_m (lt2 (List.mem_of_getElem? (i := 183) rfl)) rfl), (lw_m (lt1 (List.mem_of_getElem? (i := 13) rfl)) rfl), (lw_m (lt2 (List.mem_of_getElem? (i := 182) rfl)) rfl), rfl, nh_X8.1, nh_X8.2, by decide +kernel⟩
abbrev df_X4 : List Value := [.int 0, .int 0, .int 0, .int 0, .int 0, .null, .null, .null, .null, .null]
theorem dfX4_ok : ∀ j, j < 10 → defaultValue (tyX4 j) = vp_V df_X4 j := by
  intro j hj
  match j, hj with
  | 0, _ => rfl
  | 1, _ => rfl
  | 2, _ => rfl
  | 3, _ => rfl
  | 4, _ => rfl
  | 5, _ => rfl
  | 6, _ => rfl
  | 7, _ => rfl
  | 8, _ => rfl
  | 9, _ => rfl
  | k + 10, hj => exact absurd hj (by omega)
set_option maxRecDepth 100000 in
theorem cy_X4 : c_Y yX4_init cX4_init 1 0 := ⟨(lw_m (lt2 (List.mem_of_getElem? (i := 109) rfl)) rfl), (lw_m (lt1 (List.mem_of_getElem? (i := 12) rfl)) rfl), (lw_m (lt2 (List.mem_of_getElem? (i := 108) rfl)) rfl), rfl, nh_X4.1, nh_X4.2, by decide +kernel⟩
abbrev df_X7 : List Value := [.int 0, .int 0, .int 0, .int 0, .int 0, .int 0, .int 0, .int 0, .null, .null, .null, .null, .null, .null, .null, .null, .null]
theorem dfX7_ok : ∀ j, j < 17 → defaultValue (tyX7 j) = vp_V df_X7 j := by
  intro j hj
  match j, hj with
  | 0, _ => rfl
  | 1, _ => rfl
  | 2, _ => rfl
  | 3, _ => rfl
  | 4, _ => rfl
  | 5, _ => rfl
  | 6, _ => rfl
  | 7, _ => rfl
  | 8, _ => rfl
  | 9, _ => rfl
  | 10, _ => rfl
  | 11, _ => rfl
  | 12, _ => rfl
  | 13, _ => rfl
  | 14, _ => rfl
  | 15, _ => rfl
  | 16, _ => rfl
  | k + 17, hj => exact absurd hj (by omega)
set_option maxRecDepth 100000 in
theorem cy_X7 : c_Y yX7_init cX7_init 1 0 := ⟨(lw_m (lt1 (List.mem_of_getElem? (i := 40) rfl)) rfl), (lw_m (lt1 (List.mem_of_getElem? (i := 3) rfl)) rfl), (lw_m (lt1 (List.mem_of_getElem? (i := 39) rfl)) rfl), rfl, nh_X7.1, nh_X7.2, by decide +kernel⟩
abbrev df_X9 : List Value := [.null, .int 0, .null, .null, .null]
theorem dfX9_ok : ∀ j, j < 5 → defaultValue (tyX9 j) = vp_V df_X9 j := by
  intro j hj
  match j, hj with
  | 0, _ => rfl
  | 1, _ => rfl
  | 2, _ => rfl
  | 3, _ => rfl
  | 4, _ => rfl
  | k + 5, hj => exact absurd hj (by omega)
set_option maxRecDepth 100000 in
theorem cy_X9 : c_Y yX9_init cX9_init 2 1 := ⟨(lw_m (lt1 (List.mem_of_getElem? (i := 192) rfl)) rfl), (lw_m (lt1 (List.mem_of_getElem? (i := 4) rfl)) rfl), (lw_m (lt1 (List.mem_of_getElem? (i := 191) rfl)) rfl), rfl, nh_X9.1, nh_X9.2, by decide +kernel⟩
abbrev df_X3 : List Value := [.null, .null, .null]
theorem dfX3_ok : ∀ j, j < 3 → defaultValue (tyX3 j) = vp_V df_X3 j := by
  intro j hj
  match j, hj with
  | 0, _ => rfl
  | 1, _ => rfl
  | 2, _ => rfl
  | k + 3, hj => exact absurd hj (by omega)
set_option maxRecDepth 100000 in
theorem cy_X3 : c_Y yX3_init cX3_init 1 0 := ⟨(lw_m (lt1 (List.mem_of_getElem? (i := 228) rfl)) rfl), (lw_m (lt1 (List.mem_of_getElem? (i := 6) rfl)) rfl), (lw_m (lt1 (List.mem_of_getElem? (i := 227) rfl)) rfl), rfl, nh_X3.1, nh_X3.2, by decide +kernel⟩
abbrev df_X10 : List Value := [.null, .int 0, .null, .null, .null, .null]
theorem dfX10_ok : ∀ j, j < 6 → defaultValue (tyX10 j) = vp_V df_X10 j := by
  intro j hj
  match j, hj with
  | 0, _ => rfl
  | 1, _ => rfl
  | 2, _ => rfl
  | 3, _ => rfl
  | 4, _ => rfl
  | 5, _ => rfl
  | k + 6, hj => exact absurd hj (by omega)
set_option maxRecDepth 100000 in
theorem cy_X10 : c_Y yX10_init cX10_init 2 1 := ⟨(lw_m (lt2 (List.mem_of_getElem? (i := 10) rfl)) rfl), (lw_m (lt1 (List.mem_of_getElem? (i := 7) rfl)) rfl), (lw_m (lt2 (List.mem_of_getElem? (i := 9) rfl)) rfl), rfl, nh_X10.1, nh_X10.2, by decide +kernel⟩
abbrev df_X0 : List Value := [.null]
theorem dfX0_ok : ∀ j, j < 1 → defaultValue (tyX0 j) = vp_V df_X0 j := by
  intro j hj
  match j, hj with
  | 0, _ => rfl
  | k + 1, hj => exact absurd hj (by omega)
set_option maxRecDepth 100000 in
theorem cy_X0 : c_Y yX0_init cX0_init 2 1 := ⟨(lw_m (lt2 (List.mem_of_getElem? (i := 38) rfl)) rfl), (lw_m (lt1 (List.mem_of_getElem? (i := 8) rfl)) rfl), (lw_m (lt2 (List.mem_of_getElem? (i := 37) rfl)) rfl), rfl, nh_X0.1, nh_X0.2, by decide +kernel⟩
abbrev df_X5 : List Value := [.int 0, .int 0, .null, .null, .null, .null, .null, .int 0, .int 0]
theorem dfX5_ok : ∀ j, j < 9 → defaultValue (tyX5 j) = vp_V df_X5 j := by
  intro j hj
  match j, hj with
  | 0, _ => rfl
  | 1, _ => rfl
  | 2, _ => rfl
  | 3, _ => rfl
  | 4, _ => rfl
  | 5, _ => rfl
  | 6, _ => rfl
  | 7, _ => rfl
  | 8, _ => rfl
  | k + 9, hj => exact absurd hj (by omega)
set_option maxRecDepth 100000 in
theorem cy_X5 : c_Y yX5_init cX5_init 4 2 := ⟨(lw_m (lt2 (List.mem_of_getElem? (i := 48) rfl)) rfl), (lw_m (lt1 (List.mem_of_getElem? (i := 9) rfl)) rfl), (lw_m (lt2 (List.mem_of_getElem? (i := 47) rfl)) rfl), rfl, nh_X5.1, nh_X5.2, by decide +kernel⟩
abbrev df_X1 : List Value := [.null, .null, .int 0]
theorem dfX1_ok : ∀ j, j < 3 → defaultValue (tyX1 j) = vp_V df_X1 j := by
  intro j hj
  match j, hj with
  | 0, _ => rfl
  | 1, _ => rfl
  | 2, _ => rfl
  | k + 3, hj => exact absurd hj (by omega)
set_option maxRecDepth 100000 in
theorem cy_X1 : c_Y yX1_init cX1_init 2 1 := ⟨(lw_m (lt2 (List.mem_of_getElem? (i := 87) rfl)) rfl), (lw_m (lt1 (List.mem_of_getElem? (i := 10) rfl)) rfl), (lw_m (lt2 (List.mem_of_getElem? (i := 86) rfl)) rfl), rfl, nh_X1.1, nh_X1.2, by decide +kernel⟩
abbrev df_X2 : List Value := [.null, .null, .null, .null, .null, .null, .int 0, .int 0]
theorem dfX2_ok : ∀ j, j < 8 → defaultValue (tyX2 j) = vp_V df_X2 j := by
  intro j hj
  match j, hj with
  | 0, _ => rfl
  | 1, _ => rfl
  | 2, _ => rfl
  | 3, _ => rfl
  | 4, _ => rfl
  | 5, _ => rfl
  | 6, _ => rfl
  | 7, _ => rfl
  | k + 8, hj => exact absurd hj (by omega)
set_option maxRecDepth 100000 in
theorem cy_X2 : c_Y yX2_init cX2_init 2 1 := ⟨(lw_m (lt2 (List.mem_of_getElem? (i := 103) rfl)) rfl), (lw_m (lt1 (List.mem_of_getElem? (i := 11) rfl)) rfl), (lw_m (lt2 (List.mem_of_getElem? (i := 102) rfl)) rfl), rfl, nh_X2.1, nh_X2.2, by decide +kernel⟩
abbrev df_X6 : List Value := [.null, .int 0, .int 0, .null, .int 0, .int 0, .int 0, .int 0, .int 0, .int 0, .int 0]
theorem dfX6_ok : ∀ j, j < 11 → defaultValue (tyX6 j) = vp_V df_X6 j := by
  intro j hj
  match j, hj with
  | 0, _ => rfl
  | 1, _ => rfl
  | 2, _ => rfl
  | 3, _ => rfl
  | 4, _ => rfl
  | 5, _ => rfl
  | 6, _ => rfl
  | 7, _ => rfl
  | 8, _ => rfl
  | 9, _ => rfl
  | 10, _ => rfl
  | k + 11, hj => exact absurd hj (by omega)
set_option maxRecDepth 100000 in
theorem cy_X6 : c_Y yX6_init cX6_init 1 0 := ⟨(lw_m (lt1 (List.mem_of_getElem? (i := 34) rfl)) rfl), (lw_m (lt1 (List.mem_of_getElem? (i := 2) rfl)) rfl), (lw_m (lt1 (List.mem_of_getElem? (i := 33) rfl)) rfl), rfl, nh_X6.1, nh_X6.2, by decide +kernel⟩
abbrev df_X11 : List Value := [.null, .int 0, .int 0, .int 0, .null, .null, .null, .null, .null, .null, .null, .null, .null, .null, .null, .null, .null, .null]
theorem dfX11_ok : ∀ j, j < 18 → defaultValue (tyX11 j) = vp_V df_X11 j := by
  intro j hj
  match j, hj with
  | 0, _ => rfl
  | 1, _ => rfl
  | 2, _ => rfl
  | 3, _ => rfl
  | 4, _ => rfl
  | 5, _ => rfl
  | 6, _ => rfl
  | 7, _ => rfl
  | 8, _ => rfl
  | 9, _ => rfl
  | 10, _ => rfl
  | 11, _ => rfl
  | 12, _ => rfl
  | 13, _ => rfl
  | 14, _ => rfl
  | 15, _ => rfl
  | 16, _ => rfl
  | 17, _ => rfl
  | k + 18, hj => exact absurd hj (by omega)
set_option maxRecDepth 100000 in
theorem cy_X11 : c_Y yX11_init cX11_init 2 0 := ⟨(lw_m (lt1 (List.mem_of_getElem? (i := 26) rfl)) rfl), (lw_m (lt1 (List.mem_of_getElem? (i := 1) rfl)) rfl), (lw_m (lt1 (List.mem_of_getElem? (i := 25) rfl)) rfl), rfl, nh_X11.1, nh_X11.2, by decide +kernel⟩
abbrev df_X12 : List Value := [.int 0, .null, .null, .null, .null, .int 0, .null, .int 0, .int 0, .int 0, .int 0, .int 0, .int 0, .int 0, .null, .null, .null, .null, .null, .int 0, .null, .int 0, .int 0, .int 0, .int 0, .int 0, .null, .int 0, .null, .null, .int 0, .int 0, .null, .null, .null, .int 0, .null, .null, .null, .int 0, .int 0, .null, .long 0, .null, .null, .null, .null]
theorem dfX12_ok : ∀ j, j < 47 → defaultValue (tyX12 j) = vp_V df_X12 j := by
  intro j hj
  match j, hj with
  | 0, _ => rfl
  | 1, _ => rfl
  | 2, _ => rfl
  | 3, _ => rfl
  | 4, _ => rfl
  | 5, _ => rfl
  | 6, _ => rfl
  | 7, _ => rfl
  | 8, _ => rfl
  | 9, _ => rfl
  | 10, _ => rfl
  | 11, _ => rfl
  | 12, _ => rfl
  | 13, _ => rfl
  | 14, _ => rfl
  | 15, _ => rfl
  | 16, _ => rfl
  | 17, _ => rfl
  | 18, _ => rfl
  | 19, _ => rfl
  | 20, _ => rfl
  | 21, _ => rfl
  | 22, _ => rfl
  | 23, _ => rfl
  | 24, _ => rfl
  | 25, _ => rfl
  | 26, _ => rfl
  | 27, _ => rfl
  | 28, _ => rfl
  | 29, _ => rfl
  | 30, _ => rfl
  | 31, _ => rfl
  | 32, _ => rfl
  | 33, _ => rfl
  | 34, _ => rfl
  | 35, _ => rfl
  | 36, _ => rfl
  | 37, _ => rfl
  | 38, _ => rfl
  | 39, _ => rfl
  | 40, _ => rfl
  | 41, _ => rfl
  | 42, _ => rfl
  | 43, _ => rfl
  | 44, _ => rfl
  | 45, _ => rfl
  | 46, _ => rfl
  | k + 47, hj => exact absurd hj (by omega)
set_option maxRecDepth 100000 in
theorem cy_X12 : c_Y yX12_init cX12_init 1 0 := ⟨(lw_m (lt6 (List.mem_of_getElem? (i := 145) rfl)) rfl), (lw_m (lt1 (List.mem_of_getElem? (i := 14) rfl)) rfl), (lw_m (lt6 (List.mem_of_getElem? (i := 144) rfl)) rfl), rfl, nh_X12.1, nh_X12.2, by decide +kernel⟩
set_option maxHeartbeats 4000000 in
set_option maxRecDepth 100000 in
theorem c_fill_loop {κ : sm_X} {M tl : List va_E} {d m0 j n : Nat} {f : Nat → Int32} {x : Int32} (hn : n < 2 ^ 31) (C : tC κ "java/util/Arrays" cJ7_fill_53178 4 d m0) (hj : tl[j]? = some (.inl ((xo κ).2.2.1 20, n, .inl f)))
    (hret : ∀ (cs ss pc : Nat) (L : List (Option Value)), cs = 0 → ss = 0 → decode cJ7_fill_53178 pc = .ok (.return_, 1) → tT κ cs ss pc L [] (M ++ tl.set j (.inl ((xo κ).2.2.1 20, n, .inl (fun i => if i < n then x else f i))))) :
    ∀ (r k : Nat), k + r = n → tT κ 0 0 5 [some (xad κ (M.length + j)), some (.int x), some (.int (nI k)), some (.int (nI n))] [] (M ++ tl.set j (.inl ((xo κ).2.2.1 20, n, .inl (fun i => if i < k then x else f i)))) := by
  have hjl : j < tl.length := (List.getElem?_eq_some_iff.mp hj).1
  intro r
  induction r with
  | zero =>
    intro k hk
    have hk : k = n := by omega
    subst hk
    refine tc_iload_n (i := 2) (q := 6) C (show decode cJ7_fill_53178 5 = .ok (.iload_n 2, 1) from by decide +kernel) rfl rfl rfl ?_
    refine tc_iload_n (i := 3) (q := 7) C (show decode cJ7_fill_53178 6 = .ok (.iload_n 3, 1) from by decide +kernel) rfl rfl rfl ?_
    refine tc_geT (q := 20) C (show decode cJ7_fill_53178 7 = .ok (.if_icmp .ge 13, 3) from by decide +kernel) (by decide) (nI_le (Nat.le_refl _) hn) ?_
    exact hret _ _ _ _ rfl rfl (show decode cJ7_fill_53178 20 = .ok (.return_, 1) from by decide +kernel)
  | succ r ih =>
    intro k hk
    refine tc_iload_n (i := 2) (q := 6) C (show decode cJ7_fill_53178 5 = .ok (.iload_n 2, 1) from by decide +kernel) rfl rfl rfl ?_
    refine tc_iload_n (i := 3) (q := 7) C (show decode cJ7_fill_53178 6 = .ok (.iload_n 3, 1) from by decide +kernel) rfl rfl rfl ?_
    refine tc_geF (q := 10) C 20 (show decode cJ7_fill_53178 7 = .ok (.if_icmp .ge 13, 3) from by decide +kernel) (by decide) (nI_ge (by omega) hn) rfl ?_
    refine tc_aload_n (i := 0) (q := 11) C (show decode cJ7_fill_53178 10 = .ok (.aload_n 0, 1) from by decide +kernel) rfl rfl rfl ?_
    refine tc_iload_n (i := 2) (q := 12) C (show decode cJ7_fill_53178 11 = .ok (.iload_n 2, 1) from by decide +kernel) rfl rfl rfl ?_
    refine tc_iload_n (i := 1) (q := 13) C (show decode cJ7_fill_53178 12 = .ok (.iload_n 1, 1) from by decide +kernel) rfl rfl rfl ?_
    have e : upd (fun i => if i < k then x else f i) (nI k).toNatClampNeg x = fun i => if i < k + 1 then x else f i := by
      rw [nI_clamp (by omega)]
      funext i
      unfold upd
      by_cases h1 : i = k
      · simp [h1]
      · by_cases h2 : i < k
        · simp [h1, h2, Nat.lt_succ_of_lt h2]
        · simp [h1, h2, show ¬ i < k + 1 by omega]
    refine tc_iast (j := j) (n := n) (q := 14) (f := fun i => if i < k then x else f i) (f' := fun i => if i < k + 1 then x else f i) (tl' := tl.set j (.inl ((xo κ).2.2.1 20, n, .inl (fun i => if i < k + 1 then x else f i)))) C (List.getElem?_set_self hjl) (vp_in_nI (by omega) hn) e (by rw [List.set_set]) (show decode cJ7_fill_53178 13 = .ok (.iastore, 1) from by decide +kernel) rfl ?_
    refine tc_iinc (v := nI (k + 1)) (L' := [some (xad κ (M.length + j)), some (.int x), some (.int (nI (k + 1))), some (.int (nI n))]) (q := 17) C (show decode cJ7_fill_53178 14 = .ok (.iinc 2 1, 3) from by decide +kernel) rfl (nI_1 k) (by decide) rfl rfl ?_
    refine tc_goto (q := 5) C (show decode cJ7_fill_53178 17 = .ok (.goto (-12), 3) from by decide +kernel) (by decide) ?_
    exact ih (k + 1) (by omega)
set_option maxHeartbeats 4000000 in
set_option maxRecDepth 100000 in
theorem c_fill (ω : sm_O) {M tl : List va_E} {j n : Nat} {f : Nat → Int32} (x : Int32) (hn : n < 2 ^ 31) (hj : tl[j]? = some (.inl (ω.2.2.1 20, n, .inl f))) (l : Launch) : Met l yJ7_fill_53178 (Cond.code yJ7_fill_53178 cJ7_fill_53178 4 none :: lw_w) (c_rm 1 0 0) (cPc ω (M ++ tl) [.ref (ω.1 + (M.length + j)), .int x]) (cQc ω (M ++ tl.set j (.inl (ω.2.2.1 20, n, .inl (fun i => if i < n then x else f i))))) 0 0 (sm_A ω) := by
  refine c_conG (by decide) (Nat.le_of_ble_eq_true rfl) ?_ l
  intro κ hκ hR hnm C hret
  subst hκ
  show tT κ 0 0 0 [some (xad κ (M.length + j)), some (.int x), none, none] [] (M ++ tl)
  have hself : tl.set j (.inl ((xo κ).2.2.1 20, n, .inl (fun i => if i < 0 then x else f i))) = tl := by
    have : (fun i => if i < 0 then x else f i) = f := by funext i; simp
    rw [this]
    apply List.ext_getElem?
    intro i
    by_cases hi : i = j
    · subst hi
      rw [List.getElem?_set_self (List.getElem?_eq_some_iff.mp hj).1, hj]
    · rw [List.getElem?_set_ne (fun z => hi z.symm)]
  refine tc_iconst (v := (0 : Int32)) (q := 1) C (show decode cJ7_fill_53178 0 = .ok (.iconst 0, 1) from by decide +kernel) (by decide) rfl ?_
  refine tc_istore_n (i := 2) (L' := [some (xad κ (M.length + j)), some (.int x), some (.int (0 : Int32)), none]) (q := 2) C (show decode cJ7_fill_53178 1 = .ok (.istore_n 2, 1) from by decide +kernel) rfl (by decide) rfl rfl ?_
  refine tc_aload_n (i := 0) (q := 3) C (show decode cJ7_fill_53178 2 = .ok (.aload_n 0, 1) from by decide +kernel) rfl rfl rfl ?_
  refine tc_alen (j := j) (n := n) (f := f) (q := 4) C hj (show decode cJ7_fill_53178 3 = .ok (.arraylength, 1) from by decide +kernel) rfl ?_
  refine tc_istore_n (i := 3) (L' := [some (xad κ (M.length + j)), some (.int x), some (.int (0 : Int32)), some (.int (nI n))]) (q := 5) C (show decode cJ7_fill_53178 4 = .ok (.istore_n 3, 1) from by decide +kernel) rfl (by decide) rfl rfl ?_
  have key := c_fill_loop (x := x) hn C hj hret n 0 (by omega)
  rw [hself] at key
  exact key
def tl_X8 (ω : sm_O) (n : Nat) : List va_E := [.inr (8, [.int 0, .int 0, .int 0, .ref (ω.1 + (n + 1))]), .inl (ω.2.2.1 23, 60, .inr (.inl (fun _ => 0)))]
set_option maxHeartbeats 16000000 in
set_option maxRecDepth 100000 in
theorem ci_X8 (ω : sm_O) (M : List va_E) (n : Nat) (hn : M.length = n) : cMt 1 1 60 yX8_init cX8_init 1 ω M (.inr (8, df_X8)) [] (tl_X8 ω n) := by
  subst hn
  refine c_con (by decide) rfl (Nat.le_of_ble_eq_true rfl) ?_
  intro κ hκ hRc hRs hini0 C hret
  subst hκ
  show tT κ 0 0 0 [some (xad κ (M.length + 0))] [] (M ++ [.inr (8, [.int 0, .int 0, .int 0, .null])])
  refine tc_aload_n (i := 0) (q := 1) C (show decode cX8_init 0 = .ok (.aload_n 0, 1) from by decide +kernel) rfl rfl rfl ?_
  refine tc_obj (q := 4) C ((lw_m (lt2 (List.mem_of_getElem? (i := 184) rfl)) rfl)) ((lw_m (lt1 (List.mem_of_getElem? (i := 28) rfl)) rfl)) ((lw_m (lt1 (List.mem_of_getElem? (i := 29) rfl)) rfl)) (by decide) (Nat.le_of_ble_eq_true rfl) (show decode cX8_init 1 = .ok (.invokespecial 3, 3) from by decide +kernel) rfl ?_
  refine tc_aload_n (i := 0) (q := 5) C (show decode cX8_init 4 = .ok (.aload_n 0, 1) from by decide +kernel) rfl rfl rfl ?_
  refine tc_bipush (v := (60 : Int32)) (q := 7) C (show decode cX8_init 5 = .ok (.bipush 60, 2) from by decide +kernel) (by decide) rfl ?_
  refine tc_newJ (j := 1) (n := 60) (tl' := [.inr (8, [.int 0, .int 0, .int 0, .null]), .inl ((xo κ).2.2.1 23, 60, .inr (.inl (fun _ => 0)))]) (q := 9) C (lw_m (lt2 (List.mem_of_getElem? (i := 203) rfl)) rfl) (by decide) (by decide) (by decide) (by omega) (by omega) (by omega) (show decode cX8_init 7 = .ok (.newarray .long, 2) from by decide +kernel) rfl rfl rfl ?_
  refine tc_put (ci := 8) (k := 3) (j := 0) (tl' := [.inr (8, [.int 0, .int 0, .int 0, .ref ((xo κ).1 + (M.length + 1))]), .inl ((xo κ).2.2.1 23, 60, .inr (.inl (fun _ => 0)))]) (q := 12) C hini0 rfl (by decide) ((lw_m (lt2 (List.mem_of_getElem? (i := 191) rfl)) rfl)) rfl (tyX8_ok 3 (by decide)) rfl rfl rfl (Nat.le_of_ble_eq_true rfl) rfl (show decode cX8_init 9 = .ok (.putfield 9, 3) from by decide +kernel) rfl ?_
  exact hret _ _ _ _ (by decide) (by decide) (show decode cX8_init 12 = .ok (.return_, 1) from by decide +kernel)
def tl_X4 (ω : sm_O) (n : Nat) : List va_E := [.inr (4, [.int 0, .int 0, .int 0, .int 0, .int 0, .ref (ω.1 + (n + 1)), .ref (ω.1 + (n + 2)), .ref (ω.1 + (n + 3)), .ref (ω.1 + (n + 4)), .ref (ω.1 + (n + 5))]), .inl (ω.2.2.1 20, 25, .inl (fun _ => 0)), .inl (ω.2.2.1 20, 25, .inl (fun _ => 0)), .inl (ω.2.2.1 20, 25, .inl (fun _ => 0)), .inl (ω.2.2.1 20, 625, .inl (fun _ => 0)), .inl (ω.2.2.1 20, 25, .inl (fun _ => 0))]
set_option maxHeartbeats 16000000 in
set_option maxRecDepth 100000 in
theorem ci_X4 (ω : sm_O) (M : List va_E) (n : Nat) (hn : M.length = n) : cMt 1 5 725 yX4_init cX4_init 1 ω M (.inr (4, df_X4)) [] (tl_X4 ω n) := by
  subst hn
  refine c_con (by decide) rfl (Nat.le_of_ble_eq_true rfl) ?_
  intro κ hκ hRc hRs hini0 C hret
  subst hκ
  show tT κ 0 0 0 [some (xad κ (M.length + 0))] [] (M ++ [.inr (4, [.int 0, .int 0, .int 0, .int 0, .int 0, .null, .null, .null, .null, .null])])
  refine tc_aload_n (i := 0) (q := 1) C (show decode cX4_init 0 = .ok (.aload_n 0, 1) from by decide +kernel) rfl rfl rfl ?_
  refine tc_obj (q := 4) C ((lw_m (lt2 (List.mem_of_getElem? (i := 110) rfl)) rfl)) ((lw_m (lt1 (List.mem_of_getElem? (i := 28) rfl)) rfl)) ((lw_m (lt1 (List.mem_of_getElem? (i := 29) rfl)) rfl)) (by decide) (Nat.le_of_ble_eq_true rfl) (show decode cX4_init 1 = .ok (.invokespecial 3, 3) from by decide +kernel) rfl ?_
  refine tc_aload_n (i := 0) (q := 5) C (show decode cX4_init 4 = .ok (.aload_n 0, 1) from by decide +kernel) rfl rfl rfl ?_
  refine tc_bipush (v := (25 : Int32)) (q := 7) C (show decode cX4_init 5 = .ok (.bipush 25, 2) from by decide +kernel) (by decide) rfl ?_
  refine tc_newI (j := 1) (n := 25) (tl' := [.inr (4, [.int 0, .int 0, .int 0, .int 0, .int 0, .null, .null, .null, .null, .null]), .inl ((xo κ).2.2.1 20, 25, .inl (fun _ => 0))]) (q := 9) C (lw_m (lt1 (List.mem_of_getElem? (i := 148) rfl)) rfl) (by decide) (by decide) (by decide) (by omega) (by omega) (by omega) (show decode cX4_init 7 = .ok (.newarray .int, 2) from by decide +kernel) rfl rfl rfl ?_
  refine tc_put (ci := 4) (k := 5) (j := 0) (tl' := [.inr (4, [.int 0, .int 0, .int 0, .int 0, .int 0, .ref ((xo κ).1 + (M.length + 1)), .null, .null, .null, .null]), .inl ((xo κ).2.2.1 20, 25, .inl (fun _ => 0))]) (q := 12) C hini0 rfl (by decide) ((lw_m (lt2 (List.mem_of_getElem? (i := 121) rfl)) rfl)) rfl (tyX4_ok 5 (by decide)) rfl rfl rfl (Nat.le_of_ble_eq_true rfl) rfl (show decode cX4_init 9 = .ok (.putfield 11, 3) from by decide +kernel) rfl ?_
  refine tc_aload_n (i := 0) (q := 13) C (show decode cX4_init 12 = .ok (.aload_n 0, 1) from by decide +kernel) rfl rfl rfl ?_
  refine tc_bipush (v := (25 : Int32)) (q := 15) C (show decode cX4_init 13 = .ok (.bipush 25, 2) from by decide +kernel) (by decide) rfl ?_
  refine tc_newI (j := 2) (n := 25) (tl' := [.inr (4, [.int 0, .int 0, .int 0, .int 0, .int 0, .ref ((xo κ).1 + (M.length + 1)), .null, .null, .null, .null]), .inl ((xo κ).2.2.1 20, 25, .inl (fun _ => 0)), .inl ((xo κ).2.2.1 20, 25, .inl (fun _ => 0))]) (q := 17) C (lw_m (lt1 (List.mem_of_getElem? (i := 148) rfl)) rfl) (by decide) (by decide) (by decide) (by omega) (by omega) (by omega) (show decode cX4_init 15 = .ok (.newarray .int, 2) from by decide +kernel) rfl rfl rfl ?_
  refine tc_put (ci := 4) (k := 6) (j := 0) (tl' := [.inr (4, [.int 0, .int 0, .int 0, .int 0, .int 0, .ref ((xo κ).1 + (M.length + 1)), .ref ((xo κ).1 + (M.length + 2)), .null, .null, .null]), .inl ((xo κ).2.2.1 20, 25, .inl (fun _ => 0)), .inl ((xo κ).2.2.1 20, 25, .inl (fun _ => 0))]) (q := 20) C hini0 rfl (by decide) ((lw_m (lt2 (List.mem_of_getElem? (i := 123) rfl)) rfl)) rfl (tyX4_ok 6 (by decide)) rfl rfl rfl (Nat.le_of_ble_eq_true rfl) rfl (show decode cX4_init 17 = .ok (.putfield 15, 3) from by decide +kernel) rfl ?_
  refine tc_aload_n (i := 0) (q := 21) C (show decode cX4_init 20 = .ok (.aload_n 0, 1) from by decide +kernel) rfl rfl rfl ?_
  refine tc_bipush (v := (25 : Int32)) (q := 23) C (show decode cX4_init 21 = .ok (.bipush 25, 2) from by decide +kernel) (by decide) rfl ?_
  refine tc_newI (j := 3) (n := 25) (tl' := [.inr (4, [.int 0, .int 0, .int 0, .int 0, .int 0, .ref ((xo κ).1 + (M.length + 1)), .ref ((xo κ).1 + (M.length + 2)), .null, .null, .null]), .inl ((xo κ).2.2.1 20, 25, .inl (fun _ => 0)), .inl ((xo κ).2.2.1 20, 25, .inl (fun _ => 0)), .inl ((xo κ).2.2.1 20, 25, .inl (fun _ => 0))]) (q := 25) C (lw_m (lt1 (List.mem_of_getElem? (i := 148) rfl)) rfl) (by decide) (by decide) (by decide) (by omega) (by omega) (by omega) (show decode cX4_init 23 = .ok (.newarray .int, 2) from by decide +kernel) rfl rfl rfl ?_
  refine tc_put (ci := 4) (k := 7) (j := 0) (tl' := [.inr (4, [.int 0, .int 0, .int 0, .int 0, .int 0, .ref ((xo κ).1 + (M.length + 1)), .ref ((xo κ).1 + (M.length + 2)), .ref ((xo κ).1 + (M.length + 3)), .null, .null]), .inl ((xo κ).2.2.1 20, 25, .inl (fun _ => 0)), .inl ((xo κ).2.2.1 20, 25, .inl (fun _ => 0)), .inl ((xo κ).2.2.1 20, 25, .inl (fun _ => 0))]) (q := 28) C hini0 rfl (by decide) ((lw_m (lt2 (List.mem_of_getElem? (i := 125) rfl)) rfl)) rfl (tyX4_ok 7 (by decide)) rfl rfl rfl (Nat.le_of_ble_eq_true rfl) rfl (show decode cX4_init 25 = .ok (.putfield 18, 3) from by decide +kernel) rfl ?_
  refine tc_aload_n (i := 0) (q := 29) C (show decode cX4_init 28 = .ok (.aload_n 0, 1) from by decide +kernel) rfl rfl rfl ?_
  refine tc_sipush (v := (625 : Int32)) (q := 32) C (show decode cX4_init 29 = .ok (.sipush 625, 3) from by decide +kernel) (by decide) rfl ?_
  refine tc_newI (j := 4) (n := 625) (tl' := [.inr (4, [.int 0, .int 0, .int 0, .int 0, .int 0, .ref ((xo κ).1 + (M.length + 1)), .ref ((xo κ).1 + (M.length + 2)), .ref ((xo κ).1 + (M.length + 3)), .null, .null]), .inl ((xo κ).2.2.1 20, 25, .inl (fun _ => 0)), .inl ((xo κ).2.2.1 20, 25, .inl (fun _ => 0)), .inl ((xo κ).2.2.1 20, 25, .inl (fun _ => 0)), .inl ((xo κ).2.2.1 20, 625, .inl (fun _ => 0))]) (q := 34) C (lw_m (lt1 (List.mem_of_getElem? (i := 148) rfl)) rfl) (by decide) (by decide) (by decide) (by omega) (by omega) (by omega) (show decode cX4_init 32 = .ok (.newarray .int, 2) from by decide +kernel) rfl rfl rfl ?_
  refine tc_put (ci := 4) (k := 8) (j := 0) (tl' := [.inr (4, [.int 0, .int 0, .int 0, .int 0, .int 0, .ref ((xo κ).1 + (M.length + 1)), .ref ((xo κ).1 + (M.length + 2)), .ref ((xo κ).1 + (M.length + 3)), .ref ((xo κ).1 + (M.length + 4)), .null]), .inl ((xo κ).2.2.1 20, 25, .inl (fun _ => 0)), .inl ((xo κ).2.2.1 20, 25, .inl (fun _ => 0)), .inl ((xo κ).2.2.1 20, 25, .inl (fun _ => 0)), .inl ((xo κ).2.2.1 20, 625, .inl (fun _ => 0))]) (q := 37) C hini0 rfl (by decide) ((lw_m (lt2 (List.mem_of_getElem? (i := 127) rfl)) rfl)) rfl (tyX4_ok 8 (by decide)) rfl rfl rfl (Nat.le_of_ble_eq_true rfl) rfl (show decode cX4_init 34 = .ok (.putfield 21, 3) from by decide +kernel) rfl ?_
  refine tc_aload_n (i := 0) (q := 38) C (show decode cX4_init 37 = .ok (.aload_n 0, 1) from by decide +kernel) rfl rfl rfl ?_
  refine tc_bipush (v := (25 : Int32)) (q := 40) C (show decode cX4_init 38 = .ok (.bipush 25, 2) from by decide +kernel) (by decide) rfl ?_
  refine tc_newI (j := 5) (n := 25) (tl' := [.inr (4, [.int 0, .int 0, .int 0, .int 0, .int 0, .ref ((xo κ).1 + (M.length + 1)), .ref ((xo κ).1 + (M.length + 2)), .ref ((xo κ).1 + (M.length + 3)), .ref ((xo κ).1 + (M.length + 4)), .null]), .inl ((xo κ).2.2.1 20, 25, .inl (fun _ => 0)), .inl ((xo κ).2.2.1 20, 25, .inl (fun _ => 0)), .inl ((xo κ).2.2.1 20, 25, .inl (fun _ => 0)), .inl ((xo κ).2.2.1 20, 625, .inl (fun _ => 0)), .inl ((xo κ).2.2.1 20, 25, .inl (fun _ => 0))]) (q := 42) C (lw_m (lt1 (List.mem_of_getElem? (i := 148) rfl)) rfl) (by decide) (by decide) (by decide) (by omega) (by omega) (by omega) (show decode cX4_init 40 = .ok (.newarray .int, 2) from by decide +kernel) rfl rfl rfl ?_
  refine tc_put (ci := 4) (k := 9) (j := 0) (tl' := [.inr (4, [.int 0, .int 0, .int 0, .int 0, .int 0, .ref ((xo κ).1 + (M.length + 1)), .ref ((xo κ).1 + (M.length + 2)), .ref ((xo κ).1 + (M.length + 3)), .ref ((xo κ).1 + (M.length + 4)), .ref ((xo κ).1 + (M.length + 5))]), .inl ((xo κ).2.2.1 20, 25, .inl (fun _ => 0)), .inl ((xo κ).2.2.1 20, 25, .inl (fun _ => 0)), .inl ((xo κ).2.2.1 20, 25, .inl (fun _ => 0)), .inl ((xo κ).2.2.1 20, 625, .inl (fun _ => 0)), .inl ((xo κ).2.2.1 20, 25, .inl (fun _ => 0))]) (q := 45) C hini0 rfl (by decide) ((lw_m (lt2 (List.mem_of_getElem? (i := 129) rfl)) rfl)) rfl (tyX4_ok 9 (by decide)) rfl rfl rfl (Nat.le_of_ble_eq_true rfl) rfl (show decode cX4_init 42 = .ok (.putfield 24, 3) from by decide +kernel) rfl ?_
  exact hret _ _ _ _ (by decide) (by decide) (show decode cX4_init 45 = .ok (.return_, 1) from by decide +kernel)
def tl_X7 (ω : sm_O) (n : Nat) : List va_E := [.inr (7, [.int 0, .int 0, .int 0, .int 0, .int 0, .int 0, .int 0, .int 0, .ref (ω.1 + (n + 1)), .ref (ω.1 + (n + 2)), .ref (ω.1 + (n + 3)), .ref (ω.1 + (n + 4)), .ref (ω.1 + (n + 5)), .ref (ω.1 + (n + 6)), .ref (ω.1 + (n + 7)), .ref (ω.1 + (n + 8)), .ref (ω.1 + (n + 9))]), .inl (ω.2.2.1 20, 24, .inl (fun _ => 0)), .inl (ω.2.2.1 20, 24, .inl (fun _ => 0)), .inl (ω.2.2.1 20, 24, .inl (fun _ => 0)), .inl (ω.2.2.1 20, 24, .inl (fun _ => 0)), .inl (ω.2.2.1 20, 24, .inl (fun _ => 0)), .inl (ω.2.2.1 20, 8, .inl (fun _ => 0)), .inl (ω.2.2.1 20, 8, .inl (fun _ => 0)), .inl (ω.2.2.1 20, 8, .inl (fun _ => 0)), .inl (ω.2.2.1 20, 8, .inl (fun _ => 0))]
set_option maxHeartbeats 16000000 in
set_option maxRecDepth 100000 in
theorem ci_X7 (ω : sm_O) (M : List va_E) (n : Nat) (hn : M.length = n) : cMt 1 9 152 yX7_init cX7_init 1 ω M (.inr (7, df_X7)) [] (tl_X7 ω n) := by
  subst hn
  refine c_con (by decide) rfl (Nat.le_of_ble_eq_true rfl) ?_
  intro κ hκ hRc hRs hini0 C hret
  subst hκ
  show tT κ 0 0 0 [some (xad κ (M.length + 0))] [] (M ++ [.inr (7, [.int 0, .int 0, .int 0, .int 0, .int 0, .int 0, .int 0, .int 0, .null, .null, .null, .null, .null, .null, .null, .null, .null])])
  refine tc_aload_n (i := 0) (q := 1) C (show decode cX7_init 0 = .ok (.aload_n 0, 1) from by decide +kernel) rfl rfl rfl ?_
  refine tc_obj (q := 4) C ((lw_m (lt1 (List.mem_of_getElem? (i := 41) rfl)) rfl)) ((lw_m (lt1 (List.mem_of_getElem? (i := 28) rfl)) rfl)) ((lw_m (lt1 (List.mem_of_getElem? (i := 29) rfl)) rfl)) (by decide) (Nat.le_of_ble_eq_true rfl) (show decode cX7_init 1 = .ok (.invokespecial 3, 3) from by decide +kernel) rfl ?_
  refine tc_aload_n (i := 0) (q := 5) C (show decode cX7_init 4 = .ok (.aload_n 0, 1) from by decide +kernel) rfl rfl rfl ?_
  refine tc_bipush (v := (24 : Int32)) (q := 7) C (show decode cX7_init 5 = .ok (.bipush 24, 2) from by decide +kernel) (by decide) rfl ?_
  refine tc_newI (j := 1) (n := 24) (tl' := [.inr (7, [.int 0, .int 0, .int 0, .int 0, .int 0, .int 0, .int 0, .int 0, .null, .null, .null, .null, .null, .null, .null, .null, .null]), .inl ((xo κ).2.2.1 20, 24, .inl (fun _ => 0))]) (q := 9) C (lw_m (lt1 (List.mem_of_getElem? (i := 148) rfl)) rfl) (by decide) (by decide) (by decide) (by omega) (by omega) (by omega) (show decode cX7_init 7 = .ok (.newarray .int, 2) from by decide +kernel) rfl rfl rfl ?_
  refine tc_put (ci := 7) (k := 8) (j := 0) (tl' := [.inr (7, [.int 0, .int 0, .int 0, .int 0, .int 0, .int 0, .int 0, .int 0, .ref ((xo κ).1 + (M.length + 1)), .null, .null, .null, .null, .null, .null, .null, .null]), .inl ((xo κ).2.2.1 20, 24, .inl (fun _ => 0))]) (q := 12) C hini0 rfl (by decide) ((lw_m (lt1 (List.mem_of_getElem? (i := 78) rfl)) rfl)) rfl (tyX7_ok 8 (by decide)) rfl rfl rfl (Nat.le_of_ble_eq_true rfl) rfl (show decode cX7_init 9 = .ok (.putfield 9, 3) from by decide +kernel) rfl ?_
  refine tc_aload_n (i := 0) (q := 13) C (show decode cX7_init 12 = .ok (.aload_n 0, 1) from by decide +kernel) rfl rfl rfl ?_
  refine tc_bipush (v := (24 : Int32)) (q := 15) C (show decode cX7_init 13 = .ok (.bipush 24, 2) from by decide +kernel) (by decide) rfl ?_
  refine tc_newI (j := 2) (n := 24) (tl' := [.inr (7, [.int 0, .int 0, .int 0, .int 0, .int 0, .int 0, .int 0, .int 0, .ref ((xo κ).1 + (M.length + 1)), .null, .null, .null, .null, .null, .null, .null, .null]), .inl ((xo κ).2.2.1 20, 24, .inl (fun _ => 0)), .inl ((xo κ).2.2.1 20, 24, .inl (fun _ => 0))]) (q := 17) C (lw_m (lt1 (List.mem_of_getElem? (i := 148) rfl)) rfl) (by decide) (by decide) (by decide) (by omega) (by omega) (by omega) (show decode cX7_init 15 = .ok (.newarray .int, 2) from by decide +kernel) rfl rfl rfl ?_
  refine tc_put (ci := 7) (k := 9) (j := 0) (tl' := [.inr (7, [.int 0, .int 0, .int 0, .int 0, .int 0, .int 0, .int 0, .int 0, .ref ((xo κ).1 + (M.length + 1)), .ref ((xo κ).1 + (M.length + 2)), .null, .null, .null, .null, .null, .null, .null]), .inl ((xo κ).2.2.1 20, 24, .inl (fun _ => 0)), .inl ((xo κ).2.2.1 20, 24, .inl (fun _ => 0))]) (q := 20) C hini0 rfl (by decide) ((lw_m (lt1 (List.mem_of_getElem? (i := 82) rfl)) rfl)) rfl (tyX7_ok 9 (by decide)) rfl rfl rfl (Nat.le_of_ble_eq_true rfl) rfl (show decode cX7_init 17 = .ok (.putfield 15, 3) from by decide +kernel) rfl ?_
  refine tc_aload_n (i := 0) (q := 21) C (show decode cX7_init 20 = .ok (.aload_n 0, 1) from by decide +kernel) rfl rfl rfl ?_
  refine tc_bipush (v := (24 : Int32)) (q := 23) C (show decode cX7_init 21 = .ok (.bipush 24, 2) from by decide +kernel) (by decide) rfl ?_
  refine tc_newI (j := 3) (n := 24) (tl' := [.inr (7, [.int 0, .int 0, .int 0, .int 0, .int 0, .int 0, .int 0, .int 0, .ref ((xo κ).1 + (M.length + 1)), .ref ((xo κ).1 + (M.length + 2)), .null, .null, .null, .null, .null, .null, .null]), .inl ((xo κ).2.2.1 20, 24, .inl (fun _ => 0)), .inl ((xo κ).2.2.1 20, 24, .inl (fun _ => 0)), .inl ((xo κ).2.2.1 20, 24, .inl (fun _ => 0))]) (q := 25) C (lw_m (lt1 (List.mem_of_getElem? (i := 148) rfl)) rfl) (by decide) (by decide) (by decide) (by omega) (by omega) (by omega) (show decode cX7_init 23 = .ok (.newarray .int, 2) from by decide +kernel) rfl rfl rfl ?_
  refine tc_put (ci := 7) (k := 10) (j := 0) (tl' := [.inr (7, [.int 0, .int 0, .int 0, .int 0, .int 0, .int 0, .int 0, .int 0, .ref ((xo κ).1 + (M.length + 1)), .ref ((xo κ).1 + (M.length + 2)), .ref ((xo κ).1 + (M.length + 3)), .null, .null, .null, .null, .null, .null]), .inl ((xo κ).2.2.1 20, 24, .inl (fun _ => 0)), .inl ((xo κ).2.2.1 20, 24, .inl (fun _ => 0)), .inl ((xo κ).2.2.1 20, 24, .inl (fun _ => 0))]) (q := 28) C hini0 rfl (by decide) ((lw_m (lt1 (List.mem_of_getElem? (i := 87) rfl)) rfl)) rfl (tyX7_ok 10 (by decide)) rfl rfl rfl (Nat.le_of_ble_eq_true rfl) rfl (show decode cX7_init 25 = .ok (.putfield 18, 3) from by decide +kernel) rfl ?_
  refine tc_aload_n (i := 0) (q := 29) C (show decode cX7_init 28 = .ok (.aload_n 0, 1) from by decide +kernel) rfl rfl rfl ?_
  refine tc_bipush (v := (24 : Int32)) (q := 31) C (show decode cX7_init 29 = .ok (.bipush 24, 2) from by decide +kernel) (by decide) rfl ?_
  refine tc_newI (j := 4) (n := 24) (tl' := [.inr (7, [.int 0, .int 0, .int 0, .int 0, .int 0, .int 0, .int 0, .int 0, .ref ((xo κ).1 + (M.length + 1)), .ref ((xo κ).1 + (M.length + 2)), .ref ((xo κ).1 + (M.length + 3)), .null, .null, .null, .null, .null, .null]), .inl ((xo κ).2.2.1 20, 24, .inl (fun _ => 0)), .inl ((xo κ).2.2.1 20, 24, .inl (fun _ => 0)), .inl ((xo κ).2.2.1 20, 24, .inl (fun _ => 0)), .inl ((xo κ).2.2.1 20, 24, .inl (fun _ => 0))]) (q := 33) C (lw_m (lt1 (List.mem_of_getElem? (i := 148) rfl)) rfl) (by decide) (by decide) (by decide) (by omega) (by omega) (by omega) (show decode cX7_init 31 = .ok (.newarray .int, 2) from by decide +kernel) rfl rfl rfl ?_
  refine tc_put (ci := 7) (k := 11) (j := 0) (tl' := [.inr (7, [.int 0, .int 0, .int 0, .int 0, .int 0, .int 0, .int 0, .int 0, .ref ((xo κ).1 + (M.length + 1)), .ref ((xo κ).1 + (M.length + 2)), .ref ((xo κ).1 + (M.length + 3)), .ref ((xo κ).1 + (M.length + 4)), .null, .null, .null, .null, .null]), .inl ((xo κ).2.2.1 20, 24, .inl (fun _ => 0)), .inl ((xo κ).2.2.1 20, 24, .inl (fun _ => 0)), .inl ((xo κ).2.2.1 20, 24, .inl (fun _ => 0)), .inl ((xo κ).2.2.1 20, 24, .inl (fun _ => 0))]) (q := 36) C hini0 rfl (by decide) ((lw_m (lt1 (List.mem_of_getElem? (i := 91) rfl)) rfl)) rfl (tyX7_ok 11 (by decide)) rfl rfl rfl (Nat.le_of_ble_eq_true rfl) rfl (show decode cX7_init 33 = .ok (.putfield 21, 3) from by decide +kernel) rfl ?_
  refine tc_aload_n (i := 0) (q := 37) C (show decode cX7_init 36 = .ok (.aload_n 0, 1) from by decide +kernel) rfl rfl rfl ?_
  refine tc_bipush (v := (24 : Int32)) (q := 39) C (show decode cX7_init 37 = .ok (.bipush 24, 2) from by decide +kernel) (by decide) rfl ?_
  refine tc_newI (j := 5) (n := 24) (tl' := [.inr (7, [.int 0, .int 0, .int 0, .int 0, .int 0, .int 0, .int 0, .int 0, .ref ((xo κ).1 + (M.length + 1)), .ref ((xo κ).1 + (M.length + 2)), .ref ((xo κ).1 + (M.length + 3)), .ref ((xo κ).1 + (M.length + 4)), .null, .null, .null, .null, .null]), .inl ((xo κ).2.2.1 20, 24, .inl (fun _ => 0)), .inl ((xo κ).2.2.1 20, 24, .inl (fun _ => 0)), .inl ((xo κ).2.2.1 20, 24, .inl (fun _ => 0)), .inl ((xo κ).2.2.1 20, 24, .inl (fun _ => 0)), .inl ((xo κ).2.2.1 20, 24, .inl (fun _ => 0))]) (q := 41) C (lw_m (lt1 (List.mem_of_getElem? (i := 148) rfl)) rfl) (by decide) (by decide) (by decide) (by omega) (by omega) (by omega) (show decode cX7_init 39 = .ok (.newarray .int, 2) from by decide +kernel) rfl rfl rfl ?_
  refine tc_put (ci := 7) (k := 12) (j := 0) (tl' := [.inr (7, [.int 0, .int 0, .int 0, .int 0, .int 0, .int 0, .int 0, .int 0, .ref ((xo κ).1 + (M.length + 1)), .ref ((xo κ).1 + (M.length + 2)), .ref ((xo κ).1 + (M.length + 3)), .ref ((xo κ).1 + (M.length + 4)), .ref ((xo κ).1 + (M.length + 5)), .null, .null, .null, .null]), .inl ((xo κ).2.2.1 20, 24, .inl (fun _ => 0)), .inl ((xo κ).2.2.1 20, 24, .inl (fun _ => 0)), .inl ((xo κ).2.2.1 20, 24, .inl (fun _ => 0)), .inl ((xo κ).2.2.1 20, 24, .inl (fun _ => 0)), .inl ((xo κ).2.2.1 20, 24, .inl (fun _ => 0))]) (q := 44) C hini0 rfl (by decide) ((lw_m (lt1 (List.mem_of_getElem? (i := 94) rfl)) rfl)) rfl (tyX7_ok 12 (by decide)) rfl rfl rfl (Nat.le_of_ble_eq_true rfl) rfl (show decode cX7_init 41 = .ok (.putfield 24, 3) from by decide +kernel) rfl ?_
  refine tc_aload_n (i := 0) (q := 45) C (show decode cX7_init 44 = .ok (.aload_n 0, 1) from by decide +kernel) rfl rfl rfl ?_
  refine tc_bipush (v := (8 : Int32)) (q := 47) C (show decode cX7_init 45 = .ok (.bipush 8, 2) from by decide +kernel) (by decide) rfl ?_
  refine tc_newI (j := 6) (n := 8) (tl' := [.inr (7, [.int 0, .int 0, .int 0, .int 0, .int 0, .int 0, .int 0, .int 0, .ref ((xo κ).1 + (M.length + 1)), .ref ((xo κ).1 + (M.length + 2)), .ref ((xo κ).1 + (M.length + 3)), .ref ((xo κ).1 + (M.length + 4)), .ref ((xo κ).1 + (M.length + 5)), .null, .null, .null, .null]), .inl ((xo κ).2.2.1 20, 24, .inl (fun _ => 0)), .inl ((xo κ).2.2.1 20, 24, .inl (fun _ => 0)), .inl ((xo κ).2.2.1 20, 24, .inl (fun _ => 0)), .inl ((xo κ).2.2.1 20, 24, .inl (fun _ => 0)), .inl ((xo κ).2.2.1 20, 24, .inl (fun _ => 0)), .inl ((xo κ).2.2.1 20, 8, .inl (fun _ => 0))]) (q := 49) C (lw_m (lt1 (List.mem_of_getElem? (i := 148) rfl)) rfl) (by decide) (by decide) (by decide) (by omega) (by omega) (by omega) (show decode cX7_init 47 = .ok (.newarray .int, 2) from by decide +kernel) rfl rfl rfl ?_
  refine tc_put (ci := 7) (k := 13) (j := 0) (tl' := [.inr (7, [.int 0, .int 0, .int 0, .int 0, .int 0, .int 0, .int 0, .int 0, .ref ((xo κ).1 + (M.length + 1)), .ref ((xo κ).1 + (M.length + 2)), .ref ((xo κ).1 + (M.length + 3)), .ref ((xo κ).1 + (M.length + 4)), .ref ((xo κ).1 + (M.length + 5)), .ref ((xo κ).1 + (M.length + 6)), .null, .null, .null]), .inl ((xo κ).2.2.1 20, 24, .inl (fun _ => 0)), .inl ((xo κ).2.2.1 20, 24, .inl (fun _ => 0)), .inl ((xo κ).2.2.1 20, 24, .inl (fun _ => 0)), .inl ((xo κ).2.2.1 20, 24, .inl (fun _ => 0)), .inl ((xo κ).2.2.1 20, 24, .inl (fun _ => 0)), .inl ((xo κ).2.2.1 20, 8, .inl (fun _ => 0))]) (q := 52) C hini0 rfl (by decide) ((lw_m (lt1 (List.mem_of_getElem? (i := 99) rfl)) rfl)) rfl (tyX7_ok 13 (by decide)) rfl rfl rfl (Nat.le_of_ble_eq_true rfl) rfl (show decode cX7_init 49 = .ok (.putfield 27, 3) from by decide +kernel) rfl ?_
  refine tc_aload_n (i := 0) (q := 53) C (show decode cX7_init 52 = .ok (.aload_n 0, 1) from by decide +kernel) rfl rfl rfl ?_
  refine tc_bipush (v := (8 : Int32)) (q := 55) C (show decode cX7_init 53 = .ok (.bipush 8, 2) from by decide +kernel) (by decide) rfl ?_
  refine tc_newI (j := 7) (n := 8) (tl' := [.inr (7, [.int 0, .int 0, .int 0, .int 0, .int 0, .int 0, .int 0, .int 0, .ref ((xo κ).1 + (M.length + 1)), .ref ((xo κ).1 + (M.length + 2)), .ref ((xo κ).1 + (M.length + 3)), .ref ((xo κ).1 + (M.length + 4)), .ref ((xo κ).1 + (M.length + 5)), .ref ((xo κ).1 + (M.length + 6)), .null, .null, .null]), .inl ((xo κ).2.2.1 20, 24, .inl (fun _ => 0)), .inl ((xo κ).2.2.1 20, 24, .inl (fun _ => 0)), .inl ((xo κ).2.2.1 20, 24, .inl (fun _ => 0)), .inl ((xo κ).2.2.1 20, 24, .inl (fun _ => 0)), .inl ((xo κ).2.2.1 20, 24, .inl (fun _ => 0)), .inl ((xo κ).2.2.1 20, 8, .inl (fun _ => 0)), .inl ((xo κ).2.2.1 20, 8, .inl (fun _ => 0))]) (q := 57) C (lw_m (lt1 (List.mem_of_getElem? (i := 148) rfl)) rfl) (by decide) (by decide) (by decide) (by omega) (by omega) (by omega) (show decode cX7_init 55 = .ok (.newarray .int, 2) from by decide +kernel) rfl rfl rfl ?_
  refine tc_put (ci := 7) (k := 14) (j := 0) (tl' := [.inr (7, [.int 0, .int 0, .int 0, .int 0, .int 0, .int 0, .int 0, .int 0, .ref ((xo κ).1 + (M.length + 1)), .ref ((xo κ).1 + (M.length + 2)), .ref ((xo κ).1 + (M.length + 3)), .ref ((xo κ).1 + (M.length + 4)), .ref ((xo κ).1 + (M.length + 5)), .ref ((xo κ).1 + (M.length + 6)), .ref ((xo κ).1 + (M.length + 7)), .null, .null]), .inl ((xo κ).2.2.1 20, 24, .inl (fun _ => 0)), .inl ((xo κ).2.2.1 20, 24, .inl (fun _ => 0)), .inl ((xo κ).2.2.1 20, 24, .inl (fun _ => 0)), .inl ((xo κ).2.2.1 20, 24, .inl (fun _ => 0)), .inl ((xo κ).2.2.1 20, 24, .inl (fun _ => 0)), .inl ((xo κ).2.2.1 20, 8, .inl (fun _ => 0)), .inl ((xo κ).2.2.1 20, 8, .inl (fun _ => 0))]) (q := 60) C hini0 rfl (by decide) ((lw_m (lt1 (List.mem_of_getElem? (i := 103) rfl)) rfl)) rfl (tyX7_ok 14 (by decide)) rfl rfl rfl (Nat.le_of_ble_eq_true rfl) rfl (show decode cX7_init 57 = .ok (.putfield 30, 3) from by decide +kernel) rfl ?_
  refine tc_aload_n (i := 0) (q := 61) C (show decode cX7_init 60 = .ok (.aload_n 0, 1) from by decide +kernel) rfl rfl rfl ?_
  refine tc_bipush (v := (8 : Int32)) (q := 63) C (show decode cX7_init 61 = .ok (.bipush 8, 2) from by decide +kernel) (by decide) rfl ?_
  refine tc_newI (j := 8) (n := 8) (tl' := [.inr (7, [.int 0, .int 0, .int 0, .int 0, .int 0, .int 0, .int 0, .int 0, .ref ((xo κ).1 + (M.length + 1)), .ref ((xo κ).1 + (M.length + 2)), .ref ((xo κ).1 + (M.length + 3)), .ref ((xo κ).1 + (M.length + 4)), .ref ((xo κ).1 + (M.length + 5)), .ref ((xo κ).1 + (M.length + 6)), .ref ((xo κ).1 + (M.length + 7)), .null, .null]), .inl ((xo κ).2.2.1 20, 24, .inl (fun _ => 0)), .inl ((xo κ).2.2.1 20, 24, .inl (fun _ => 0)), .inl ((xo κ).2.2.1 20, 24, .inl (fun _ => 0)), .inl ((xo κ).2.2.1 20, 24, .inl (fun _ => 0)), .inl ((xo κ).2.2.1 20, 24, .inl (fun _ => 0)), .inl ((xo κ).2.2.1 20, 8, .inl (fun _ => 0)), .inl ((xo κ).2.2.1 20, 8, .inl (fun _ => 0)), .inl ((xo κ).2.2.1 20, 8, .inl (fun _ => 0))]) (q := 65) C (lw_m (lt1 (List.mem_of_getElem? (i := 148) rfl)) rfl) (by decide) (by decide) (by decide) (by omega) (by omega) (by omega) (show decode cX7_init 63 = .ok (.newarray .int, 2) from by decide +kernel) rfl rfl rfl ?_
  refine tc_put (ci := 7) (k := 15) (j := 0) (tl' := [.inr (7, [.int 0, .int 0, .int 0, .int 0, .int 0, .int 0, .int 0, .int 0, .ref ((xo κ).1 + (M.length + 1)), .ref ((xo κ).1 + (M.length + 2)), .ref ((xo κ).1 + (M.length + 3)), .ref ((xo κ).1 + (M.length + 4)), .ref ((xo κ).1 + (M.length + 5)), .ref ((xo κ).1 + (M.length + 6)), .ref ((xo κ).1 + (M.length + 7)), .ref ((xo κ).1 + (M.length + 8)), .null]), .inl ((xo κ).2.2.1 20, 24, .inl (fun _ => 0)), .inl ((xo κ).2.2.1 20, 24, .inl (fun _ => 0)), .inl ((xo κ).2.2.1 20, 24, .inl (fun _ => 0)), .inl ((xo κ).2.2.1 20, 24, .inl (fun _ => 0)), .inl ((xo κ).2.2.1 20, 24, .inl (fun _ => 0)), .inl ((xo κ).2.2.1 20, 8, .inl (fun _ => 0)), .inl ((xo κ).2.2.1 20, 8, .inl (fun _ => 0)), .inl ((xo κ).2.2.1 20, 8, .inl (fun _ => 0))]) (q := 68) C hini0 rfl (by decide) ((lw_m (lt1 (List.mem_of_getElem? (i := 106) rfl)) rfl)) rfl (tyX7_ok 15 (by decide)) rfl rfl rfl (Nat.le_of_ble_eq_true rfl) rfl (show decode cX7_init 65 = .ok (.putfield 33, 3) from by decide +kernel) rfl ?_
  refine tc_aload_n (i := 0) (q := 69) C (show decode cX7_init 68 = .ok (.aload_n 0, 1) from by decide +kernel) rfl rfl rfl ?_
  refine tc_bipush (v := (8 : Int32)) (q := 71) C (show decode cX7_init 69 = .ok (.bipush 8, 2) from by decide +kernel) (by decide) rfl ?_
  refine tc_newI (j := 9) (n := 8) (tl' := [.inr (7, [.int 0, .int 0, .int 0, .int 0, .int 0, .int 0, .int 0, .int 0, .ref ((xo κ).1 + (M.length + 1)), .ref ((xo κ).1 + (M.length + 2)), .ref ((xo κ).1 + (M.length + 3)), .ref ((xo κ).1 + (M.length + 4)), .ref ((xo κ).1 + (M.length + 5)), .ref ((xo κ).1 + (M.length + 6)), .ref ((xo κ).1 + (M.length + 7)), .ref ((xo κ).1 + (M.length + 8)), .null]), .inl ((xo κ).2.2.1 20, 24, .inl (fun _ => 0)), .inl ((xo κ).2.2.1 20, 24, .inl (fun _ => 0)), .inl ((xo κ).2.2.1 20, 24, .inl (fun _ => 0)), .inl ((xo κ).2.2.1 20, 24, .inl (fun _ => 0)), .inl ((xo κ).2.2.1 20, 24, .inl (fun _ => 0)), .inl ((xo κ).2.2.1 20, 8, .inl (fun _ => 0)), .inl ((xo κ).2.2.1 20, 8, .inl (fun _ => 0)), .inl ((xo κ).2.2.1 20, 8, .inl (fun _ => 0)), .inl ((xo κ).2.2.1 20, 8, .inl (fun _ => 0))]) (q := 73) C (lw_m (lt1 (List.mem_of_getElem? (i := 148) rfl)) rfl) (by decide) (by decide) (by decide) (by omega) (by omega) (by omega) (show decode cX7_init 71 = .ok (.newarray .int, 2) from by decide +kernel) rfl rfl rfl ?_
  refine tc_put (ci := 7) (k := 16) (j := 0) (tl' := [.inr (7, [.int 0, .int 0, .int 0, .int 0, .int 0, .int 0, .int 0, .int 0, .ref ((xo κ).1 + (M.length + 1)), .ref ((xo κ).1 + (M.length + 2)), .ref ((xo κ).1 + (M.length + 3)), .ref ((xo κ).1 + (M.length + 4)), .ref ((xo κ).1 + (M.length + 5)), .ref ((xo κ).1 + (M.length + 6)), .ref ((xo κ).1 + (M.length + 7)), .ref ((xo κ).1 + (M.length + 8)), .ref ((xo κ).1 + (M.length + 9))]), .inl ((xo κ).2.2.1 20, 24, .inl (fun _ => 0)), .inl ((xo κ).2.2.1 20, 24, .inl (fun _ => 0)), .inl ((xo κ).2.2.1 20, 24, .inl (fun _ => 0)), .inl ((xo κ).2.2.1 20, 24, .inl (fun _ => 0)), .inl ((xo κ).2.2.1 20, 24, .inl (fun _ => 0)), .inl ((xo κ).2.2.1 20, 8, .inl (fun _ => 0)), .inl ((xo κ).2.2.1 20, 8, .inl (fun _ => 0)), .inl ((xo κ).2.2.1 20, 8, .inl (fun _ => 0)), .inl ((xo κ).2.2.1 20, 8, .inl (fun _ => 0))]) (q := 76) C hini0 rfl (by decide) ((lw_m (lt1 (List.mem_of_getElem? (i := 108) rfl)) rfl)) rfl (tyX7_ok 16 (by decide)) rfl rfl rfl (Nat.le_of_ble_eq_true rfl) rfl (show decode cX7_init 73 = .ok (.putfield 36, 3) from by decide +kernel) rfl ?_
  exact hret _ _ _ _ (by decide) (by decide) (show decode cX7_init 76 = .ok (.return_, 1) from by decide +kernel)
def tl_X9 (ω : sm_O) (n : Nat) (t0 : Nat) : List va_E := [.inr (9, [.ref t0, .int 0, .ref (ω.1 + (n + 1)), .ref (ω.1 + (n + 2)), .ref (ω.1 + (n + 3))]), .inl (ω.2.2.1 20, 24, .inl (fun _ => 0)), .inl (ω.2.2.1 20, 24, .inl (fun _ => 0)), .inl (ω.2.2.1 20, 8, .inl (fun i => if i < 8 then (98 : Int32) else (fun _ => 0) i))]
set_option maxHeartbeats 16000000 in
set_option maxRecDepth 100000 in
theorem ci_X9 (ω : sm_O) (M : List va_E) (n : Nat) (t0 : Nat) (hn : M.length = n) : cMt 2 3 56 yX9_init cX9_init 2 ω M (.inr (9, df_X9)) [.ref t0] (tl_X9 ω n t0) := by
  subst hn
  refine c_con (by decide) rfl (Nat.le_of_ble_eq_true rfl) ?_
  intro κ hκ hRc hRs hini0 C hret
  subst hκ
  show tT κ 0 0 0 [some (xad κ (M.length + 0)), some (.ref t0)] [] (M ++ [.inr (9, [.null, .int 0, .null, .null, .null])])
  refine tc_aload_n (i := 0) (q := 1) C (show decode cX9_init 0 = .ok (.aload_n 0, 1) from by decide +kernel) rfl rfl rfl ?_
  refine tc_obj (q := 4) C ((lw_m (lt1 (List.mem_of_getElem? (i := 193) rfl)) rfl)) ((lw_m (lt1 (List.mem_of_getElem? (i := 28) rfl)) rfl)) ((lw_m (lt1 (List.mem_of_getElem? (i := 29) rfl)) rfl)) (by decide) (Nat.le_of_ble_eq_true rfl) (show decode cX9_init 1 = .ok (.invokespecial 3, 3) from by decide +kernel) rfl ?_
  refine tc_aload_n (i := 0) (q := 5) C (show decode cX9_init 4 = .ok (.aload_n 0, 1) from by decide +kernel) rfl rfl rfl ?_
  refine tc_bipush (v := (24 : Int32)) (q := 7) C (show decode cX9_init 5 = .ok (.bipush 24, 2) from by decide +kernel) (by decide) rfl ?_
  refine tc_newI (j := 1) (n := 24) (tl' := [.inr (9, [.null, .int 0, .null, .null, .null]), .inl ((xo κ).2.2.1 20, 24, .inl (fun _ => 0))]) (q := 9) C (lw_m (lt1 (List.mem_of_getElem? (i := 148) rfl)) rfl) (by decide) (by decide) (by decide) (by omega) (by omega) (by omega) (show decode cX9_init 7 = .ok (.newarray .int, 2) from by decide +kernel) rfl rfl rfl ?_
  refine tc_put (ci := 9) (k := 2) (j := 0) (tl' := [.inr (9, [.null, .int 0, .ref ((xo κ).1 + (M.length + 1)), .null, .null]), .inl ((xo κ).2.2.1 20, 24, .inl (fun _ => 0))]) (q := 12) C hini0 rfl (by decide) ((lw_m (lt1 (List.mem_of_getElem? (i := 204) rfl)) rfl)) rfl (tyX9_ok 2 (by decide)) rfl rfl rfl (Nat.le_of_ble_eq_true rfl) rfl (show decode cX9_init 9 = .ok (.putfield 9, 3) from by decide +kernel) rfl ?_
  refine tc_aload_n (i := 0) (q := 13) C (show decode cX9_init 12 = .ok (.aload_n 0, 1) from by decide +kernel) rfl rfl rfl ?_
  refine tc_bipush (v := (24 : Int32)) (q := 15) C (show decode cX9_init 13 = .ok (.bipush 24, 2) from by decide +kernel) (by decide) rfl ?_
  refine tc_newI (j := 2) (n := 24) (tl' := [.inr (9, [.null, .int 0, .ref ((xo κ).1 + (M.length + 1)), .null, .null]), .inl ((xo κ).2.2.1 20, 24, .inl (fun _ => 0)), .inl ((xo κ).2.2.1 20, 24, .inl (fun _ => 0))]) (q := 17) C (lw_m (lt1 (List.mem_of_getElem? (i := 148) rfl)) rfl) (by decide) (by decide) (by decide) (by omega) (by omega) (by omega) (show decode cX9_init 15 = .ok (.newarray .int, 2) from by decide +kernel) rfl rfl rfl ?_
  refine tc_put (ci := 9) (k := 3) (j := 0) (tl' := [.inr (9, [.null, .int 0, .ref ((xo κ).1 + (M.length + 1)), .ref ((xo κ).1 + (M.length + 2)), .null]), .inl ((xo κ).2.2.1 20, 24, .inl (fun _ => 0)), .inl ((xo κ).2.2.1 20, 24, .inl (fun _ => 0))]) (q := 20) C hini0 rfl (by decide) ((lw_m (lt1 (List.mem_of_getElem? (i := 209) rfl)) rfl)) rfl (tyX9_ok 3 (by decide)) rfl rfl rfl (Nat.le_of_ble_eq_true rfl) rfl (show decode cX9_init 17 = .ok (.putfield 15, 3) from by decide +kernel) rfl ?_
  refine tc_aload_n (i := 0) (q := 21) C (show decode cX9_init 20 = .ok (.aload_n 0, 1) from by decide +kernel) rfl rfl rfl ?_
  refine tc_bipush (v := (8 : Int32)) (q := 23) C (show decode cX9_init 21 = .ok (.bipush 8, 2) from by decide +kernel) (by decide) rfl ?_
  refine tc_newI (j := 3) (n := 8) (tl' := [.inr (9, [.null, .int 0, .ref ((xo κ).1 + (M.length + 1)), .ref ((xo κ).1 + (M.length + 2)), .null]), .inl ((xo κ).2.2.1 20, 24, .inl (fun _ => 0)), .inl ((xo κ).2.2.1 20, 24, .inl (fun _ => 0)), .inl ((xo κ).2.2.1 20, 8, .inl (fun _ => 0))]) (q := 25) C (lw_m (lt1 (List.mem_of_getElem? (i := 148) rfl)) rfl) (by decide) (by decide) (by decide) (by omega) (by omega) (by omega) (show decode cX9_init 23 = .ok (.newarray .int, 2) from by decide +kernel) rfl rfl rfl ?_
  refine tc_put (ci := 9) (k := 4) (j := 0) (tl' := [.inr (9, [.null, .int 0, .ref ((xo κ).1 + (M.length + 1)), .ref ((xo κ).1 + (M.length + 2)), .ref ((xo κ).1 + (M.length + 3))]), .inl ((xo κ).2.2.1 20, 24, .inl (fun _ => 0)), .inl ((xo κ).2.2.1 20, 24, .inl (fun _ => 0)), .inl ((xo κ).2.2.1 20, 8, .inl (fun _ => 0))]) (q := 28) C hini0 rfl (by decide) ((lw_m (lt1 (List.mem_of_getElem? (i := 211) rfl)) rfl)) rfl (tyX9_ok 4 (by decide)) rfl rfl rfl (Nat.le_of_ble_eq_true rfl) rfl (show decode cX9_init 25 = .ok (.putfield 18, 3) from by decide +kernel) rfl ?_
  refine tc_aload_n (i := 0) (q := 29) C (show decode cX9_init 28 = .ok (.aload_n 0, 1) from by decide +kernel) rfl rfl rfl ?_
  refine tc_aload_n (i := 1) (q := 30) C (show decode cX9_init 29 = .ok (.aload_n 1, 1) from by decide +kernel) rfl rfl rfl ?_
  refine tc_put (ci := 9) (k := 0) (j := 0) (tl' := [.inr (9, [.ref t0, .int 0, .ref ((xo κ).1 + (M.length + 1)), .ref ((xo κ).1 + (M.length + 2)), .ref ((xo κ).1 + (M.length + 3))]), .inl ((xo κ).2.2.1 20, 24, .inl (fun _ => 0)), .inl ((xo κ).2.2.1 20, 24, .inl (fun _ => 0)), .inl ((xo κ).2.2.1 20, 8, .inl (fun _ => 0))]) (q := 33) C hini0 rfl (by decide) ((lw_m (lt1 (List.mem_of_getElem? (i := 197) rfl)) rfl)) rfl (tyX9_ok 0 (by decide)) rfl rfl rfl (Nat.le_of_ble_eq_true rfl) rfl (show decode cX9_init 30 = .ok (.putfield 21, 3) from by decide +kernel) rfl ?_
  refine tc_aload_n (i := 0) (q := 34) C (show decode cX9_init 33 = .ok (.aload_n 0, 1) from by decide +kernel) rfl rfl rfl ?_
  refine tc_get (ci := 9) (k := 4) (j := 0) (q := 37) C rfl (by decide) ((lw_m (lt1 (List.mem_of_getElem? (i := 211) rfl)) rfl)) rfl rfl (show decode cX9_init 34 = .ok (.getfield 18, 3) from by decide +kernel) rfl ?_
  refine tc_bipush (v := (98 : Int32)) (q := 39) C (show decode cX9_init 37 = .ok (.bipush 98, 2) from by decide +kernel) (by decide) rfl ?_
  refine tc_stat (j0 := 4) (tl := [.inr (9, [.ref t0, .int 0, .ref ((xo κ).1 + (M.length + 1)), .ref ((xo κ).1 + (M.length + 2)), .ref ((xo κ).1 + (M.length + 3))]), .inl ((xo κ).2.2.1 20, 24, .inl (fun _ => 0)), .inl ((xo κ).2.2.1 20, 24, .inl (fun _ => 0)), .inl ((xo κ).2.2.1 20, 8, .inl (fun _ => 0))]) (tl' := [.inr (9, [.ref t0, .int 0, .ref ((xo κ).1 + (M.length + 1)), .ref ((xo κ).1 + (M.length + 2)), .ref ((xo κ).1 + (M.length + 3))]), .inl ((xo κ).2.2.1 20, 24, .inl (fun _ => 0)), .inl ((xo κ).2.2.1 20, 24, .inl (fun _ => 0)), .inl ((xo κ).2.2.1 20, 8, .inl (fun i => if i < 8 then (98 : Int32) else (fun _ => 0) i))]) (As := [xad κ (M.length + 3), .int (98 : Int32)]) (st := []) (q := 42) C ysJ7_fill_53178 ((lw_m (lt1 (List.mem_of_getElem? (i := 194) rfl)) rfl)) (c_fill (xo κ) (M := M) (j := 3) (n := 8) (tl := [.inr (9, [.ref t0, .int 0, .ref ((xo κ).1 + (M.length + 1)), .ref ((xo κ).1 + (M.length + 2)), .ref ((xo κ).1 + (M.length + 3))]), .inl ((xo κ).2.2.1 20, 24, .inl (fun _ => 0)), .inl ((xo κ).2.2.1 20, 24, .inl (fun _ => 0)), .inl ((xo κ).2.2.1 20, 8, .inl (fun _ => 0))]) (98 : Int32) (by decide) rfl) rfl (by omega) rfl (by decide) (by decide) (Nat.le_of_ble_eq_true rfl) rfl (by omega) (by omega) (show decode cX9_init 39 = .ok (.invokestatic 25, 3) from by decide +kernel) rfl ?_
  exact hret _ _ _ _ (by decide) (by decide) (show decode cX9_init 42 = .ok (.return_, 1) from by decide +kernel)
def tl_X3 (ω : sm_O) (n : Nat) : List va_E := [.inr (3, [.ref (ω.1 + (n + 1)), .ref (ω.1 + (n + 2)), .ref (ω.1 + (n + 3))]), .inl (ω.2.2.1 20, 10, .inl (fun _ => 0)), .inl (ω.2.2.1 20, 10, .inl (fun _ => 0)), .inl (ω.2.2.1 20, 240, .inl (fun _ => 0))]
set_option maxHeartbeats 16000000 in
set_option maxRecDepth 100000 in
theorem ci_X3 (ω : sm_O) (M : List va_E) (n : Nat) (hn : M.length = n) : cMt 1 3 260 yX3_init cX3_init 1 ω M (.inr (3, df_X3)) [] (tl_X3 ω n) := by
  subst hn
  refine c_con (by decide) rfl (Nat.le_of_ble_eq_true rfl) ?_
  intro κ hκ hRc hRs hini0 C hret
  subst hκ
  show tT κ 0 0 0 [some (xad κ (M.length + 0))] [] (M ++ [.inr (3, [.null, .null, .null])])
  refine tc_aload_n (i := 0) (q := 1) C (show decode cX3_init 0 = .ok (.aload_n 0, 1) from by decide +kernel) rfl rfl rfl ?_
  refine tc_obj (q := 4) C ((lw_m (lt1 (List.mem_of_getElem? (i := 229) rfl)) rfl)) ((lw_m (lt1 (List.mem_of_getElem? (i := 28) rfl)) rfl)) ((lw_m (lt1 (List.mem_of_getElem? (i := 29) rfl)) rfl)) (by decide) (Nat.le_of_ble_eq_true rfl) (show decode cX3_init 1 = .ok (.invokespecial 3, 3) from by decide +kernel) rfl ?_
  refine tc_aload_n (i := 0) (q := 5) C (show decode cX3_init 4 = .ok (.aload_n 0, 1) from by decide +kernel) rfl rfl rfl ?_
  refine tc_bipush (v := (10 : Int32)) (q := 7) C (show decode cX3_init 5 = .ok (.bipush 10, 2) from by decide +kernel) (by decide) rfl ?_
  refine tc_newI (j := 1) (n := 10) (tl' := [.inr (3, [.null, .null, .null]), .inl ((xo κ).2.2.1 20, 10, .inl (fun _ => 0))]) (q := 9) C (lw_m (lt1 (List.mem_of_getElem? (i := 148) rfl)) rfl) (by decide) (by decide) (by decide) (by omega) (by omega) (by omega) (show decode cX3_init 7 = .ok (.newarray .int, 2) from by decide +kernel) rfl rfl rfl ?_
  refine tc_put (ci := 3) (k := 0) (j := 0) (tl' := [.inr (3, [.ref ((xo κ).1 + (M.length + 1)), .null, .null]), .inl ((xo κ).2.2.1 20, 10, .inl (fun _ => 0))]) (q := 12) C hini0 rfl (by decide) ((lw_m (lt1 (List.mem_of_getElem? (i := 230) rfl)) rfl)) rfl (tyX3_ok 0 (by decide)) rfl rfl rfl (Nat.le_of_ble_eq_true rfl) rfl (show decode cX3_init 9 = .ok (.putfield 9, 3) from by decide +kernel) rfl ?_
  refine tc_aload_n (i := 0) (q := 13) C (show decode cX3_init 12 = .ok (.aload_n 0, 1) from by decide +kernel) rfl rfl rfl ?_
  refine tc_bipush (v := (10 : Int32)) (q := 15) C (show decode cX3_init 13 = .ok (.bipush 10, 2) from by decide +kernel) (by decide) rfl ?_
  refine tc_newI (j := 2) (n := 10) (tl' := [.inr (3, [.ref ((xo κ).1 + (M.length + 1)), .null, .null]), .inl ((xo κ).2.2.1 20, 10, .inl (fun _ => 0)), .inl ((xo κ).2.2.1 20, 10, .inl (fun _ => 0))]) (q := 17) C (lw_m (lt1 (List.mem_of_getElem? (i := 148) rfl)) rfl) (by decide) (by decide) (by decide) (by omega) (by omega) (by omega) (show decode cX3_init 15 = .ok (.newarray .int, 2) from by decide +kernel) rfl rfl rfl ?_
  refine tc_put (ci := 3) (k := 1) (j := 0) (tl' := [.inr (3, [.ref ((xo κ).1 + (M.length + 1)), .ref ((xo κ).1 + (M.length + 2)), .null]), .inl ((xo κ).2.2.1 20, 10, .inl (fun _ => 0)), .inl ((xo κ).2.2.1 20, 10, .inl (fun _ => 0))]) (q := 20) C hini0 rfl (by decide) ((lw_m (lt1 (List.mem_of_getElem? (i := 233) rfl)) rfl)) rfl (tyX3_ok 1 (by decide)) rfl rfl rfl (Nat.le_of_ble_eq_true rfl) rfl (show decode cX3_init 17 = .ok (.putfield 15, 3) from by decide +kernel) rfl ?_
  refine tc_aload_n (i := 0) (q := 21) C (show decode cX3_init 20 = .ok (.aload_n 0, 1) from by decide +kernel) rfl rfl rfl ?_
  refine tc_sipush (v := (240 : Int32)) (q := 24) C (show decode cX3_init 21 = .ok (.sipush 240, 3) from by decide +kernel) (by decide) rfl ?_
  refine tc_newI (j := 3) (n := 240) (tl' := [.inr (3, [.ref ((xo κ).1 + (M.length + 1)), .ref ((xo κ).1 + (M.length + 2)), .null]), .inl ((xo κ).2.2.1 20, 10, .inl (fun _ => 0)), .inl ((xo κ).2.2.1 20, 10, .inl (fun _ => 0)), .inl ((xo κ).2.2.1 20, 240, .inl (fun _ => 0))]) (q := 26) C (lw_m (lt1 (List.mem_of_getElem? (i := 148) rfl)) rfl) (by decide) (by decide) (by decide) (by omega) (by omega) (by omega) (show decode cX3_init 24 = .ok (.newarray .int, 2) from by decide +kernel) rfl rfl rfl ?_
  refine tc_put (ci := 3) (k := 2) (j := 0) (tl' := [.inr (3, [.ref ((xo κ).1 + (M.length + 1)), .ref ((xo κ).1 + (M.length + 2)), .ref ((xo κ).1 + (M.length + 3))]), .inl ((xo κ).2.2.1 20, 10, .inl (fun _ => 0)), .inl ((xo κ).2.2.1 20, 10, .inl (fun _ => 0)), .inl ((xo κ).2.2.1 20, 240, .inl (fun _ => 0))]) (q := 29) C hini0 rfl (by decide) ((lw_m (lt1 (List.mem_of_getElem? (i := 236) rfl)) rfl)) rfl (tyX3_ok 2 (by decide)) rfl rfl rfl (Nat.le_of_ble_eq_true rfl) rfl (show decode cX3_init 26 = .ok (.putfield 18, 3) from by decide +kernel) rfl ?_
  exact hret _ _ _ _ (by decide) (by decide) (show decode cX3_init 29 = .ok (.return_, 1) from by decide +kernel)
def tl_X10 (ω : sm_O) (n : Nat) (t0 : Nat) : List va_E := [.inr (10, [.ref (ω.1 + (n + 1)), .int 0, .ref t0, .ref (ω.1 + (n + 2)), .ref (ω.1 + (n + 3)), .ref (ω.1 + (n + 4))]), .inl (ω.2.2.1 20, 24, .inl (fun _ => 0)), .inl (ω.2.2.1 20, 24, .inl (fun _ => 0)), .inl (ω.2.2.1 20, 24, .inl (fun _ => 0)), .inl (ω.2.2.1 20, 10, .inl (fun _ => 0))]
set_option maxHeartbeats 16000000 in
set_option maxRecDepth 100000 in
theorem ci_X10 (ω : sm_O) (M : List va_E) (n : Nat) (t0 : Nat) (hn : M.length = n) : cMt 1 4 82 yX10_init cX10_init 2 ω M (.inr (10, df_X10)) [.ref t0] (tl_X10 ω n t0) := by
  subst hn
  refine c_con (by decide) rfl (Nat.le_of_ble_eq_true rfl) ?_
  intro κ hκ hRc hRs hini0 C hret
  subst hκ
  show tT κ 0 0 0 [some (xad κ (M.length + 0)), some (.ref t0)] [] (M ++ [.inr (10, [.null, .int 0, .null, .null, .null, .null])])
  refine tc_aload_n (i := 0) (q := 1) C (show decode cX10_init 0 = .ok (.aload_n 0, 1) from by decide +kernel) rfl rfl rfl ?_
  refine tc_obj (q := 4) C ((lw_m (lt2 (List.mem_of_getElem? (i := 11) rfl)) rfl)) ((lw_m (lt1 (List.mem_of_getElem? (i := 28) rfl)) rfl)) ((lw_m (lt1 (List.mem_of_getElem? (i := 29) rfl)) rfl)) (by decide) (Nat.le_of_ble_eq_true rfl) (show decode cX10_init 1 = .ok (.invokespecial 3, 3) from by decide +kernel) rfl ?_
  refine tc_aload_n (i := 0) (q := 5) C (show decode cX10_init 4 = .ok (.aload_n 0, 1) from by decide +kernel) rfl rfl rfl ?_
  refine tc_bipush (v := (24 : Int32)) (q := 7) C (show decode cX10_init 5 = .ok (.bipush 24, 2) from by decide +kernel) (by decide) rfl ?_
  refine tc_newI (j := 1) (n := 24) (tl' := [.inr (10, [.null, .int 0, .null, .null, .null, .null]), .inl ((xo κ).2.2.1 20, 24, .inl (fun _ => 0))]) (q := 9) C (lw_m (lt1 (List.mem_of_getElem? (i := 148) rfl)) rfl) (by decide) (by decide) (by decide) (by omega) (by omega) (by omega) (show decode cX10_init 7 = .ok (.newarray .int, 2) from by decide +kernel) rfl rfl rfl ?_
  refine tc_put (ci := 10) (k := 0) (j := 0) (tl' := [.inr (10, [.ref ((xo κ).1 + (M.length + 1)), .int 0, .null, .null, .null, .null]), .inl ((xo κ).2.2.1 20, 24, .inl (fun _ => 0))]) (q := 12) C hini0 rfl (by decide) ((lw_m (lt2 (List.mem_of_getElem? (i := 12) rfl)) rfl)) rfl (tyX10_ok 0 (by decide)) rfl rfl rfl (Nat.le_of_ble_eq_true rfl) rfl (show decode cX10_init 9 = .ok (.putfield 9, 3) from by decide +kernel) rfl ?_
  refine tc_aload_n (i := 0) (q := 13) C (show decode cX10_init 12 = .ok (.aload_n 0, 1) from by decide +kernel) rfl rfl rfl ?_
  refine tc_bipush (v := (24 : Int32)) (q := 15) C (show decode cX10_init 13 = .ok (.bipush 24, 2) from by decide +kernel) (by decide) rfl ?_
  refine tc_newI (j := 2) (n := 24) (tl' := [.inr (10, [.ref ((xo κ).1 + (M.length + 1)), .int 0, .null, .null, .null, .null]), .inl ((xo κ).2.2.1 20, 24, .inl (fun _ => 0)), .inl ((xo κ).2.2.1 20, 24, .inl (fun _ => 0))]) (q := 17) C (lw_m (lt1 (List.mem_of_getElem? (i := 148) rfl)) rfl) (by decide) (by decide) (by decide) (by omega) (by omega) (by omega) (show decode cX10_init 15 = .ok (.newarray .int, 2) from by decide +kernel) rfl rfl rfl ?_
  refine tc_put (ci := 10) (k := 3) (j := 0) (tl' := [.inr (10, [.ref ((xo κ).1 + (M.length + 1)), .int 0, .null, .ref ((xo κ).1 + (M.length + 2)), .null, .null]), .inl ((xo κ).2.2.1 20, 24, .inl (fun _ => 0)), .inl ((xo κ).2.2.1 20, 24, .inl (fun _ => 0))]) (q := 20) C hini0 rfl (by decide) ((lw_m (lt2 (List.mem_of_getElem? (i := 18) rfl)) rfl)) rfl (tyX10_ok 3 (by decide)) rfl rfl rfl (Nat.le_of_ble_eq_true rfl) rfl (show decode cX10_init 17 = .ok (.putfield 15, 3) from by decide +kernel) rfl ?_
  refine tc_aload_n (i := 0) (q := 21) C (show decode cX10_init 20 = .ok (.aload_n 0, 1) from by decide +kernel) rfl rfl rfl ?_
  refine tc_bipush (v := (24 : Int32)) (q := 23) C (show decode cX10_init 21 = .ok (.bipush 24, 2) from by decide +kernel) (by decide) rfl ?_
  refine tc_newI (j := 3) (n := 24) (tl' := [.inr (10, [.ref ((xo κ).1 + (M.length + 1)), .int 0, .null, .ref ((xo κ).1 + (M.length + 2)), .null, .null]), .inl ((xo κ).2.2.1 20, 24, .inl (fun _ => 0)), .inl ((xo κ).2.2.1 20, 24, .inl (fun _ => 0)), .inl ((xo κ).2.2.1 20, 24, .inl (fun _ => 0))]) (q := 25) C (lw_m (lt1 (List.mem_of_getElem? (i := 148) rfl)) rfl) (by decide) (by decide) (by decide) (by omega) (by omega) (by omega) (show decode cX10_init 23 = .ok (.newarray .int, 2) from by decide +kernel) rfl rfl rfl ?_
  refine tc_put (ci := 10) (k := 4) (j := 0) (tl' := [.inr (10, [.ref ((xo κ).1 + (M.length + 1)), .int 0, .null, .ref ((xo κ).1 + (M.length + 2)), .ref ((xo κ).1 + (M.length + 3)), .null]), .inl ((xo κ).2.2.1 20, 24, .inl (fun _ => 0)), .inl ((xo κ).2.2.1 20, 24, .inl (fun _ => 0)), .inl ((xo κ).2.2.1 20, 24, .inl (fun _ => 0))]) (q := 28) C hini0 rfl (by decide) ((lw_m (lt2 (List.mem_of_getElem? (i := 19) rfl)) rfl)) rfl (tyX10_ok 4 (by decide)) rfl rfl rfl (Nat.le_of_ble_eq_true rfl) rfl (show decode cX10_init 25 = .ok (.putfield 18, 3) from by decide +kernel) rfl ?_
  refine tc_aload_n (i := 0) (q := 29) C (show decode cX10_init 28 = .ok (.aload_n 0, 1) from by decide +kernel) rfl rfl rfl ?_
  refine tc_bipush (v := (10 : Int32)) (q := 31) C (show decode cX10_init 29 = .ok (.bipush 10, 2) from by decide +kernel) (by decide) rfl ?_
  refine tc_newI (j := 4) (n := 10) (tl' := [.inr (10, [.ref ((xo κ).1 + (M.length + 1)), .int 0, .null, .ref ((xo κ).1 + (M.length + 2)), .ref ((xo κ).1 + (M.length + 3)), .null]), .inl ((xo κ).2.2.1 20, 24, .inl (fun _ => 0)), .inl ((xo κ).2.2.1 20, 24, .inl (fun _ => 0)), .inl ((xo κ).2.2.1 20, 24, .inl (fun _ => 0)), .inl ((xo κ).2.2.1 20, 10, .inl (fun _ => 0))]) (q := 33) C (lw_m (lt1 (List.mem_of_getElem? (i := 148) rfl)) rfl) (by decide) (by decide) (by decide) (by omega) (by omega) (by omega) (show decode cX10_init 31 = .ok (.newarray .int, 2) from by decide +kernel) rfl rfl rfl ?_
  refine tc_put (ci := 10) (k := 5) (j := 0) (tl' := [.inr (10, [.ref ((xo κ).1 + (M.length + 1)), .int 0, .null, .ref ((xo κ).1 + (M.length + 2)), .ref ((xo κ).1 + (M.length + 3)), .ref ((xo κ).1 + (M.length + 4))]), .inl ((xo κ).2.2.1 20, 24, .inl (fun _ => 0)), .inl ((xo κ).2.2.1 20, 24, .inl (fun _ => 0)), .inl ((xo κ).2.2.1 20, 24, .inl (fun _ => 0)), .inl ((xo κ).2.2.1 20, 10, .inl (fun _ => 0))]) (q := 36) C hini0 rfl (by decide) ((lw_m (lt2 (List.mem_of_getElem? (i := 20) rfl)) rfl)) rfl (tyX10_ok 5 (by decide)) rfl rfl rfl (Nat.le_of_ble_eq_true rfl) rfl (show decode cX10_init 33 = .ok (.putfield 21, 3) from by decide +kernel) rfl ?_
  refine tc_aload_n (i := 0) (q := 37) C (show decode cX10_init 36 = .ok (.aload_n 0, 1) from by decide +kernel) rfl rfl rfl ?_
  refine tc_aload_n (i := 1) (q := 38) C (show decode cX10_init 37 = .ok (.aload_n 1, 1) from by decide +kernel) rfl rfl rfl ?_
  refine tc_put (ci := 10) (k := 2) (j := 0) (tl' := [.inr (10, [.ref ((xo κ).1 + (M.length + 1)), .int 0, .ref t0, .ref ((xo κ).1 + (M.length + 2)), .ref ((xo κ).1 + (M.length + 3)), .ref ((xo κ).1 + (M.length + 4))]), .inl ((xo κ).2.2.1 20, 24, .inl (fun _ => 0)), .inl ((xo κ).2.2.1 20, 24, .inl (fun _ => 0)), .inl ((xo κ).2.2.1 20, 24, .inl (fun _ => 0)), .inl ((xo κ).2.2.1 20, 10, .inl (fun _ => 0))]) (q := 41) C hini0 rfl (by decide) ((lw_m (lt2 (List.mem_of_getElem? (i := 16) rfl)) rfl)) rfl (tyX10_ok 2 (by decide)) rfl rfl rfl (Nat.le_of_ble_eq_true rfl) rfl (show decode cX10_init 38 = .ok (.putfield 24, 3) from by decide +kernel) rfl ?_
  exact hret _ _ _ _ (by decide) (by decide) (show decode cX10_init 41 = .ok (.return_, 1) from by decide +kernel)
def tl_X0 (ω : sm_O) (n : Nat) (t0 : Nat) : List va_E := [.inr (0, [.ref t0])]
set_option maxHeartbeats 16000000 in
set_option maxRecDepth 100000 in
theorem ci_X0 (ω : sm_O) (M : List va_E) (n : Nat) (t0 : Nat) (hn : M.length = n) : cMt 1 0 0 yX0_init cX0_init 2 ω M (.inr (0, df_X0)) [.ref t0] (tl_X0 ω n t0) := by
  subst hn
  refine c_con (by decide) rfl (Nat.le_of_ble_eq_true rfl) ?_
  intro κ hκ hRc hRs hini0 C hret
  subst hκ
  show tT κ 0 0 0 [some (xad κ (M.length + 0)), some (.ref t0)] [] (M ++ [.inr (0, [.null])])
  refine tc_aload_n (i := 0) (q := 1) C (show decode cX0_init 0 = .ok (.aload_n 0, 1) from by decide +kernel) rfl rfl rfl ?_
  refine tc_obj (q := 4) C ((lw_m (lt2 (List.mem_of_getElem? (i := 39) rfl)) rfl)) ((lw_m (lt1 (List.mem_of_getElem? (i := 28) rfl)) rfl)) ((lw_m (lt1 (List.mem_of_getElem? (i := 29) rfl)) rfl)) (by decide) (Nat.le_of_ble_eq_true rfl) (show decode cX0_init 1 = .ok (.invokespecial 3, 3) from by decide +kernel) rfl ?_
  refine tc_aload_n (i := 0) (q := 5) C (show decode cX0_init 4 = .ok (.aload_n 0, 1) from by decide +kernel) rfl rfl rfl ?_
  refine tc_aload_n (i := 1) (q := 6) C (show decode cX0_init 5 = .ok (.aload_n 1, 1) from by decide +kernel) rfl rfl rfl ?_
  refine tc_put (ci := 0) (k := 0) (j := 0) (tl' := [.inr (0, [.ref t0])]) (q := 9) C hini0 rfl (by decide) ((lw_m (lt2 (List.mem_of_getElem? (i := 40) rfl)) rfl)) rfl (tyX0_ok 0 (by decide)) rfl rfl rfl (Nat.le_of_ble_eq_true rfl) rfl (show decode cX0_init 6 = .ok (.putfield 9, 3) from by decide +kernel) rfl ?_
  exact hret _ _ _ _ (by decide) (by decide) (show decode cX0_init 9 = .ok (.return_, 1) from by decide +kernel)
def tl_X5 (ω : sm_O) (n : Nat) (t0 : Nat) (t1 : Nat) : List va_E := (.inr (5, [.int 0, .int 0, .ref t1, .ref t0, .ref (ω.1 + (n + 1)), .ref (ω.1 + (n + 2)), .ref (ω.1 + (n + 3)), .int 0, .int (-1 : Int32)]) :: (.inl (ω.2.2.1 24, 7, .inr (.inr (.inr (.inr (va_up (va_up (va_up (va_up (va_up (va_up (va_up (fun _ => none) 0 (some (ω.1 + (n + 4)))) 1 (some (ω.1 + (n + 8)))) 2 (some (ω.1 + (n + 12)))) 3 (some (ω.1 + (n + 16)))) 4 (some (ω.1 + (n + 20)))) 5 (some (ω.1 + (n + 24)))) 6 (some (ω.1 + (n + 28)))))))) :: (.inl (ω.2.2.1 20, 6, .inl (fun _ => 0)) :: (.inl (ω.2.2.1 20, 6, .inl (fun _ => 0)) :: (tl_X9 ω (n + 4) (t1) ++ (tl_X9 ω (n + 8) (t1) ++ (tl_X9 ω (n + 12) (t1) ++ (tl_X9 ω (n + 16) (t1) ++ (tl_X9 ω (n + 20) (t1) ++ (tl_X9 ω (n + 24) (t1) ++ tl_X9 ω (n + 28) (t1)))))))))))
set_option maxHeartbeats 16000000 in
set_option maxRecDepth 100000 in
theorem ci_X5 (ω : sm_O) (M : List va_E) (n : Nat) (t0 : Nat) (t1 : Nat) (hn : M.length = n) : cMt 3 31 446 yX5_init cX5_init 4 ω M (.inr (5, df_X5)) [.ref t0, .ref t1] (tl_X5 ω n t0 t1) := by
  subst hn
  refine c_con (by decide) rfl (Nat.le_of_ble_eq_true rfl) ?_
  intro κ hκ hRc hRs hini0 C hret
  subst hκ
  show tT κ 0 0 0 [some (xad κ (M.length + 0)), some (.ref t0), some (.ref t1), none] [] (M ++ [.inr (5, [.int 0, .int 0, .null, .null, .null, .null, .null, .int 0, .int 0])])
  refine tc_aload_n (i := 0) (q := 1) C (show decode cX5_init 0 = .ok (.aload_n 0, 1) from by decide +kernel) rfl rfl rfl ?_
  refine tc_obj (q := 4) C ((lw_m (lt2 (List.mem_of_getElem? (i := 49) rfl)) rfl)) ((lw_m (lt1 (List.mem_of_getElem? (i := 28) rfl)) rfl)) ((lw_m (lt1 (List.mem_of_getElem? (i := 29) rfl)) rfl)) (by decide) (Nat.le_of_ble_eq_true rfl) (show decode cX5_init 1 = .ok (.invokespecial 3, 3) from by decide +kernel) rfl ?_
  refine tc_aload_n (i := 0) (q := 5) C (show decode cX5_init 4 = .ok (.aload_n 0, 1) from by decide +kernel) rfl rfl rfl ?_
  refine tc_bipush (v := (7 : Int32)) (q := 7) C (show decode cX5_init 5 = .ok (.bipush 7, 2) from by decide +kernel) (by decide) rfl ?_
  refine tc_anew (t := 24) (t0 := 4) (j := 1) (n := 7) (tl' := [.inr (5, [.int 0, .int 0, .null, .null, .null, .null, .null, .int 0, .int 0]), .inl ((xo κ).2.2.1 24, 7, .inr (.inr (.inr (.inr (fun _ => none)))))]) (q := 10) C (lw_m (lt2 (List.mem_of_getElem? (i := 50) rfl)) rfl) C.ao.1 rfl (by decide) (by decide) (by decide) (by omega) (by omega) (by omega) (show decode cX5_init 7 = .ok (.anewarray 11, 3) from by decide +kernel) rfl rfl rfl ?_
  refine tc_put (ci := 5) (k := 4) (j := 0) (tl' := [.inr (5, [.int 0, .int 0, .null, .null, .ref ((xo κ).1 + (M.length + 1)), .null, .null, .int 0, .int 0]), .inl ((xo κ).2.2.1 24, 7, .inr (.inr (.inr (.inr (fun _ => none)))))]) (q := 13) C hini0 rfl (by decide) ((lw_m (lt2 (List.mem_of_getElem? (i := 59) rfl)) rfl)) rfl (tyX5_ok 4 (by decide)) rfl rfl rfl (Nat.le_of_ble_eq_true rfl) rfl (show decode cX5_init 10 = .ok (.putfield 13, 3) from by decide +kernel) rfl ?_
  refine tc_aload_n (i := 0) (q := 14) C (show decode cX5_init 13 = .ok (.aload_n 0, 1) from by decide +kernel) rfl rfl rfl ?_
  refine tc_bipush (v := (6 : Int32)) (q := 16) C (show decode cX5_init 14 = .ok (.bipush 6, 2) from by decide +kernel) (by decide) rfl ?_
  refine tc_newI (j := 2) (n := 6) (tl' := [.inr (5, [.int 0, .int 0, .null, .null, .ref ((xo κ).1 + (M.length + 1)), .null, .null, .int 0, .int 0]), .inl ((xo κ).2.2.1 24, 7, .inr (.inr (.inr (.inr (fun _ => none))))), .inl ((xo κ).2.2.1 20, 6, .inl (fun _ => 0))]) (q := 18) C (lw_m (lt1 (List.mem_of_getElem? (i := 148) rfl)) rfl) (by decide) (by decide) (by decide) (by omega) (by omega) (by omega) (show decode cX5_init 16 = .ok (.newarray .int, 2) from by decide +kernel) rfl rfl rfl ?_
  refine tc_put (ci := 5) (k := 5) (j := 0) (tl' := [.inr (5, [.int 0, .int 0, .null, .null, .ref ((xo κ).1 + (M.length + 1)), .ref ((xo κ).1 + (M.length + 2)), .null, .int 0, .int 0]), .inl ((xo κ).2.2.1 24, 7, .inr (.inr (.inr (.inr (fun _ => none))))), .inl ((xo κ).2.2.1 20, 6, .inl (fun _ => 0))]) (q := 21) C hini0 rfl (by decide) ((lw_m (lt2 (List.mem_of_getElem? (i := 60) rfl)) rfl)) rfl (tyX5_ok 5 (by decide)) rfl rfl rfl (Nat.le_of_ble_eq_true rfl) rfl (show decode cX5_init 18 = .ok (.putfield 17, 3) from by decide +kernel) rfl ?_
  refine tc_aload_n (i := 0) (q := 22) C (show decode cX5_init 21 = .ok (.aload_n 0, 1) from by decide +kernel) rfl rfl rfl ?_
  refine tc_bipush (v := (6 : Int32)) (q := 24) C (show decode cX5_init 22 = .ok (.bipush 6, 2) from by decide +kernel) (by decide) rfl ?_
  refine tc_newI (j := 3) (n := 6) (tl' := [.inr (5, [.int 0, .int 0, .null, .null, .ref ((xo κ).1 + (M.length + 1)), .ref ((xo κ).1 + (M.length + 2)), .null, .int 0, .int 0]), .inl ((xo κ).2.2.1 24, 7, .inr (.inr (.inr (.inr (fun _ => none))))), .inl ((xo κ).2.2.1 20, 6, .inl (fun _ => 0)), .inl ((xo κ).2.2.1 20, 6, .inl (fun _ => 0))]) (q := 26) C (lw_m (lt1 (List.mem_of_getElem? (i := 148) rfl)) rfl) (by decide) (by decide) (by decide) (by omega) (by omega) (by omega) (show decode cX5_init 24 = .ok (.newarray .int, 2) from by decide +kernel) rfl rfl rfl ?_
  refine tc_put (ci := 5) (k := 6) (j := 0) (tl' := [.inr (5, [.int 0, .int 0, .null, .null, .ref ((xo κ).1 + (M.length + 1)), .ref ((xo κ).1 + (M.length + 2)), .ref ((xo κ).1 + (M.length + 3)), .int 0, .int 0]), .inl ((xo κ).2.2.1 24, 7, .inr (.inr (.inr (.inr (fun _ => none))))), .inl ((xo κ).2.2.1 20, 6, .inl (fun _ => 0)), .inl ((xo κ).2.2.1 20, 6, .inl (fun _ => 0))]) (q := 29) C hini0 rfl (by decide) ((lw_m (lt2 (List.mem_of_getElem? (i := 61) rfl)) rfl)) rfl (tyX5_ok 6 (by decide)) rfl rfl rfl (Nat.le_of_ble_eq_true rfl) rfl (show decode cX5_init 26 = .ok (.putfield 21, 3) from by decide +kernel) rfl ?_
  refine tc_aload_n (i := 0) (q := 30) C (show decode cX5_init 29 = .ok (.aload_n 0, 1) from by decide +kernel) rfl rfl rfl ?_
  refine tc_iconst (v := (-1 : Int32)) (q := 31) C (show decode cX5_init 30 = .ok (.iconst (-1), 1) from by decide +kernel) (by decide) rfl ?_
  refine tc_put (ci := 5) (k := 8) (j := 0) (tl' := [.inr (5, [.int 0, .int 0, .null, .null, .ref ((xo κ).1 + (M.length + 1)), .ref ((xo κ).1 + (M.length + 2)), .ref ((xo κ).1 + (M.length + 3)), .int 0, .int (-1 : Int32)]), .inl ((xo κ).2.2.1 24, 7, .inr (.inr (.inr (.inr (fun _ => none))))), .inl ((xo κ).2.2.1 20, 6, .inl (fun _ => 0)), .inl ((xo κ).2.2.1 20, 6, .inl (fun _ => 0))]) (q := 34) C hini0 rfl (by decide) ((lw_m (lt2 (List.mem_of_getElem? (i := 63) rfl)) rfl)) rfl (tyX5_ok 8 (by decide)) rfl rfl rfl (Nat.le_of_ble_eq_true rfl) rfl (show decode cX5_init 31 = .ok (.putfield 24, 3) from by decide +kernel) rfl ?_
  refine tc_aload_n (i := 0) (q := 35) C (show decode cX5_init 34 = .ok (.aload_n 0, 1) from by decide +kernel) rfl rfl rfl ?_
  refine tc_aload_n (i := 1) (q := 36) C (show decode cX5_init 35 = .ok (.aload_n 1, 1) from by decide +kernel) rfl rfl rfl ?_
  refine tc_put (ci := 5) (k := 3) (j := 0) (tl' := [.inr (5, [.int 0, .int 0, .null, .ref t0, .ref ((xo κ).1 + (M.length + 1)), .ref ((xo κ).1 + (M.length + 2)), .ref ((xo κ).1 + (M.length + 3)), .int 0, .int (-1 : Int32)]), .inl ((xo κ).2.2.1 24, 7, .inr (.inr (.inr (.inr (fun _ => none))))), .inl ((xo κ).2.2.1 20, 6, .inl (fun _ => 0)), .inl ((xo κ).2.2.1 20, 6, .inl (fun _ => 0))]) (q := 39) C hini0 rfl (by decide) ((lw_m (lt2 (List.mem_of_getElem? (i := 58) rfl)) rfl)) rfl (tyX5_ok 3 (by decide)) rfl rfl rfl (Nat.le_of_ble_eq_true rfl) rfl (show decode cX5_init 36 = .ok (.putfield 28, 3) from by decide +kernel) rfl ?_
  refine tc_aload_n (i := 0) (q := 40) C (show decode cX5_init 39 = .ok (.aload_n 0, 1) from by decide +kernel) rfl rfl rfl ?_
  refine tc_aload_n (i := 2) (q := 41) C (show decode cX5_init 40 = .ok (.aload_n 2, 1) from by decide +kernel) rfl rfl rfl ?_
  refine tc_put (ci := 5) (k := 2) (j := 0) (tl' := [.inr (5, [.int 0, .int 0, .ref t1, .ref t0, .ref ((xo κ).1 + (M.length + 1)), .ref ((xo κ).1 + (M.length + 2)), .ref ((xo κ).1 + (M.length + 3)), .int 0, .int (-1 : Int32)]), .inl ((xo κ).2.2.1 24, 7, .inr (.inr (.inr (.inr (fun _ => none))))), .inl ((xo κ).2.2.1 20, 6, .inl (fun _ => 0)), .inl ((xo κ).2.2.1 20, 6, .inl (fun _ => 0))]) (q := 44) C hini0 rfl (by decide) ((lw_m (lt2 (List.mem_of_getElem? (i := 57) rfl)) rfl)) rfl (tyX5_ok 2 (by decide)) rfl rfl rfl (Nat.le_of_ble_eq_true rfl) rfl (show decode cX5_init 41 = .ok (.putfield 32, 3) from by decide +kernel) rfl ?_
  refine tc_iconst (v := (0 : Int32)) (q := 45) C (show decode cX5_init 44 = .ok (.iconst 0, 1) from by decide +kernel) (by decide) rfl ?_
  refine tc_istore_n (i := 3) (L' := [some (xad κ (M.length + 0)), some (.ref t0), some (.ref t1), some (.int (0 : Int32))]) (q := 46) C (show decode cX5_init 45 = .ok (.istore_n 3, 1) from by decide +kernel) rfl (by decide) rfl rfl ?_
  refine tc_iload_n (i := 3) (q := 47) C (show decode cX5_init 46 = .ok (.iload_n 3, 1) from by decide +kernel) rfl rfl rfl ?_
  refine tc_bipush (v := (6 : Int32)) (q := 49) C (show decode cX5_init 47 = .ok (.bipush 6, 2) from by decide +kernel) (by decide) rfl ?_
  refine tc_gtF (q := 52) C 72 (show decode cX5_init 49 = .ok (.if_icmp .gt 23, 3) from by decide +kernel) (by decide) (by decide) rfl ?_
  refine tc_aload_n (i := 0) (q := 53) C (show decode cX5_init 52 = .ok (.aload_n 0, 1) from by decide +kernel) rfl rfl rfl ?_
  refine tc_get (ci := 5) (k := 4) (j := 0) (q := 56) C rfl (by decide) ((lw_m (lt2 (List.mem_of_getElem? (i := 59) rfl)) rfl)) rfl rfl (show decode cX5_init 53 = .ok (.getfield 13, 3) from by decide +kernel) rfl ?_
  refine tc_iload_n (i := 3) (q := 57) C (show decode cX5_init 56 = .ok (.iload_n 3, 1) from by decide +kernel) rfl rfl rfl ?_
  refine tc_new (j := 4) (fs := df_X9) (tl' := [.inr (5, [.int 0, .int 0, .ref t1, .ref t0, .ref ((xo κ).1 + (M.length + 1)), .ref ((xo κ).1 + (M.length + 2)), .ref ((xo κ).1 + (M.length + 3)), .int 0, .int (-1 : Int32)]), .inl ((xo κ).2.2.1 24, 7, .inr (.inr (.inr (.inr (fun _ => none))))), .inl ((xo κ).2.2.1 20, 6, .inl (fun _ => 0)), .inl ((xo κ).2.2.1 20, 6, .inl (fun _ => 0)), .inr (9, [.null, .int 0, .null, .null, .null])]) (q := 60) C tyX9 tyX9_ok rfl (lw_m (lt2 (List.mem_of_getElem? (i := 50) rfl)) rfl) (lw_m (lt1 (List.mem_of_getElem? (i := 189) rfl)) rfl) (lw_m (lt1 (List.mem_of_getElem? (i := 4) rfl)) rfl) dfX9_ok (by omega) (by omega) (by omega) (show decode cX5_init 57 = .ok (.new 11, 3) from by decide +kernel) rfl rfl rfl ?_
  refine tc_dup (q := 61) C (show decode cX5_init 60 = .ok (.dup, 1) from by decide +kernel) rfl rfl ?_
  refine tc_aload_n (i := 2) (q := 62) C (show decode cX5_init 61 = .ok (.aload_n 2, 1) from by decide +kernel) rfl rfl rfl ?_
  refine tc_init (j := 4) (tl0 := [.inr (5, [.int 0, .int 0, .ref t1, .ref t0, .ref ((xo κ).1 + (M.length + 1)), .ref ((xo κ).1 + (M.length + 2)), .ref ((xo κ).1 + (M.length + 3)), .int 0, .int (-1 : Int32)]), .inl ((xo κ).2.2.1 24, 7, .inr (.inr (.inr (.inr (fun _ => none))))), .inl ((xo κ).2.2.1 20, 6, .inl (fun _ => 0)), .inl ((xo κ).2.2.1 20, 6, .inl (fun _ => 0))]) (tl' := (.inr (5, [.int 0, .int 0, .ref t1, .ref t0, .ref ((xo κ).1 + (M.length + 1)), .ref ((xo κ).1 + (M.length + 2)), .ref ((xo κ).1 + (M.length + 3)), .int 0, .int (-1 : Int32)]) :: (.inl ((xo κ).2.2.1 24, 7, .inr (.inr (.inr (.inr (fun _ => none))))) :: (.inl ((xo κ).2.2.1 20, 6, .inl (fun _ => 0)) :: (.inl ((xo κ).2.2.1 20, 6, .inl (fun _ => 0)) :: tl_X9 (xo κ) (M.length + 4) (t1)))))) (As := [.ref t1]) (st := [xad κ (M.length + 4), .int (0 : Int32), xad κ (M.length + 1)]) (q := 65) C cy_X9 ((lw_m (lt2 (List.mem_of_getElem? (i := 52) rfl)) rfl)) (ci_X9 (xo κ) (M ++ [.inr (5, [.int 0, .int 0, .ref t1, .ref t0, .ref ((xo κ).1 + (M.length + 1)), .ref ((xo κ).1 + (M.length + 2)), .ref ((xo κ).1 + (M.length + 3)), .int 0, .int (-1 : Int32)]), .inl ((xo κ).2.2.1 24, 7, .inr (.inr (.inr (.inr (fun _ => none))))), .inl ((xo κ).2.2.1 20, 6, .inl (fun _ => 0)), .inl ((xo κ).2.2.1 20, 6, .inl (fun _ => 0))]) (M.length + 4) (t1) (by rw [List.length_append]; rfl)) rfl rfl rfl rfl (by omega) (by decide) (by decide) (Nat.le_of_ble_eq_true rfl) rfl (by omega) (by omega) (show decode cX5_init 62 = .ok (.invokespecial 36, 3) from by decide +kernel) rfl ?_
  refine tc_aast (t := 24) (t0 := 4) (j := 1) (j1 := 4) (ci := 9) (n := 7) (f' := (va_up (fun _ => none) 0 (some ((xo κ).1 + (M.length + 4))))) (tl' := (.inr (5, [.int 0, .int 0, .ref t1, .ref t0, .ref ((xo κ).1 + (M.length + 1)), .ref ((xo κ).1 + (M.length + 2)), .ref ((xo κ).1 + (M.length + 3)), .int 0, .int (-1 : Int32)]) :: (.inl ((xo κ).2.2.1 24, 7, .inr (.inr (.inr (.inr (va_up (fun _ => none) 0 (some ((xo κ).1 + (M.length + 4)))))))) :: (.inl ((xo κ).2.2.1 20, 6, .inl (fun _ => 0)) :: (.inl ((xo κ).2.2.1 20, 6, .inl (fun _ => 0)) :: tl_X9 (xo κ) (M.length + 4) (t1)))))) (q := 66) C rfl rfl rfl rfl (show ¬ ((0 : Int32) < 0 ∨ 7 ≤ (0 : Int32).toNatClampNeg) by decide) rfl rfl (show decode cX5_init 65 = .ok (.aastore, 1) from by decide +kernel) rfl ?_
  refine tc_iinc (v := (1 : Int32)) (L' := [some (xad κ (M.length + 0)), some (.ref t0), some (.ref t1), some (.int (1 : Int32))]) (q := 69) C (show decode cX5_init 66 = .ok (.iinc 3 1, 3) from by decide +kernel) rfl (by decide) (by decide) rfl rfl ?_
  refine tc_goto (q := 46) C (show decode cX5_init 69 = .ok (.goto (-23), 3) from by decide +kernel) (by decide) ?_
  refine tc_iload_n (i := 3) (q := 47) C (show decode cX5_init 46 = .ok (.iload_n 3, 1) from by decide +kernel) rfl rfl rfl ?_
  refine tc_bipush (v := (6 : Int32)) (q := 49) C (show decode cX5_init 47 = .ok (.bipush 6, 2) from by decide +kernel) (by decide) rfl ?_
  refine tc_gtF (q := 52) C 72 (show decode cX5_init 49 = .ok (.if_icmp .gt 23, 3) from by decide +kernel) (by decide) (by decide) rfl ?_
  refine tc_aload_n (i := 0) (q := 53) C (show decode cX5_init 52 = .ok (.aload_n 0, 1) from by decide +kernel) rfl rfl rfl ?_
  refine tc_get (ci := 5) (k := 4) (j := 0) (q := 56) C rfl (by decide) ((lw_m (lt2 (List.mem_of_getElem? (i := 59) rfl)) rfl)) rfl rfl (show decode cX5_init 53 = .ok (.getfield 13, 3) from by decide +kernel) rfl ?_
  refine tc_iload_n (i := 3) (q := 57) C (show decode cX5_init 56 = .ok (.iload_n 3, 1) from by decide +kernel) rfl rfl rfl ?_
  refine tc_new (j := 8) (fs := df_X9) (tl' := (.inr (5, [.int 0, .int 0, .ref t1, .ref t0, .ref ((xo κ).1 + (M.length + 1)), .ref ((xo κ).1 + (M.length + 2)), .ref ((xo κ).1 + (M.length + 3)), .int 0, .int (-1 : Int32)]) :: (.inl ((xo κ).2.2.1 24, 7, .inr (.inr (.inr (.inr (va_up (fun _ => none) 0 (some ((xo κ).1 + (M.length + 4)))))))) :: (.inl ((xo κ).2.2.1 20, 6, .inl (fun _ => 0)) :: (.inl ((xo κ).2.2.1 20, 6, .inl (fun _ => 0)) :: (tl_X9 (xo κ) (M.length + 4) (t1) ++ [.inr (9, [.null, .int 0, .null, .null, .null])])))))) (q := 60) C tyX9 tyX9_ok rfl (lw_m (lt2 (List.mem_of_getElem? (i := 50) rfl)) rfl) (lw_m (lt1 (List.mem_of_getElem? (i := 189) rfl)) rfl) (lw_m (lt1 (List.mem_of_getElem? (i := 4) rfl)) rfl) dfX9_ok (by omega) (by omega) (by omega) (show decode cX5_init 57 = .ok (.new 11, 3) from by decide +kernel) rfl rfl rfl ?_
  refine tc_dup (q := 61) C (show decode cX5_init 60 = .ok (.dup, 1) from by decide +kernel) rfl rfl ?_
  refine tc_aload_n (i := 2) (q := 62) C (show decode cX5_init 61 = .ok (.aload_n 2, 1) from by decide +kernel) rfl rfl rfl ?_
  refine tc_init (j := 8) (tl0 := (.inr (5, [.int 0, .int 0, .ref t1, .ref t0, .ref ((xo κ).1 + (M.length + 1)), .ref ((xo κ).1 + (M.length + 2)), .ref ((xo κ).1 + (M.length + 3)), .int 0, .int (-1 : Int32)]) :: (.inl ((xo κ).2.2.1 24, 7, .inr (.inr (.inr (.inr (va_up (fun _ => none) 0 (some ((xo κ).1 + (M.length + 4)))))))) :: (.inl ((xo κ).2.2.1 20, 6, .inl (fun _ => 0)) :: (.inl ((xo κ).2.2.1 20, 6, .inl (fun _ => 0)) :: tl_X9 (xo κ) (M.length + 4) (t1)))))) (tl' := (.inr (5, [.int 0, .int 0, .ref t1, .ref t0, .ref ((xo κ).1 + (M.length + 1)), .ref ((xo κ).1 + (M.length + 2)), .ref ((xo κ).1 + (M.length + 3)), .int 0, .int (-1 : Int32)]) :: (.inl ((xo κ).2.2.1 24, 7, .inr (.inr (.inr (.inr (va_up (fun _ => none) 0 (some ((xo κ).1 + (M.length + 4)))))))) :: (.inl ((xo κ).2.2.1 20, 6, .inl (fun _ => 0)) :: (.inl ((xo κ).2.2.1 20, 6, .inl (fun _ => 0)) :: (tl_X9 (xo κ) (M.length + 4) (t1) ++ tl_X9 (xo κ) (M.length + 8) (t1))))))) (As := [.ref t1]) (st := [xad κ (M.length + 8), .int (1 : Int32), xad κ (M.length + 1)]) (q := 65) C cy_X9 ((lw_m (lt2 (List.mem_of_getElem? (i := 52) rfl)) rfl)) (ci_X9 (xo κ) (M ++ (.inr (5, [.int 0, .int 0, .ref t1, .ref t0, .ref ((xo κ).1 + (M.length + 1)), .ref ((xo κ).1 + (M.length + 2)), .ref ((xo κ).1 + (M.length + 3)), .int 0, .int (-1 : Int32)]) :: (.inl ((xo κ).2.2.1 24, 7, .inr (.inr (.inr (.inr (va_up (fun _ => none) 0 (some ((xo κ).1 + (M.length + 4)))))))) :: (.inl ((xo κ).2.2.1 20, 6, .inl (fun _ => 0)) :: (.inl ((xo κ).2.2.1 20, 6, .inl (fun _ => 0)) :: tl_X9 (xo κ) (M.length + 4) (t1)))))) (M.length + 8) (t1) (by rw [List.length_append]; rfl)) rfl rfl rfl rfl (by omega) (by decide) (by decide) (Nat.le_of_ble_eq_true rfl) rfl (by omega) (by omega) (show decode cX5_init 62 = .ok (.invokespecial 36, 3) from by decide +kernel) rfl ?_
  refine tc_aast (t := 24) (t0 := 4) (j := 1) (j1 := 8) (ci := 9) (n := 7) (f' := (va_up (va_up (fun _ => none) 0 (some ((xo κ).1 + (M.length + 4)))) 1 (some ((xo κ).1 + (M.length + 8))))) (tl' := (.inr (5, [.int 0, .int 0, .ref t1, .ref t0, .ref ((xo κ).1 + (M.length + 1)), .ref ((xo κ).1 + (M.length + 2)), .ref ((xo κ).1 + (M.length + 3)), .int 0, .int (-1 : Int32)]) :: (.inl ((xo κ).2.2.1 24, 7, .inr (.inr (.inr (.inr (va_up (va_up (fun _ => none) 0 (some ((xo κ).1 + (M.length + 4)))) 1 (some ((xo κ).1 + (M.length + 8)))))))) :: (.inl ((xo κ).2.2.1 20, 6, .inl (fun _ => 0)) :: (.inl ((xo κ).2.2.1 20, 6, .inl (fun _ => 0)) :: (tl_X9 (xo κ) (M.length + 4) (t1) ++ tl_X9 (xo κ) (M.length + 8) (t1))))))) (q := 66) C rfl rfl rfl rfl (show ¬ ((1 : Int32) < 0 ∨ 7 ≤ (1 : Int32).toNatClampNeg) by decide) rfl rfl (show decode cX5_init 65 = .ok (.aastore, 1) from by decide +kernel) rfl ?_
  refine tc_iinc (v := (2 : Int32)) (L' := [some (xad κ (M.length + 0)), some (.ref t0), some (.ref t1), some (.int (2 : Int32))]) (q := 69) C (show decode cX5_init 66 = .ok (.iinc 3 1, 3) from by decide +kernel) rfl (by decide) (by decide) rfl rfl ?_
  refine tc_goto (q := 46) C (show decode cX5_init 69 = .ok (.goto (-23), 3) from by decide +kernel) (by decide) ?_
  refine tc_iload_n (i := 3) (q := 47) C (show decode cX5_init 46 = .ok (.iload_n 3, 1) from by decide +kernel) rfl rfl rfl ?_
  refine tc_bipush (v := (6 : Int32)) (q := 49) C (show decode cX5_init 47 = .ok (.bipush 6, 2) from by decide +kernel) (by decide) rfl ?_
  refine tc_gtF (q := 52) C 72 (show decode cX5_init 49 = .ok (.if_icmp .gt 23, 3) from by decide +kernel) (by decide) (by decide) rfl ?_
  refine tc_aload_n (i := 0) (q := 53) C (show decode cX5_init 52 = .ok (.aload_n 0, 1) from by decide +kernel) rfl rfl rfl ?_
  refine tc_get (ci := 5) (k := 4) (j := 0) (q := 56) C rfl (by decide) ((lw_m (lt2 (List.mem_of_getElem? (i := 59) rfl)) rfl)) rfl rfl (show decode cX5_init 53 = .ok (.getfield 13, 3) from by decide +kernel) rfl ?_
  refine tc_iload_n (i := 3) (q := 57) C (show decode cX5_init 56 = .ok (.iload_n 3, 1) from by decide +kernel) rfl rfl rfl ?_
  refine tc_new (j := 12) (fs := df_X9) (tl' := (.inr (5, [.int 0, .int 0, .ref t1, .ref t0, .ref ((xo κ).1 + (M.length + 1)), .ref ((xo κ).1 + (M.length + 2)), .ref ((xo κ).1 + (M.length + 3)), .int 0, .int (-1 : Int32)]) :: (.inl ((xo κ).2.2.1 24, 7, .inr (.inr (.inr (.inr (va_up (va_up (fun _ => none) 0 (some ((xo κ).1 + (M.length + 4)))) 1 (some ((xo κ).1 + (M.length + 8)))))))) :: (.inl ((xo κ).2.2.1 20, 6, .inl (fun _ => 0)) :: (.inl ((xo κ).2.2.1 20, 6, .inl (fun _ => 0)) :: (tl_X9 (xo κ) (M.length + 4) (t1) ++ (tl_X9 (xo κ) (M.length + 8) (t1) ++ [.inr (9, [.null, .int 0, .null, .null, .null])]))))))) (q := 60) C tyX9 tyX9_ok rfl (lw_m (lt2 (List.mem_of_getElem? (i := 50) rfl)) rfl) (lw_m (lt1 (List.mem_of_getElem? (i := 189) rfl)) rfl) (lw_m (lt1 (List.mem_of_getElem? (i := 4) rfl)) rfl) dfX9_ok (by omega) (by omega) (by omega) (show decode cX5_init 57 = .ok (.new 11, 3) from by decide +kernel) rfl rfl rfl ?_
  refine tc_dup (q := 61) C (show decode cX5_init 60 = .ok (.dup, 1) from by decide +kernel) rfl rfl ?_
  refine tc_aload_n (i := 2) (q := 62) C (show decode cX5_init 61 = .ok (.aload_n 2, 1) from by decide +kernel) rfl rfl rfl ?_
  refine tc_init (j := 12) (tl0 := (.inr (5, [.int 0, .int 0, .ref t1, .ref t0, .ref ((xo κ).1 + (M.length + 1)), .ref ((xo κ).1 + (M.length + 2)), .ref ((xo κ).1 + (M.length + 3)), .int 0, .int (-1 : Int32)]) :: (.inl ((xo κ).2.2.1 24, 7, .inr (.inr (.inr (.inr (va_up (va_up (fun _ => none) 0 (some ((xo κ).1 + (M.length + 4)))) 1 (some ((xo κ).1 + (M.length + 8)))))))) :: (.inl ((xo κ).2.2.1 20, 6, .inl (fun _ => 0)) :: (.inl ((xo κ).2.2.1 20, 6, .inl (fun _ => 0)) :: (tl_X9 (xo κ) (M.length + 4) (t1) ++ tl_X9 (xo κ) (M.length + 8) (t1))))))) (tl' := (.inr (5, [.int 0, .int 0, .ref t1, .ref t0, .ref ((xo κ).1 + (M.length + 1)), .ref ((xo κ).1 + (M.length + 2)), .ref ((xo κ).1 + (M.length + 3)), .int 0, .int (-1 : Int32)]) :: (.inl ((xo κ).2.2.1 24, 7, .inr (.inr (.inr (.inr (va_up (va_up (fun _ => none) 0 (some ((xo κ).1 + (M.length + 4)))) 1 (some ((xo κ).1 + (M.length + 8)))))))) :: (.inl ((xo κ).2.2.1 20, 6, .inl (fun _ => 0)) :: (.inl ((xo κ).2.2.1 20, 6, .inl (fun _ => 0)) :: (tl_X9 (xo κ) (M.length + 4) (t1) ++ (tl_X9 (xo κ) (M.length + 8) (t1) ++ tl_X9 (xo κ) (M.length + 12) (t1)))))))) (As := [.ref t1]) (st := [xad κ (M.length + 12), .int (2 : Int32), xad κ (M.length + 1)]) (q := 65) C cy_X9 ((lw_m (lt2 (List.mem_of_getElem? (i := 52) rfl)) rfl)) (ci_X9 (xo κ) (M ++ (.inr (5, [.int 0, .int 0, .ref t1, .ref t0, .ref ((xo κ).1 + (M.length + 1)), .ref ((xo κ).1 + (M.length + 2)), .ref ((xo κ).1 + (M.length + 3)), .int 0, .int (-1 : Int32)]) :: (.inl ((xo κ).2.2.1 24, 7, .inr (.inr (.inr (.inr (va_up (va_up (fun _ => none) 0 (some ((xo κ).1 + (M.length + 4)))) 1 (some ((xo κ).1 + (M.length + 8)))))))) :: (.inl ((xo κ).2.2.1 20, 6, .inl (fun _ => 0)) :: (.inl ((xo κ).2.2.1 20, 6, .inl (fun _ => 0)) :: (tl_X9 (xo κ) (M.length + 4) (t1) ++ tl_X9 (xo κ) (M.length + 8) (t1))))))) (M.length + 12) (t1) (by rw [List.length_append]; rfl)) rfl rfl rfl rfl (by omega) (by decide) (by decide) (Nat.le_of_ble_eq_true rfl) rfl (by omega) (by omega) (show decode cX5_init 62 = .ok (.invokespecial 36, 3) from by decide +kernel) rfl ?_
  refine tc_aast (t := 24) (t0 := 4) (j := 1) (j1 := 12) (ci := 9) (n := 7) (f' := (va_up (va_up (va_up (fun _ => none) 0 (some ((xo κ).1 + (M.length + 4)))) 1 (some ((xo κ).1 + (M.length + 8)))) 2 (some ((xo κ).1 + (M.length + 12))))) (tl' := (.inr (5, [.int 0, .int 0, .ref t1, .ref t0, .ref ((xo κ).1 + (M.length + 1)), .ref ((xo κ).1 + (M.length + 2)), .ref ((xo κ).1 + (M.length + 3)), .int 0, .int (-1 : Int32)]) :: (.inl ((xo κ).2.2.1 24, 7, .inr (.inr (.inr (.inr (va_up (va_up (va_up (fun _ => none) 0 (some ((xo κ).1 + (M.length + 4)))) 1 (some ((xo κ).1 + (M.length + 8)))) 2 (some ((xo κ).1 + (M.length + 12)))))))) :: (.inl ((xo κ).2.2.1 20, 6, .inl (fun _ => 0)) :: (.inl ((xo κ).2.2.1 20, 6, .inl (fun _ => 0)) :: (tl_X9 (xo κ) (M.length + 4) (t1) ++ (tl_X9 (xo κ) (M.length + 8) (t1) ++ tl_X9 (xo κ) (M.length + 12) (t1)))))))) (q := 66) C rfl rfl rfl rfl (show ¬ ((2 : Int32) < 0 ∨ 7 ≤ (2 : Int32).toNatClampNeg) by decide) rfl rfl (show decode cX5_init 65 = .ok (.aastore, 1) from by decide +kernel) rfl ?_
  refine tc_iinc (v := (3 : Int32)) (L' := [some (xad κ (M.length + 0)), some (.ref t0), some (.ref t1), some (.int (3 : Int32))]) (q := 69) C (show decode cX5_init 66 = .ok (.iinc 3 1, 3) from by decide +kernel) rfl (by decide) (by decide) rfl rfl ?_
  refine tc_goto (q := 46) C (show decode cX5_init 69 = .ok (.goto (-23), 3) from by decide +kernel) (by decide) ?_
  refine tc_iload_n (i := 3) (q := 47) C (show decode cX5_init 46 = .ok (.iload_n 3, 1) from by decide +kernel) rfl rfl rfl ?_
  refine tc_bipush (v := (6 : Int32)) (q := 49) C (show decode cX5_init 47 = .ok (.bipush 6, 2) from by decide +kernel) (by decide) rfl ?_
  refine tc_gtF (q := 52) C 72 (show decode cX5_init 49 = .ok (.if_icmp .gt 23, 3) from by decide +kernel) (by decide) (by decide) rfl ?_
  refine tc_aload_n (i := 0) (q := 53) C (show decode cX5_init 52 = .ok (.aload_n 0, 1) from by decide +kernel) rfl rfl rfl ?_
  refine tc_get (ci := 5) (k := 4) (j := 0) (q := 56) C rfl (by decide) ((lw_m (lt2 (List.mem_of_getElem? (i := 59) rfl)) rfl)) rfl rfl (show decode cX5_init 53 = .ok (.getfield 13, 3) from by decide +kernel) rfl ?_
  refine tc_iload_n (i := 3) (q := 57) C (show decode cX5_init 56 = .ok (.iload_n 3, 1) from by decide +kernel) rfl rfl rfl ?_
  refine tc_new (j := 16) (fs := df_X9) (tl' := (.inr (5, [.int 0, .int 0, .ref t1, .ref t0, .ref ((xo κ).1 + (M.length + 1)), .ref ((xo κ).1 + (M.length + 2)), .ref ((xo κ).1 + (M.length + 3)), .int 0, .int (-1 : Int32)]) :: (.inl ((xo κ).2.2.1 24, 7, .inr (.inr (.inr (.inr (va_up (va_up (va_up (fun _ => none) 0 (some ((xo κ).1 + (M.length + 4)))) 1 (some ((xo κ).1 + (M.length + 8)))) 2 (some ((xo κ).1 + (M.length + 12)))))))) :: (.inl ((xo κ).2.2.1 20, 6, .inl (fun _ => 0)) :: (.inl ((xo κ).2.2.1 20, 6, .inl (fun _ => 0)) :: (tl_X9 (xo κ) (M.length + 4) (t1) ++ (tl_X9 (xo κ) (M.length + 8) (t1) ++ (tl_X9 (xo κ) (M.length + 12) (t1) ++ [.inr (9, [.null, .int 0, .null, .null, .null])])))))))) (q := 60) C tyX9 tyX9_ok rfl (lw_m (lt2 (List.mem_of_getElem? (i := 50) rfl)) rfl) (lw_m (lt1 (List.mem_of_getElem? (i := 189) rfl)) rfl) (lw_m (lt1 (List.mem_of_getElem? (i := 4) rfl)) rfl) dfX9_ok (by omega) (by omega) (by omega) (show decode cX5_init 57 = .ok (.new 11, 3) from by decide +kernel) rfl rfl rfl ?_
  refine tc_dup (q := 61) C (show decode cX5_init 60 = .ok (.dup, 1) from by decide +kernel) rfl rfl ?_
  refine tc_aload_n (i := 2) (q := 62) C (show decode cX5_init 61 = .ok (.aload_n 2, 1) from by decide +kernel) rfl rfl rfl ?_
  refine tc_init (j := 16) (tl0 := (.inr (5, [.int 0, .int 0, .ref t1, .ref t0, .ref ((xo κ).1 + (M.length + 1)), .ref ((xo κ).1 + (M.length + 2)), .ref ((xo κ).1 + (M.length + 3)), .int 0, .int (-1 : Int32)]) :: (.inl ((xo κ).2.2.1 24, 7, .inr (.inr (.inr (.inr (va_up (va_up (va_up (fun _ => none) 0 (some ((xo κ).1 + (M.length + 4)))) 1 (some ((xo κ).1 + (M.length + 8)))) 2 (some ((xo κ).1 + (M.length + 12)))))))) :: (.inl ((xo κ).2.2.1 20, 6, .inl (fun _ => 0)) :: (.inl ((xo κ).2.2.1 20, 6, .inl (fun _ => 0)) :: (tl_X9 (xo κ) (M.length + 4) (t1) ++ (tl_X9 (xo κ) (M.length + 8) (t1) ++ tl_X9 (xo κ) (M.length + 12) (t1)))))))) (tl' := (.inr (5, [.int 0, .int 0, .ref t1, .ref t0, .ref ((xo κ).1 + (M.length + 1)), .ref ((xo κ).1 + (M.length + 2)), .ref ((xo κ).1 + (M.length + 3)), .int 0, .int (-1 : Int32)]) :: (.inl ((xo κ).2.2.1 24, 7, .inr (.inr (.inr (.inr (va_up (va_up (va_up (fun _ => none) 0 (some ((xo κ).1 + (M.length + 4)))) 1 (some ((xo κ).1 + (M.length + 8)))) 2 (some ((xo κ).1 + (M.length + 12)))))))) :: (.inl ((xo κ).2.2.1 20, 6, .inl (fun _ => 0)) :: (.inl ((xo κ).2.2.1 20, 6, .inl (fun _ => 0)) :: (tl_X9 (xo κ) (M.length + 4) (t1) ++ (tl_X9 (xo κ) (M.length + 8) (t1) ++ (tl_X9 (xo κ) (M.length + 12) (t1) ++ tl_X9 (xo κ) (M.length + 16) (t1))))))))) (As := [.ref t1]) (st := [xad κ (M.length + 16), .int (3 : Int32), xad κ (M.length + 1)]) (q := 65) C cy_X9 ((lw_m (lt2 (List.mem_of_getElem? (i := 52) rfl)) rfl)) (ci_X9 (xo κ) (M ++ (.inr (5, [.int 0, .int 0, .ref t1, .ref t0, .ref ((xo κ).1 + (M.length + 1)), .ref ((xo κ).1 + (M.length + 2)), .ref ((xo κ).1 + (M.length + 3)), .int 0, .int (-1 : Int32)]) :: (.inl ((xo κ).2.2.1 24, 7, .inr (.inr (.inr (.inr (va_up (va_up (va_up (fun _ => none) 0 (some ((xo κ).1 + (M.length + 4)))) 1 (some ((xo κ).1 + (M.length + 8)))) 2 (some ((xo κ).1 + (M.length + 12)))))))) :: (.inl ((xo κ).2.2.1 20, 6, .inl (fun _ => 0)) :: (.inl ((xo κ).2.2.1 20, 6, .inl (fun _ => 0)) :: (tl_X9 (xo κ) (M.length + 4) (t1) ++ (tl_X9 (xo κ) (M.length + 8) (t1) ++ tl_X9 (xo κ) (M.length + 12) (t1)))))))) (M.length + 16) (t1) (by rw [List.length_append]; rfl)) rfl rfl rfl rfl (by omega) (by decide) (by decide) (Nat.le_of_ble_eq_true rfl) rfl (by omega) (by omega) (show decode cX5_init 62 = .ok (.invokespecial 36, 3) from by decide +kernel) rfl ?_
  refine tc_aast (t := 24) (t0 := 4) (j := 1) (j1 := 16) (ci := 9) (n := 7) (f' := (va_up (va_up (va_up (va_up (fun _ => none) 0 (some ((xo κ).1 + (M.length + 4)))) 1 (some ((xo κ).1 + (M.length + 8)))) 2 (some ((xo κ).1 + (M.length + 12)))) 3 (some ((xo κ).1 + (M.length + 16))))) (tl' := (.inr (5, [.int 0, .int 0, .ref t1, .ref t0, .ref ((xo κ).1 + (M.length + 1)), .ref ((xo κ).1 + (M.length + 2)), .ref ((xo κ).1 + (M.length + 3)), .int 0, .int (-1 : Int32)]) :: (.inl ((xo κ).2.2.1 24, 7, .inr (.inr (.inr (.inr (va_up (va_up (va_up (va_up (fun _ => none) 0 (some ((xo κ).1 + (M.length + 4)))) 1 (some ((xo κ).1 + (M.length + 8)))) 2 (some ((xo κ).1 + (M.length + 12)))) 3 (some ((xo κ).1 + (M.length + 16)))))))) :: (.inl ((xo κ).2.2.1 20, 6, .inl (fun _ => 0)) :: (.inl ((xo κ).2.2.1 20, 6, .inl (fun _ => 0)) :: (tl_X9 (xo κ) (M.length + 4) (t1) ++ (tl_X9 (xo κ) (M.length + 8) (t1) ++ (tl_X9 (xo κ) (M.length + 12) (t1) ++ tl_X9 (xo κ) (M.length + 16) (t1))))))))) (q := 66) C rfl rfl rfl rfl (show ¬ ((3 : Int32) < 0 ∨ 7 ≤ (3 : Int32).toNatClampNeg) by decide) rfl rfl (show decode cX5_init 65 = .ok (.aastore, 1) from by decide +kernel) rfl ?_
  refine tc_iinc (v := (4 : Int32)) (L' := [some (xad κ (M.length + 0)), some (.ref t0), some (.ref t1), some (.int (4 : Int32))]) (q := 69) C (show decode cX5_init 66 = .ok (.iinc 3 1, 3) from by decide +kernel) rfl (by decide) (by decide) rfl rfl ?_
  refine tc_goto (q := 46) C (show decode cX5_init 69 = .ok (.goto (-23), 3) from by decide +kernel) (by decide) ?_
  refine tc_iload_n (i := 3) (q := 47) C (show decode cX5_init 46 = .ok (.iload_n 3, 1) from by decide +kernel) rfl rfl rfl ?_
  refine tc_bipush (v := (6 : Int32)) (q := 49) C (show decode cX5_init 47 = .ok (.bipush 6, 2) from by decide +kernel) (by decide) rfl ?_
  refine tc_gtF (q := 52) C 72 (show decode cX5_init 49 = .ok (.if_icmp .gt 23, 3) from by decide +kernel) (by decide) (by decide) rfl ?_
  refine tc_aload_n (i := 0) (q := 53) C (show decode cX5_init 52 = .ok (.aload_n 0, 1) from by decide +kernel) rfl rfl rfl ?_
  refine tc_get (ci := 5) (k := 4) (j := 0) (q := 56) C rfl (by decide) ((lw_m (lt2 (List.mem_of_getElem? (i := 59) rfl)) rfl)) rfl rfl (show decode cX5_init 53 = .ok (.getfield 13, 3) from by decide +kernel) rfl ?_
  refine tc_iload_n (i := 3) (q := 57) C (show decode cX5_init 56 = .ok (.iload_n 3, 1) from by decide +kernel) rfl rfl rfl ?_
  refine tc_new (j := 20) (fs := df_X9) (tl' := (.inr (5, [.int 0, .int 0, .ref t1, .ref t0, .ref ((xo κ).1 + (M.length + 1)), .ref ((xo κ).1 + (M.length + 2)), .ref ((xo κ).1 + (M.length + 3)), .int 0, .int (-1 : Int32)]) :: (.inl ((xo κ).2.2.1 24, 7, .inr (.inr (.inr (.inr (va_up (va_up (va_up (va_up (fun _ => none) 0 (some ((xo κ).1 + (M.length + 4)))) 1 (some ((xo κ).1 + (M.length + 8)))) 2 (some ((xo κ).1 + (M.length + 12)))) 3 (some ((xo κ).1 + (M.length + 16)))))))) :: (.inl ((xo κ).2.2.1 20, 6, .inl (fun _ => 0)) :: (.inl ((xo κ).2.2.1 20, 6, .inl (fun _ => 0)) :: (tl_X9 (xo κ) (M.length + 4) (t1) ++ (tl_X9 (xo κ) (M.length + 8) (t1) ++ (tl_X9 (xo κ) (M.length + 12) (t1) ++ (tl_X9 (xo κ) (M.length + 16) (t1) ++ [.inr (9, [.null, .int 0, .null, .null, .null])]))))))))) (q := 60) C tyX9 tyX9_ok rfl (lw_m (lt2 (List.mem_of_getElem? (i := 50) rfl)) rfl) (lw_m (lt1 (List.mem_of_getElem? (i := 189) rfl)) rfl) (lw_m (lt1 (List.mem_of_getElem? (i := 4) rfl)) rfl) dfX9_ok (by omega) (by omega) (by omega) (show decode cX5_init 57 = .ok (.new 11, 3) from by decide +kernel) rfl rfl rfl ?_
  refine tc_dup (q := 61) C (show decode cX5_init 60 = .ok (.dup, 1) from by decide +kernel) rfl rfl ?_
  refine tc_aload_n (i := 2) (q := 62) C (show decode cX5_init 61 = .ok (.aload_n 2, 1) from by decide +kernel) rfl rfl rfl ?_
  refine tc_init (j := 20) (tl0 := (.inr (5, [.int 0, .int 0, .ref t1, .ref t0, .ref ((xo κ).1 + (M.length + 1)), .ref ((xo κ).1 + (M.length + 2)), .ref ((xo κ).1 + (M.length + 3)), .int 0, .int (-1 : Int32)]) :: (.inl ((xo κ).2.2.1 24, 7, .inr (.inr (.inr (.inr (va_up (va_up (va_up (va_up (fun _ => none) 0 (some ((xo κ).1 + (M.length + 4)))) 1 (some ((xo κ).1 + (M.length + 8)))) 2 (some ((xo κ).1 + (M.length + 12)))) 3 (some ((xo κ).1 + (M.length + 16)))))))) :: (.inl ((xo κ).2.2.1 20, 6, .inl (fun _ => 0)) :: (.inl ((xo κ).2.2.1 20, 6, .inl (fun _ => 0)) :: (tl_X9 (xo κ) (M.length + 4) (t1) ++ (tl_X9 (xo κ) (M.length + 8) (t1) ++ (tl_X9 (xo κ) (M.length + 12) (t1) ++ tl_X9 (xo κ) (M.length + 16) (t1))))))))) (tl' := (.inr (5, [.int 0, .int 0, .ref t1, .ref t0, .ref ((xo κ).1 + (M.length + 1)), .ref ((xo κ).1 + (M.length + 2)), .ref ((xo κ).1 + (M.length + 3)), .int 0, .int (-1 : Int32)]) :: (.inl ((xo κ).2.2.1 24, 7, .inr (.inr (.inr (.inr (va_up (va_up (va_up (va_up (fun _ => none) 0 (some ((xo κ).1 + (M.length + 4)))) 1 (some ((xo κ).1 + (M.length + 8)))) 2 (some ((xo κ).1 + (M.length + 12)))) 3 (some ((xo κ).1 + (M.length + 16)))))))) :: (.inl ((xo κ).2.2.1 20, 6, .inl (fun _ => 0)) :: (.inl ((xo κ).2.2.1 20, 6, .inl (fun _ => 0)) :: (tl_X9 (xo κ) (M.length + 4) (t1) ++ (tl_X9 (xo κ) (M.length + 8) (t1) ++ (tl_X9 (xo κ) (M.length + 12) (t1) ++ (tl_X9 (xo κ) (M.length + 16) (t1) ++ tl_X9 (xo κ) (M.length + 20) (t1)))))))))) (As := [.ref t1]) (st := [xad κ (M.length + 20), .int (4 : Int32), xad κ (M.length + 1)]) (q := 65) C cy_X9 ((lw_m (lt2 (List.mem_of_getElem? (i := 52) rfl)) rfl)) (ci_X9 (xo κ) (M ++ (.inr (5, [.int 0, .int 0, .ref t1, .ref t0, .ref ((xo κ).1 + (M.length + 1)), .ref ((xo κ).1 + (M.length + 2)), .ref ((xo κ).1 + (M.length + 3)), .int 0, .int (-1 : Int32)]) :: (.inl ((xo κ).2.2.1 24, 7, .inr (.inr (.inr (.inr (va_up (va_up (va_up (va_up (fun _ => none) 0 (some ((xo κ).1 + (M.length + 4)))) 1 (some ((xo κ).1 + (M.length + 8)))) 2 (some ((xo κ).1 + (M.length + 12)))) 3 (some ((xo κ).1 + (M.length + 16)))))))) :: (.inl ((xo κ).2.2.1 20, 6, .inl (fun _ => 0)) :: (.inl ((xo κ).2.2.1 20, 6, .inl (fun _ => 0)) :: (tl_X9 (xo κ) (M.length + 4) (t1) ++ (tl_X9 (xo κ) (M.length + 8) (t1) ++ (tl_X9 (xo κ) (M.length + 12) (t1) ++ tl_X9 (xo κ) (M.length + 16) (t1))))))))) (M.length + 20) (t1) (by rw [List.length_append]; rfl)) rfl rfl rfl rfl (by omega) (by decide) (by decide) (Nat.le_of_ble_eq_true rfl) rfl (by omega) (by omega) (show decode cX5_init 62 = .ok (.invokespecial 36, 3) from by decide +kernel) rfl ?_
  refine tc_aast (t := 24) (t0 := 4) (j := 1) (j1 := 20) (ci := 9) (n := 7) (f' := (va_up (va_up (va_up (va_up (va_up (fun _ => none) 0 (some ((xo κ).1 + (M.length + 4)))) 1 (some ((xo κ).1 + (M.length + 8)))) 2 (some ((xo κ).1 + (M.length + 12)))) 3 (some ((xo κ).1 + (M.length + 16)))) 4 (some ((xo κ).1 + (M.length + 20))))) (tl' := (.inr (5, [.int 0, .int 0, .ref t1, .ref t0, .ref ((xo κ).1 + (M.length + 1)), .ref ((xo κ).1 + (M.length + 2)), .ref ((xo κ).1 + (M.length + 3)), .int 0, .int (-1 : Int32)]) :: (.inl ((xo κ).2.2.1 24, 7, .inr (.inr (.inr (.inr (va_up (va_up (va_up (va_up (va_up (fun _ => none) 0 (some ((xo κ).1 + (M.length + 4)))) 1 (some ((xo κ).1 + (M.length + 8)))) 2 (some ((xo κ).1 + (M.length + 12)))) 3 (some ((xo κ).1 + (M.length + 16)))) 4 (some ((xo κ).1 + (M.length + 20)))))))) :: (.inl ((xo κ).2.2.1 20, 6, .inl (fun _ => 0)) :: (.inl ((xo κ).2.2.1 20, 6, .inl (fun _ => 0)) :: (tl_X9 (xo κ) (M.length + 4) (t1) ++ (tl_X9 (xo κ) (M.length + 8) (t1) ++ (tl_X9 (xo κ) (M.length + 12) (t1) ++ (tl_X9 (xo κ) (M.length + 16) (t1) ++ tl_X9 (xo κ) (M.length + 20) (t1)))))))))) (q := 66) C rfl rfl rfl rfl (show ¬ ((4 : Int32) < 0 ∨ 7 ≤ (4 : Int32).toNatClampNeg) by decide) rfl rfl (show decode cX5_init 65 = .ok (.aastore, 1) from by decide +kernel) rfl ?_
  refine tc_iinc (v := (5 : Int32)) (L' := [some (xad κ (M.length + 0)), some (.ref t0), some (.ref t1), some (.int (5 : Int32))]) (q := 69) C (show decode cX5_init 66 = .ok (.iinc 3 1, 3) from by decide +kernel) rfl (by decide) (by decide) rfl rfl ?_
  refine tc_goto (q := 46) C (show decode cX5_init 69 = .ok (.goto (-23), 3) from by decide +kernel) (by decide) ?_
  refine tc_iload_n (i := 3) (q := 47) C (show decode cX5_init 46 = .ok (.iload_n 3, 1) from by decide +kernel) rfl rfl rfl ?_
  refine tc_bipush (v := (6 : Int32)) (q := 49) C (show decode cX5_init 47 = .ok (.bipush 6, 2) from by decide +kernel) (by decide) rfl ?_
  refine tc_gtF (q := 52) C 72 (show decode cX5_init 49 = .ok (.if_icmp .gt 23, 3) from by decide +kernel) (by decide) (by decide) rfl ?_
  refine tc_aload_n (i := 0) (q := 53) C (show decode cX5_init 52 = .ok (.aload_n 0, 1) from by decide +kernel) rfl rfl rfl ?_
  refine tc_get (ci := 5) (k := 4) (j := 0) (q := 56) C rfl (by decide) ((lw_m (lt2 (List.mem_of_getElem? (i := 59) rfl)) rfl)) rfl rfl (show decode cX5_init 53 = .ok (.getfield 13, 3) from by decide +kernel) rfl ?_
  refine tc_iload_n (i := 3) (q := 57) C (show decode cX5_init 56 = .ok (.iload_n 3, 1) from by decide +kernel) rfl rfl rfl ?_
  refine tc_new (j := 24) (fs := df_X9) (tl' := (.inr (5, [.int 0, .int 0, .ref t1, .ref t0, .ref ((xo κ).1 + (M.length + 1)), .ref ((xo κ).1 + (M.length + 2)), .ref ((xo κ).1 + (M.length + 3)), .int 0, .int (-1 : Int32)]) :: (.inl ((xo κ).2.2.1 24, 7, .inr (.inr (.inr (.inr (va_up (va_up (va_up (va_up (va_up (fun _ => none) 0 (some ((xo κ).1 + (M.length + 4)))) 1 (some ((xo κ).1 + (M.length + 8)))) 2 (some ((xo κ).1 + (M.length + 12)))) 3 (some ((xo κ).1 + (M.length + 16)))) 4 (some ((xo κ).1 + (M.length + 20)))))))) :: (.inl ((xo κ).2.2.1 20, 6, .inl (fun _ => 0)) :: (.inl ((xo κ).2.2.1 20, 6, .inl (fun _ => 0)) :: (tl_X9 (xo κ) (M.length + 4) (t1) ++ (tl_X9 (xo κ) (M.length + 8) (t1) ++ (tl_X9 (xo κ) (M.length + 12) (t1) ++ (tl_X9 (xo κ) (M.length + 16) (t1) ++ (tl_X9 (xo κ) (M.length + 20) (t1) ++ [.inr (9, [.null, .int 0, .null, .null, .null])])))))))))) (q := 60) C tyX9 tyX9_ok rfl (lw_m (lt2 (List.mem_of_getElem? (i := 50) rfl)) rfl) (lw_m (lt1 (List.mem_of_getElem? (i := 189) rfl)) rfl) (lw_m (lt1 (List.mem_of_getElem? (i := 4) rfl)) rfl) dfX9_ok (by omega) (by omega) (by omega) (show decode cX5_init 57 = .ok (.new 11, 3) from by decide +kernel) rfl rfl rfl ?_
  refine tc_dup (q := 61) C (show decode cX5_init 60 = .ok (.dup, 1) from by decide +kernel) rfl rfl ?_
  refine tc_aload_n (i := 2) (q := 62) C (show decode cX5_init 61 = .ok (.aload_n 2, 1) from by decide +kernel) rfl rfl rfl ?_
  refine tc_init (j := 24) (tl0 := (.inr (5, [.int 0, .int 0, .ref t1, .ref t0, .ref ((xo κ).1 + (M.length + 1)), .ref ((xo κ).1 + (M.length + 2)), .ref ((xo κ).1 + (M.length + 3)), .int 0, .int (-1 : Int32)]) :: (.inl ((xo κ).2.2.1 24, 7, .inr (.inr (.inr (.inr (va_up (va_up (va_up (va_up (va_up (fun _ => none) 0 (some ((xo κ).1 + (M.length + 4)))) 1 (some ((xo κ).1 + (M.length + 8)))) 2 (some ((xo κ).1 + (M.length + 12)))) 3 (some ((xo κ).1 + (M.length + 16)))) 4 (some ((xo κ).1 + (M.length + 20)))))))) :: (.inl ((xo κ).2.2.1 20, 6, .inl (fun _ => 0)) :: (.inl ((xo κ).2.2.1 20, 6, .inl (fun _ => 0)) :: (tl_X9 (xo κ) (M.length + 4) (t1) ++ (tl_X9 (xo κ) (M.length + 8) (t1) ++ (tl_X9 (xo κ) (M.length + 12) (t1) ++ (tl_X9 (xo κ) (M.length + 16) (t1) ++ tl_X9 (xo κ) (M.length + 20) (t1)))))))))) (tl' := (.inr (5, [.int 0, .int 0, .ref t1, .ref t0, .ref ((xo κ).1 + (M.length + 1)), .ref ((xo κ).1 + (M.length + 2)), .ref ((xo κ).1 + (M.length + 3)), .int 0, .int (-1 : Int32)]) :: (.inl ((xo κ).2.2.1 24, 7, .inr (.inr (.inr (.inr (va_up (va_up (va_up (va_up (va_up (fun _ => none) 0 (some ((xo κ).1 + (M.length + 4)))) 1 (some ((xo κ).1 + (M.length + 8)))) 2 (some ((xo κ).1 + (M.length + 12)))) 3 (some ((xo κ).1 + (M.length + 16)))) 4 (some ((xo κ).1 + (M.length + 20)))))))) :: (.inl ((xo κ).2.2.1 20, 6, .inl (fun _ => 0)) :: (.inl ((xo κ).2.2.1 20, 6, .inl (fun _ => 0)) :: (tl_X9 (xo κ) (M.length + 4) (t1) ++ (tl_X9 (xo κ) (M.length + 8) (t1) ++ (tl_X9 (xo κ) (M.length + 12) (t1) ++ (tl_X9 (xo κ) (M.length + 16) (t1) ++ (tl_X9 (xo κ) (M.length + 20) (t1) ++ tl_X9 (xo κ) (M.length + 24) (t1))))))))))) (As := [.ref t1]) (st := [xad κ (M.length + 24), .int (5 : Int32), xad κ (M.length + 1)]) (q := 65) C cy_X9 ((lw_m (lt2 (List.mem_of_getElem? (i := 52) rfl)) rfl)) (ci_X9 (xo κ) (M ++ (.inr (5, [.int 0, .int 0, .ref t1, .ref t0, .ref ((xo κ).1 + (M.length + 1)), .ref ((xo κ).1 + (M.length + 2)), .ref ((xo κ).1 + (M.length + 3)), .int 0, .int (-1 : Int32)]) :: (.inl ((xo κ).2.2.1 24, 7, .inr (.inr (.inr (.inr (va_up (va_up (va_up (va_up (va_up (fun _ => none) 0 (some ((xo κ).1 + (M.length + 4)))) 1 (some ((xo κ).1 + (M.length + 8)))) 2 (some ((xo κ).1 + (M.length + 12)))) 3 (some ((xo κ).1 + (M.length + 16)))) 4 (some ((xo κ).1 + (M.length + 20)))))))) :: (.inl ((xo κ).2.2.1 20, 6, .inl (fun _ => 0)) :: (.inl ((xo κ).2.2.1 20, 6, .inl (fun _ => 0)) :: (tl_X9 (xo κ) (M.length + 4) (t1) ++ (tl_X9 (xo κ) (M.length + 8) (t1) ++ (tl_X9 (xo κ) (M.length + 12) (t1) ++ (tl_X9 (xo κ) (M.length + 16) (t1) ++ tl_X9 (xo κ) (M.length + 20) (t1)))))))))) (M.length + 24) (t1) (by rw [List.length_append]; rfl)) rfl rfl rfl rfl (by omega) (by decide) (by decide) (Nat.le_of_ble_eq_true rfl) rfl (by omega) (by omega) (show decode cX5_init 62 = .ok (.invokespecial 36, 3) from by decide +kernel) rfl ?_
  refine tc_aast (t := 24) (t0 := 4) (j := 1) (j1 := 24) (ci := 9) (n := 7) (f' := (va_up (va_up (va_up (va_up (va_up (va_up (fun _ => none) 0 (some ((xo κ).1 + (M.length + 4)))) 1 (some ((xo κ).1 + (M.length + 8)))) 2 (some ((xo κ).1 + (M.length + 12)))) 3 (some ((xo κ).1 + (M.length + 16)))) 4 (some ((xo κ).1 + (M.length + 20)))) 5 (some ((xo κ).1 + (M.length + 24))))) (tl' := (.inr (5, [.int 0, .int 0, .ref t1, .ref t0, .ref ((xo κ).1 + (M.length + 1)), .ref ((xo κ).1 + (M.length + 2)), .ref ((xo κ).1 + (M.length + 3)), .int 0, .int (-1 : Int32)]) :: (.inl ((xo κ).2.2.1 24, 7, .inr (.inr (.inr (.inr (va_up (va_up (va_up (va_up (va_up (va_up (fun _ => none) 0 (some ((xo κ).1 + (M.length + 4)))) 1 (some ((xo κ).1 + (M.length + 8)))) 2 (some ((xo κ).1 + (M.length + 12)))) 3 (some ((xo κ).1 + (M.length + 16)))) 4 (some ((xo κ).1 + (M.length + 20)))) 5 (some ((xo κ).1 + (M.length + 24)))))))) :: (.inl ((xo κ).2.2.1 20, 6, .inl (fun _ => 0)) :: (.inl ((xo κ).2.2.1 20, 6, .inl (fun _ => 0)) :: (tl_X9 (xo κ) (M.length + 4) (t1) ++ (tl_X9 (xo κ) (M.length + 8) (t1) ++ (tl_X9 (xo κ) (M.length + 12) (t1) ++ (tl_X9 (xo κ) (M.length + 16) (t1) ++ (tl_X9 (xo κ) (M.length + 20) (t1) ++ tl_X9 (xo κ) (M.length + 24) (t1))))))))))) (q := 66) C rfl rfl rfl rfl (show ¬ ((5 : Int32) < 0 ∨ 7 ≤ (5 : Int32).toNatClampNeg) by decide) rfl rfl (show decode cX5_init 65 = .ok (.aastore, 1) from by decide +kernel) rfl ?_
  refine tc_iinc (v := (6 : Int32)) (L' := [some (xad κ (M.length + 0)), some (.ref t0), some (.ref t1), some (.int (6 : Int32))]) (q := 69) C (show decode cX5_init 66 = .ok (.iinc 3 1, 3) from by decide +kernel) rfl (by decide) (by decide) rfl rfl ?_
  refine tc_goto (q := 46) C (show decode cX5_init 69 = .ok (.goto (-23), 3) from by decide +kernel) (by decide) ?_
  refine tc_iload_n (i := 3) (q := 47) C (show decode cX5_init 46 = .ok (.iload_n 3, 1) from by decide +kernel) rfl rfl rfl ?_
  refine tc_bipush (v := (6 : Int32)) (q := 49) C (show decode cX5_init 47 = .ok (.bipush 6, 2) from by decide +kernel) (by decide) rfl ?_
  refine tc_gtF (q := 52) C 72 (show decode cX5_init 49 = .ok (.if_icmp .gt 23, 3) from by decide +kernel) (by decide) (by decide) rfl ?_
  refine tc_aload_n (i := 0) (q := 53) C (show decode cX5_init 52 = .ok (.aload_n 0, 1) from by decide +kernel) rfl rfl rfl ?_
  refine tc_get (ci := 5) (k := 4) (j := 0) (q := 56) C rfl (by decide) ((lw_m (lt2 (List.mem_of_getElem? (i := 59) rfl)) rfl)) rfl rfl (show decode cX5_init 53 = .ok (.getfield 13, 3) from by decide +kernel) rfl ?_
  refine tc_iload_n (i := 3) (q := 57) C (show decode cX5_init 56 = .ok (.iload_n 3, 1) from by decide +kernel) rfl rfl rfl ?_
  refine tc_new (j := 28) (fs := df_X9) (tl' := (.inr (5, [.int 0, .int 0, .ref t1, .ref t0, .ref ((xo κ).1 + (M.length + 1)), .ref ((xo κ).1 + (M.length + 2)), .ref ((xo κ).1 + (M.length + 3)), .int 0, .int (-1 : Int32)]) :: (.inl ((xo κ).2.2.1 24, 7, .inr (.inr (.inr (.inr (va_up (va_up (va_up (va_up (va_up (va_up (fun _ => none) 0 (some ((xo κ).1 + (M.length + 4)))) 1 (some ((xo κ).1 + (M.length + 8)))) 2 (some ((xo κ).1 + (M.length + 12)))) 3 (some ((xo κ).1 + (M.length + 16)))) 4 (some ((xo κ).1 + (M.length + 20)))) 5 (some ((xo κ).1 + (M.length + 24)))))))) :: (.inl ((xo κ).2.2.1 20, 6, .inl (fun _ => 0)) :: (.inl ((xo κ).2.2.1 20, 6, .inl (fun _ => 0)) :: (tl_X9 (xo κ) (M.length + 4) (t1) ++ (tl_X9 (xo κ) (M.length + 8) (t1) ++ (tl_X9 (xo κ) (M.length + 12) (t1) ++ (tl_X9 (xo κ) (M.length + 16) (t1) ++ (tl_X9 (xo κ) (M.length + 20) (t1) ++ (tl_X9 (xo κ) (M.length + 24) (t1) ++ [.inr (9, [.null, .int 0, .null, .null, .null])]))))))))))) (q := 60) C tyX9 tyX9_ok rfl (lw_m (lt2 (List.mem_of_getElem? (i := 50) rfl)) rfl) (lw_m (lt1 (List.mem_of_getElem? (i := 189) rfl)) rfl) (lw_m (lt1 (List.mem_of_getElem? (i := 4) rfl)) rfl) dfX9_ok (by omega) (by omega) (by omega) (show decode cX5_init 57 = .ok (.new 11, 3) from by decide +kernel) rfl rfl rfl ?_
  refine tc_dup (q := 61) C (show decode cX5_init 60 = .ok (.dup, 1) from by decide +kernel) rfl rfl ?_
  refine tc_aload_n (i := 2) (q := 62) C (show decode cX5_init 61 = .ok (.aload_n 2, 1) from by decide +kernel) rfl rfl rfl ?_
  refine tc_init (j := 28) (tl0 := (.inr (5, [.int 0, .int 0, .ref t1, .ref t0, .ref ((xo κ).1 + (M.length + 1)), .ref ((xo κ).1 + (M.length + 2)), .ref ((xo κ).1 + (M.length + 3)), .int 0, .int (-1 : Int32)]) :: (.inl ((xo κ).2.2.1 24, 7, .inr (.inr (.inr (.inr (va_up (va_up (va_up (va_up (va_up (va_up (fun _ => none) 0 (some ((xo κ).1 + (M.length + 4)))) 1 (some ((xo κ).1 + (M.length + 8)))) 2 (some ((xo κ).1 + (M.length + 12)))) 3 (some ((xo κ).1 + (M.length + 16)))) 4 (some ((xo κ).1 + (M.length + 20)))) 5 (some ((xo κ).1 + (M.length + 24)))))))) :: (.inl ((xo κ).2.2.1 20, 6, .inl (fun _ => 0)) :: (.inl ((xo κ).2.2.1 20, 6, .inl (fun _ => 0)) :: (tl_X9 (xo κ) (M.length + 4) (t1) ++ (tl_X9 (xo κ) (M.length + 8) (t1) ++ (tl_X9 (xo κ) (M.length + 12) (t1) ++ (tl_X9 (xo κ) (M.length + 16) (t1) ++ (tl_X9 (xo κ) (M.length + 20) (t1) ++ tl_X9 (xo κ) (M.length + 24) (t1))))))))))) (tl' := (.inr (5, [.int 0, .int 0, .ref t1, .ref t0, .ref ((xo κ).1 + (M.length + 1)), .ref ((xo κ).1 + (M.length + 2)), .ref ((xo κ).1 + (M.length + 3)), .int 0, .int (-1 : Int32)]) :: (.inl ((xo κ).2.2.1 24, 7, .inr (.inr (.inr (.inr (va_up (va_up (va_up (va_up (va_up (va_up (fun _ => none) 0 (some ((xo κ).1 + (M.length + 4)))) 1 (some ((xo κ).1 + (M.length + 8)))) 2 (some ((xo κ).1 + (M.length + 12)))) 3 (some ((xo κ).1 + (M.length + 16)))) 4 (some ((xo κ).1 + (M.length + 20)))) 5 (some ((xo κ).1 + (M.length + 24)))))))) :: (.inl ((xo κ).2.2.1 20, 6, .inl (fun _ => 0)) :: (.inl ((xo κ).2.2.1 20, 6, .inl (fun _ => 0)) :: (tl_X9 (xo κ) (M.length + 4) (t1) ++ (tl_X9 (xo κ) (M.length + 8) (t1) ++ (tl_X9 (xo κ) (M.length + 12) (t1) ++ (tl_X9 (xo κ) (M.length + 16) (t1) ++ (tl_X9 (xo κ) (M.length + 20) (t1) ++ (tl_X9 (xo κ) (M.length + 24) (t1) ++ tl_X9 (xo κ) (M.length + 28) (t1)))))))))))) (As := [.ref t1]) (st := [xad κ (M.length + 28), .int (6 : Int32), xad κ (M.length + 1)]) (q := 65) C cy_X9 ((lw_m (lt2 (List.mem_of_getElem? (i := 52) rfl)) rfl)) (ci_X9 (xo κ) (M ++ (.inr (5, [.int 0, .int 0, .ref t1, .ref t0, .ref ((xo κ).1 + (M.length + 1)), .ref ((xo κ).1 + (M.length + 2)), .ref ((xo κ).1 + (M.length + 3)), .int 0, .int (-1 : Int32)]) :: (.inl ((xo κ).2.2.1 24, 7, .inr (.inr (.inr (.inr (va_up (va_up (va_up (va_up (va_up (va_up (fun _ => none) 0 (some ((xo κ).1 + (M.length + 4)))) 1 (some ((xo κ).1 + (M.length + 8)))) 2 (some ((xo κ).1 + (M.length + 12)))) 3 (some ((xo κ).1 + (M.length + 16)))) 4 (some ((xo κ).1 + (M.length + 20)))) 5 (some ((xo κ).1 + (M.length + 24)))))))) :: (.inl ((xo κ).2.2.1 20, 6, .inl (fun _ => 0)) :: (.inl ((xo κ).2.2.1 20, 6, .inl (fun _ => 0)) :: (tl_X9 (xo κ) (M.length + 4) (t1) ++ (tl_X9 (xo κ) (M.length + 8) (t1) ++ (tl_X9 (xo κ) (M.length + 12) (t1) ++ (tl_X9 (xo κ) (M.length + 16) (t1) ++ (tl_X9 (xo κ) (M.length + 20) (t1) ++ tl_X9 (xo κ) (M.length + 24) (t1))))))))))) (M.length + 28) (t1) (by rw [List.length_append]; rfl)) rfl rfl rfl rfl (by omega) (by decide) (by decide) (Nat.le_of_ble_eq_true rfl) rfl (by omega) (by omega) (show decode cX5_init 62 = .ok (.invokespecial 36, 3) from by decide +kernel) rfl ?_
  refine tc_aast (t := 24) (t0 := 4) (j := 1) (j1 := 28) (ci := 9) (n := 7) (f' := (va_up (va_up (va_up (va_up (va_up (va_up (va_up (fun _ => none) 0 (some ((xo κ).1 + (M.length + 4)))) 1 (some ((xo κ).1 + (M.length + 8)))) 2 (some ((xo κ).1 + (M.length + 12)))) 3 (some ((xo κ).1 + (M.length + 16)))) 4 (some ((xo κ).1 + (M.length + 20)))) 5 (some ((xo κ).1 + (M.length + 24)))) 6 (some ((xo κ).1 + (M.length + 28))))) (tl' := (.inr (5, [.int 0, .int 0, .ref t1, .ref t0, .ref ((xo κ).1 + (M.length + 1)), .ref ((xo κ).1 + (M.length + 2)), .ref ((xo κ).1 + (M.length + 3)), .int 0, .int (-1 : Int32)]) :: (.inl ((xo κ).2.2.1 24, 7, .inr (.inr (.inr (.inr (va_up (va_up (va_up (va_up (va_up (va_up (va_up (fun _ => none) 0 (some ((xo κ).1 + (M.length + 4)))) 1 (some ((xo κ).1 + (M.length + 8)))) 2 (some ((xo κ).1 + (M.length + 12)))) 3 (some ((xo κ).1 + (M.length + 16)))) 4 (some ((xo κ).1 + (M.length + 20)))) 5 (some ((xo κ).1 + (M.length + 24)))) 6 (some ((xo κ).1 + (M.length + 28)))))))) :: (.inl ((xo κ).2.2.1 20, 6, .inl (fun _ => 0)) :: (.inl ((xo κ).2.2.1 20, 6, .inl (fun _ => 0)) :: (tl_X9 (xo κ) (M.length + 4) (t1) ++ (tl_X9 (xo κ) (M.length + 8) (t1) ++ (tl_X9 (xo κ) (M.length + 12) (t1) ++ (tl_X9 (xo κ) (M.length + 16) (t1) ++ (tl_X9 (xo κ) (M.length + 20) (t1) ++ (tl_X9 (xo κ) (M.length + 24) (t1) ++ tl_X9 (xo κ) (M.length + 28) (t1)))))))))))) (q := 66) C rfl rfl rfl rfl (show ¬ ((6 : Int32) < 0 ∨ 7 ≤ (6 : Int32).toNatClampNeg) by decide) rfl rfl (show decode cX5_init 65 = .ok (.aastore, 1) from by decide +kernel) rfl ?_
  refine tc_iinc (v := (7 : Int32)) (L' := [some (xad κ (M.length + 0)), some (.ref t0), some (.ref t1), some (.int (7 : Int32))]) (q := 69) C (show decode cX5_init 66 = .ok (.iinc 3 1, 3) from by decide +kernel) rfl (by decide) (by decide) rfl rfl ?_
  refine tc_goto (q := 46) C (show decode cX5_init 69 = .ok (.goto (-23), 3) from by decide +kernel) (by decide) ?_
  refine tc_iload_n (i := 3) (q := 47) C (show decode cX5_init 46 = .ok (.iload_n 3, 1) from by decide +kernel) rfl rfl rfl ?_
  refine tc_bipush (v := (6 : Int32)) (q := 49) C (show decode cX5_init 47 = .ok (.bipush 6, 2) from by decide +kernel) (by decide) rfl ?_
  refine tc_gtT (q := 72) C (show decode cX5_init 49 = .ok (.if_icmp .gt 23, 3) from by decide +kernel) (by decide) (by decide) ?_
  exact hret _ _ _ _ (by decide) (by decide) (show decode cX5_init 72 = .ok (.return_, 1) from by decide +kernel)
def tl_X1 (ω : sm_O) (n : Nat) (t0 : Nat) : List va_E := [.inr (1, [.ref t0, .ref (ω.1 + (n + 1)), .int 0]), .inl (ω.2.2.1 20, 4, .inl (fun _ => 0))]
set_option maxHeartbeats 16000000 in
set_option maxRecDepth 100000 in
theorem ci_X1 (ω : sm_O) (M : List va_E) (n : Nat) (t0 : Nat) (hn : M.length = n) : cMt 1 1 4 yX1_init cX1_init 2 ω M (.inr (1, df_X1)) [.ref t0] (tl_X1 ω n t0) := by
  subst hn
  refine c_con (by decide) rfl (Nat.le_of_ble_eq_true rfl) ?_
  intro κ hκ hRc hRs hini0 C hret
  subst hκ
  show tT κ 0 0 0 [some (xad κ (M.length + 0)), some (.ref t0)] [] (M ++ [.inr (1, [.null, .null, .int 0])])
  refine tc_aload_n (i := 0) (q := 1) C (show decode cX1_init 0 = .ok (.aload_n 0, 1) from by decide +kernel) rfl rfl rfl ?_
  refine tc_obj (q := 4) C ((lw_m (lt2 (List.mem_of_getElem? (i := 88) rfl)) rfl)) ((lw_m (lt1 (List.mem_of_getElem? (i := 28) rfl)) rfl)) ((lw_m (lt1 (List.mem_of_getElem? (i := 29) rfl)) rfl)) (by decide) (Nat.le_of_ble_eq_true rfl) (show decode cX1_init 1 = .ok (.invokespecial 3, 3) from by decide +kernel) rfl ?_
  refine tc_aload_n (i := 0) (q := 5) C (show decode cX1_init 4 = .ok (.aload_n 0, 1) from by decide +kernel) rfl rfl rfl ?_
  refine tc_iconst (v := (4 : Int32)) (q := 6) C (show decode cX1_init 5 = .ok (.iconst 4, 1) from by decide +kernel) (by decide) rfl ?_
  refine tc_newI (j := 1) (n := 4) (tl' := [.inr (1, [.null, .null, .int 0]), .inl ((xo κ).2.2.1 20, 4, .inl (fun _ => 0))]) (q := 8) C (lw_m (lt1 (List.mem_of_getElem? (i := 148) rfl)) rfl) (by decide) (by decide) (by decide) (by omega) (by omega) (by omega) (show decode cX1_init 6 = .ok (.newarray .int, 2) from by decide +kernel) rfl rfl rfl ?_
  refine tc_put (ci := 1) (k := 1) (j := 0) (tl' := [.inr (1, [.null, .ref ((xo κ).1 + (M.length + 1)), .int 0]), .inl ((xo κ).2.2.1 20, 4, .inl (fun _ => 0))]) (q := 11) C hini0 rfl (by decide) ((lw_m (lt2 (List.mem_of_getElem? (i := 90) rfl)) rfl)) rfl (tyX1_ok 1 (by decide)) rfl rfl rfl (Nat.le_of_ble_eq_true rfl) rfl (show decode cX1_init 8 = .ok (.putfield 11, 3) from by decide +kernel) rfl ?_
  refine tc_aload_n (i := 0) (q := 12) C (show decode cX1_init 11 = .ok (.aload_n 0, 1) from by decide +kernel) rfl rfl rfl ?_
  refine tc_aload_n (i := 1) (q := 13) C (show decode cX1_init 12 = .ok (.aload_n 1, 1) from by decide +kernel) rfl rfl rfl ?_
  refine tc_put (ci := 1) (k := 0) (j := 0) (tl' := [.inr (1, [.ref t0, .ref ((xo κ).1 + (M.length + 1)), .int 0]), .inl ((xo κ).2.2.1 20, 4, .inl (fun _ => 0))]) (q := 16) C hini0 rfl (by decide) ((lw_m (lt2 (List.mem_of_getElem? (i := 89) rfl)) rfl)) rfl (tyX1_ok 0 (by decide)) rfl rfl rfl (Nat.le_of_ble_eq_true rfl) rfl (show decode cX1_init 13 = .ok (.putfield 15, 3) from by decide +kernel) rfl ?_
  exact hret _ _ _ _ (by decide) (by decide) (show decode cX1_init 16 = .ok (.return_, 1) from by decide +kernel)
def tl_X2 (ω : sm_O) (n : Nat) (t0 : Nat) : List va_E := (.inr (2, [.ref t0, .ref (ω.1 + (n + 1)), .ref (ω.1 + (n + 7)), .ref (ω.1 + (n + 13)), .ref (ω.1 + (n + 14)), .ref (ω.1 + (n + 15)), .int 0, .int 0]) :: (tl_X4 ω (n + 1) ++ (tl_X4 ω (n + 7) ++ [.inl (ω.2.2.1 20, 25, .inl (fun _ => 0)), .inl (ω.2.2.1 20, 25, .inl (fun _ => 0)), .inl (ω.2.2.1 20, 50, .inl (fun _ => 0))])))
set_option maxHeartbeats 16000000 in
set_option maxRecDepth 100000 in
theorem ci_X2 (ω : sm_O) (M : List va_E) (n : Nat) (t0 : Nat) (hn : M.length = n) : cMt 2 15 1570 yX2_init cX2_init 2 ω M (.inr (2, df_X2)) [.ref t0] (tl_X2 ω n t0) := by
  subst hn
  refine c_con (by decide) rfl (Nat.le_of_ble_eq_true rfl) ?_
  intro κ hκ hRc hRs hini0 C hret
  subst hκ
  show tT κ 0 0 0 [some (xad κ (M.length + 0)), some (.ref t0)] [] (M ++ [.inr (2, [.null, .null, .null, .null, .null, .null, .int 0, .int 0])])
  refine tc_aload_n (i := 0) (q := 1) C (show decode cX2_init 0 = .ok (.aload_n 0, 1) from by decide +kernel) rfl rfl rfl ?_
  refine tc_obj (q := 4) C ((lw_m (lt2 (List.mem_of_getElem? (i := 104) rfl)) rfl)) ((lw_m (lt1 (List.mem_of_getElem? (i := 28) rfl)) rfl)) ((lw_m (lt1 (List.mem_of_getElem? (i := 29) rfl)) rfl)) (by decide) (Nat.le_of_ble_eq_true rfl) (show decode cX2_init 1 = .ok (.invokespecial 7, 3) from by decide +kernel) rfl ?_
  refine tc_aload_n (i := 0) (q := 5) C (show decode cX2_init 4 = .ok (.aload_n 0, 1) from by decide +kernel) rfl rfl rfl ?_
  refine tc_new (j := 1) (fs := df_X4) (tl' := [.inr (2, [.null, .null, .null, .null, .null, .null, .int 0, .int 0]), .inr (4, [.int 0, .int 0, .int 0, .int 0, .int 0, .null, .null, .null, .null, .null])]) (q := 8) C tyX4 tyX4_ok rfl (lw_m (lt2 (List.mem_of_getElem? (i := 105) rfl)) rfl) (lw_m (lt2 (List.mem_of_getElem? (i := 106) rfl)) rfl) (lw_m (lt1 (List.mem_of_getElem? (i := 12) rfl)) rfl) dfX4_ok (by omega) (by omega) (by omega) (show decode cX2_init 5 = .ok (.new 1, 3) from by decide +kernel) rfl rfl rfl ?_
  refine tc_dup (q := 9) C (show decode cX2_init 8 = .ok (.dup, 1) from by decide +kernel) rfl rfl ?_
  refine tc_initN (j := 1) (tl0 := [.inr (2, [.null, .null, .null, .null, .null, .null, .int 0, .int 0])]) (tl' := (.inr (2, [.null, .null, .null, .null, .null, .null, .int 0, .int 0]) :: tl_X4 (xo κ) (M.length + 1))) (As := []) (st := [xad κ (M.length + 1), xad κ (M.length + 0)]) (q := 12) C cy_X4 (by decide +kernel) (ci_X4 (xo κ) (M ++ [.inr (2, [.null, .null, .null, .null, .null, .null, .int 0, .int 0])]) (M.length + 1) (by rw [List.length_append]; rfl)) rfl rfl rfl rfl (by omega) (by decide) (by decide) (Nat.le_of_ble_eq_true rfl) rfl (by omega) (by omega) (show decode cX2_init 9 = .ok (.invokespecial 13, 3) from by decide +kernel) rfl ?_
  refine tc_put (ci := 2) (k := 1) (j := 0) (tl' := (.inr (2, [.null, .ref ((xo κ).1 + (M.length + 1)), .null, .null, .null, .null, .int 0, .int 0]) :: tl_X4 (xo κ) (M.length + 1))) (q := 15) C hini0 rfl (by decide) ((lw_m (lt2 (List.mem_of_getElem? (i := 153) rfl)) rfl)) rfl (tyX2_ok 1 (by decide)) rfl rfl rfl (Nat.le_of_ble_eq_true rfl) rfl (show decode cX2_init 12 = .ok (.putfield 14, 3) from by decide +kernel) rfl ?_
  refine tc_aload_n (i := 0) (q := 16) C (show decode cX2_init 15 = .ok (.aload_n 0, 1) from by decide +kernel) rfl rfl rfl ?_
  refine tc_new (j := 7) (fs := df_X4) (tl' := (.inr (2, [.null, .ref ((xo κ).1 + (M.length + 1)), .null, .null, .null, .null, .int 0, .int 0]) :: (tl_X4 (xo κ) (M.length + 1) ++ [.inr (4, [.int 0, .int 0, .int 0, .int 0, .int 0, .null, .null, .null, .null, .null])]))) (q := 19) C tyX4 tyX4_ok rfl (lw_m (lt2 (List.mem_of_getElem? (i := 105) rfl)) rfl) (lw_m (lt2 (List.mem_of_getElem? (i := 106) rfl)) rfl) (lw_m (lt1 (List.mem_of_getElem? (i := 12) rfl)) rfl) dfX4_ok (by omega) (by omega) (by omega) (show decode cX2_init 16 = .ok (.new 1, 3) from by decide +kernel) rfl rfl rfl ?_
  refine tc_dup (q := 20) C (show decode cX2_init 19 = .ok (.dup, 1) from by decide +kernel) rfl rfl ?_
  refine tc_initN (j := 7) (tl0 := (.inr (2, [.null, .ref ((xo κ).1 + (M.length + 1)), .null, .null, .null, .null, .int 0, .int 0]) :: tl_X4 (xo κ) (M.length + 1))) (tl' := (.inr (2, [.null, .ref ((xo κ).1 + (M.length + 1)), .null, .null, .null, .null, .int 0, .int 0]) :: (tl_X4 (xo κ) (M.length + 1) ++ tl_X4 (xo κ) (M.length + 7)))) (As := []) (st := [xad κ (M.length + 7), xad κ (M.length + 0)]) (q := 23) C cy_X4 (by decide +kernel) (ci_X4 (xo κ) (M ++ (.inr (2, [.null, .ref ((xo κ).1 + (M.length + 1)), .null, .null, .null, .null, .int 0, .int 0]) :: tl_X4 (xo κ) (M.length + 1))) (M.length + 7) (by rw [List.length_append]; rfl)) rfl rfl rfl rfl (by omega) (by decide) (by decide) (Nat.le_of_ble_eq_true rfl) rfl (by omega) (by omega) (show decode cX2_init 20 = .ok (.invokespecial 13, 3) from by decide +kernel) rfl ?_
  refine tc_put (ci := 2) (k := 2) (j := 0) (tl' := (.inr (2, [.null, .ref ((xo κ).1 + (M.length + 1)), .ref ((xo κ).1 + (M.length + 7)), .null, .null, .null, .int 0, .int 0]) :: (tl_X4 (xo κ) (M.length + 1) ++ tl_X4 (xo κ) (M.length + 7)))) (q := 26) C hini0 rfl (by decide) ((lw_m (lt2 (List.mem_of_getElem? (i := 154) rfl)) rfl)) rfl (tyX2_ok 2 (by decide)) rfl rfl rfl (Nat.le_of_ble_eq_true rfl) rfl (show decode cX2_init 23 = .ok (.putfield 18, 3) from by decide +kernel) rfl ?_
  refine tc_aload_n (i := 0) (q := 27) C (show decode cX2_init 26 = .ok (.aload_n 0, 1) from by decide +kernel) rfl rfl rfl ?_
  refine tc_bipush (v := (25 : Int32)) (q := 29) C (show decode cX2_init 27 = .ok (.bipush 25, 2) from by decide +kernel) (by decide) rfl ?_
  refine tc_newI (j := 13) (n := 25) (tl' := (.inr (2, [.null, .ref ((xo κ).1 + (M.length + 1)), .ref ((xo κ).1 + (M.length + 7)), .null, .null, .null, .int 0, .int 0]) :: (tl_X4 (xo κ) (M.length + 1) ++ (tl_X4 (xo κ) (M.length + 7) ++ [.inl ((xo κ).2.2.1 20, 25, .inl (fun _ => 0))])))) (q := 31) C (lw_m (lt1 (List.mem_of_getElem? (i := 148) rfl)) rfl) (by decide) (by decide) (by decide) (by omega) (by omega) (by omega) (show decode cX2_init 29 = .ok (.newarray .int, 2) from by decide +kernel) rfl rfl rfl ?_
  refine tc_put (ci := 2) (k := 3) (j := 0) (tl' := (.inr (2, [.null, .ref ((xo κ).1 + (M.length + 1)), .ref ((xo κ).1 + (M.length + 7)), .ref ((xo κ).1 + (M.length + 13)), .null, .null, .int 0, .int 0]) :: (tl_X4 (xo κ) (M.length + 1) ++ (tl_X4 (xo κ) (M.length + 7) ++ [.inl ((xo κ).2.2.1 20, 25, .inl (fun _ => 0))])))) (q := 34) C hini0 rfl (by decide) ((lw_m (lt2 (List.mem_of_getElem? (i := 155) rfl)) rfl)) rfl (tyX2_ok 3 (by decide)) rfl rfl rfl (Nat.le_of_ble_eq_true rfl) rfl (show decode cX2_init 31 = .ok (.putfield 21, 3) from by decide +kernel) rfl ?_
  refine tc_aload_n (i := 0) (q := 35) C (show decode cX2_init 34 = .ok (.aload_n 0, 1) from by decide +kernel) rfl rfl rfl ?_
  refine tc_bipush (v := (25 : Int32)) (q := 37) C (show decode cX2_init 35 = .ok (.bipush 25, 2) from by decide +kernel) (by decide) rfl ?_
  refine tc_newI (j := 14) (n := 25) (tl' := (.inr (2, [.null, .ref ((xo κ).1 + (M.length + 1)), .ref ((xo κ).1 + (M.length + 7)), .ref ((xo κ).1 + (M.length + 13)), .null, .null, .int 0, .int 0]) :: (tl_X4 (xo κ) (M.length + 1) ++ (tl_X4 (xo κ) (M.length + 7) ++ [.inl ((xo κ).2.2.1 20, 25, .inl (fun _ => 0)), .inl ((xo κ).2.2.1 20, 25, .inl (fun _ => 0))])))) (q := 39) C (lw_m (lt1 (List.mem_of_getElem? (i := 148) rfl)) rfl) (by decide) (by decide) (by decide) (by omega) (by omega) (by omega) (show decode cX2_init 37 = .ok (.newarray .int, 2) from by decide +kernel) rfl rfl rfl ?_
  refine tc_put (ci := 2) (k := 4) (j := 0) (tl' := (.inr (2, [.null, .ref ((xo κ).1 + (M.length + 1)), .ref ((xo κ).1 + (M.length + 7)), .ref ((xo κ).1 + (M.length + 13)), .ref ((xo κ).1 + (M.length + 14)), .null, .int 0, .int 0]) :: (tl_X4 (xo κ) (M.length + 1) ++ (tl_X4 (xo κ) (M.length + 7) ++ [.inl ((xo κ).2.2.1 20, 25, .inl (fun _ => 0)), .inl ((xo κ).2.2.1 20, 25, .inl (fun _ => 0))])))) (q := 42) C hini0 rfl (by decide) ((lw_m (lt2 (List.mem_of_getElem? (i := 156) rfl)) rfl)) rfl (tyX2_ok 4 (by decide)) rfl rfl rfl (Nat.le_of_ble_eq_true rfl) rfl (show decode cX2_init 39 = .ok (.putfield 25, 3) from by decide +kernel) rfl ?_
  refine tc_aload_n (i := 0) (q := 43) C (show decode cX2_init 42 = .ok (.aload_n 0, 1) from by decide +kernel) rfl rfl rfl ?_
  refine tc_bipush (v := (50 : Int32)) (q := 45) C (show decode cX2_init 43 = .ok (.bipush 50, 2) from by decide +kernel) (by decide) rfl ?_
  refine tc_newI (j := 15) (n := 50) (tl' := (.inr (2, [.null, .ref ((xo κ).1 + (M.length + 1)), .ref ((xo κ).1 + (M.length + 7)), .ref ((xo κ).1 + (M.length + 13)), .ref ((xo κ).1 + (M.length + 14)), .null, .int 0, .int 0]) :: (tl_X4 (xo κ) (M.length + 1) ++ (tl_X4 (xo κ) (M.length + 7) ++ [.inl ((xo κ).2.2.1 20, 25, .inl (fun _ => 0)), .inl ((xo κ).2.2.1 20, 25, .inl (fun _ => 0)), .inl ((xo κ).2.2.1 20, 50, .inl (fun _ => 0))])))) (q := 47) C (lw_m (lt1 (List.mem_of_getElem? (i := 148) rfl)) rfl) (by decide) (by decide) (by decide) (by omega) (by omega) (by omega) (show decode cX2_init 45 = .ok (.newarray .int, 2) from by decide +kernel) rfl rfl rfl ?_
  refine tc_put (ci := 2) (k := 5) (j := 0) (tl' := (.inr (2, [.null, .ref ((xo κ).1 + (M.length + 1)), .ref ((xo κ).1 + (M.length + 7)), .ref ((xo κ).1 + (M.length + 13)), .ref ((xo κ).1 + (M.length + 14)), .ref ((xo κ).1 + (M.length + 15)), .int 0, .int 0]) :: (tl_X4 (xo κ) (M.length + 1) ++ (tl_X4 (xo κ) (M.length + 7) ++ [.inl ((xo κ).2.2.1 20, 25, .inl (fun _ => 0)), .inl ((xo κ).2.2.1 20, 25, .inl (fun _ => 0)), .inl ((xo κ).2.2.1 20, 50, .inl (fun _ => 0))])))) (q := 50) C hini0 rfl (by decide) ((lw_m (lt2 (List.mem_of_getElem? (i := 157) rfl)) rfl)) rfl (tyX2_ok 5 (by decide)) rfl rfl rfl (Nat.le_of_ble_eq_true rfl) rfl (show decode cX2_init 47 = .ok (.putfield 28, 3) from by decide +kernel) rfl ?_
  refine tc_aload_n (i := 0) (q := 51) C (show decode cX2_init 50 = .ok (.aload_n 0, 1) from by decide +kernel) rfl rfl rfl ?_
  refine tc_aload_n (i := 1) (q := 52) C (show decode cX2_init 51 = .ok (.aload_n 1, 1) from by decide +kernel) rfl rfl rfl ?_
  refine tc_put (ci := 2) (k := 0) (j := 0) (tl' := (.inr (2, [.ref t0, .ref ((xo κ).1 + (M.length + 1)), .ref ((xo κ).1 + (M.length + 7)), .ref ((xo κ).1 + (M.length + 13)), .ref ((xo κ).1 + (M.length + 14)), .ref ((xo κ).1 + (M.length + 15)), .int 0, .int 0]) :: (tl_X4 (xo κ) (M.length + 1) ++ (tl_X4 (xo κ) (M.length + 7) ++ [.inl ((xo κ).2.2.1 20, 25, .inl (fun _ => 0)), .inl ((xo κ).2.2.1 20, 25, .inl (fun _ => 0)), .inl ((xo κ).2.2.1 20, 50, .inl (fun _ => 0))])))) (q := 55) C hini0 rfl (by decide) ((lw_m (lt2 (List.mem_of_getElem? (i := 152) rfl)) rfl)) rfl (tyX2_ok 0 (by decide)) rfl rfl rfl (Nat.le_of_ble_eq_true rfl) rfl (show decode cX2_init 52 = .ok (.putfield 31, 3) from by decide +kernel) rfl ?_
  exact hret _ _ _ _ (by decide) (by decide) (show decode cX2_init 55 = .ok (.return_, 1) from by decide +kernel)
def tl_X6 (ω : sm_O) (n : Nat) : List va_E := (.inr (6, [.ref (ω.1 + (n + 1)), .int 0, .int 0, .ref (ω.1 + (n + 11)), .int 0, .int 0, .int 0, .int 0, .int 0, .int 0, .int 0]) :: (tl_X7 ω (n + 1) ++ [.inl (ω.2.2.1 21, 0, .inl (fun _ => 0))]))
set_option maxHeartbeats 16000000 in
set_option maxRecDepth 100000 in
theorem ci_X6 (ω : sm_O) (M : List va_E) (n : Nat) (hn : M.length = n) : cMt 2 11 169 yX6_init cX6_init 1 ω M (.inr (6, df_X6)) [] (tl_X6 ω n) := by
  subst hn
  refine c_con (by decide) rfl (Nat.le_of_ble_eq_true rfl) ?_
  intro κ hκ hRc hRs hini0 C hret
  subst hκ
  show tT κ 0 0 0 [some (xad κ (M.length + 0))] [] (M ++ [.inr (6, [.null, .int 0, .int 0, .null, .int 0, .int 0, .int 0, .int 0, .int 0, .int 0, .int 0])])
  refine tc_aload_n (i := 0) (q := 1) C (show decode cX6_init 0 = .ok (.aload_n 0, 1) from by decide +kernel) rfl rfl rfl ?_
  refine tc_obj (q := 4) C ((lw_m (lt1 (List.mem_of_getElem? (i := 35) rfl)) rfl)) ((lw_m (lt1 (List.mem_of_getElem? (i := 28) rfl)) rfl)) ((lw_m (lt1 (List.mem_of_getElem? (i := 29) rfl)) rfl)) (by decide) (Nat.le_of_ble_eq_true rfl) (show decode cX6_init 1 = .ok (.invokespecial 3, 3) from by decide +kernel) rfl ?_
  refine tc_aload_n (i := 0) (q := 5) C (show decode cX6_init 4 = .ok (.aload_n 0, 1) from by decide +kernel) rfl rfl rfl ?_
  refine tc_new (j := 1) (fs := df_X7) (tl' := [.inr (6, [.null, .int 0, .int 0, .null, .int 0, .int 0, .int 0, .int 0, .int 0, .int 0, .int 0]), .inr (7, [.int 0, .int 0, .int 0, .int 0, .int 0, .int 0, .int 0, .int 0, .null, .null, .null, .null, .null, .null, .null, .null, .null])]) (q := 8) C tyX7 tyX7_ok rfl (lw_m (lt1 (List.mem_of_getElem? (i := 36) rfl)) rfl) (lw_m (lt1 (List.mem_of_getElem? (i := 37) rfl)) rfl) (lw_m (lt1 (List.mem_of_getElem? (i := 3) rfl)) rfl) dfX7_ok (by omega) (by omega) (by omega) (show decode cX6_init 5 = .ok (.new 9, 3) from by decide +kernel) rfl rfl rfl ?_
  refine tc_dup (q := 9) C (show decode cX6_init 8 = .ok (.dup, 1) from by decide +kernel) rfl rfl ?_
  refine tc_initN (j := 1) (tl0 := [.inr (6, [.null, .int 0, .int 0, .null, .int 0, .int 0, .int 0, .int 0, .int 0, .int 0, .int 0])]) (tl' := (.inr (6, [.null, .int 0, .int 0, .null, .int 0, .int 0, .int 0, .int 0, .int 0, .int 0, .int 0]) :: tl_X7 (xo κ) (M.length + 1))) (As := []) (st := [xad κ (M.length + 1), xad κ (M.length + 0)]) (q := 12) C cy_X7 (by decide +kernel) (ci_X7 (xo κ) (M ++ [.inr (6, [.null, .int 0, .int 0, .null, .int 0, .int 0, .int 0, .int 0, .int 0, .int 0, .int 0])]) (M.length + 1) (by rw [List.length_append]; rfl)) rfl rfl rfl rfl (by omega) (by decide) (by decide) (Nat.le_of_ble_eq_true rfl) rfl (by omega) (by omega) (show decode cX6_init 9 = .ok (.invokespecial 11, 3) from by decide +kernel) rfl ?_
  refine tc_put (ci := 6) (k := 0) (j := 0) (tl' := (.inr (6, [.ref ((xo κ).1 + (M.length + 1)), .int 0, .int 0, .null, .int 0, .int 0, .int 0, .int 0, .int 0, .int 0, .int 0]) :: tl_X7 (xo κ) (M.length + 1))) (q := 15) C hini0 rfl (by decide) ((lw_m (lt1 (List.mem_of_getElem? (i := 149) rfl)) rfl)) rfl (tyX6_ok 0 (by decide)) rfl rfl rfl (Nat.le_of_ble_eq_true rfl) rfl (show decode cX6_init 12 = .ok (.putfield 12, 3) from by decide +kernel) rfl ?_
  refine tc_aload_n (i := 0) (q := 16) C (show decode cX6_init 15 = .ok (.aload_n 0, 1) from by decide +kernel) rfl rfl rfl ?_
  refine tc_iconst (v := (0 : Int32)) (q := 17) C (show decode cX6_init 16 = .ok (.iconst 0, 1) from by decide +kernel) (by decide) rfl ?_
  refine tc_newB (j := 11) (n := 0) (tl' := (.inr (6, [.ref ((xo κ).1 + (M.length + 1)), .int 0, .int 0, .null, .int 0, .int 0, .int 0, .int 0, .int 0, .int 0, .int 0]) :: (tl_X7 (xo κ) (M.length + 1) ++ [.inl ((xo κ).2.2.1 21, 0, .inl (fun _ => 0))]))) (q := 19) C (lw_m (lt1 (List.mem_of_getElem? (i := 147) rfl)) rfl) (by decide) (by decide) (by decide) (by omega) (by omega) (by omega) (show decode cX6_init 17 = .ok (.newarray .byte, 2) from by decide +kernel) rfl rfl rfl ?_
  refine tc_put (ci := 6) (k := 3) (j := 0) (tl' := (.inr (6, [.ref ((xo κ).1 + (M.length + 1)), .int 0, .int 0, .ref ((xo κ).1 + (M.length + 11)), .int 0, .int 0, .int 0, .int 0, .int 0, .int 0, .int 0]) :: (tl_X7 (xo κ) (M.length + 1) ++ [.inl ((xo κ).2.2.1 21, 0, .inl (fun _ => 0))]))) (q := 22) C hini0 rfl (by decide) ((lw_m (lt1 (List.mem_of_getElem? (i := 155) rfl)) rfl)) rfl (tyX6_ok 3 (by decide)) rfl rfl rfl (Nat.le_of_ble_eq_true rfl) rfl (show decode cX6_init 19 = .ok (.putfield 18, 3) from by decide +kernel) rfl ?_
  exact hret _ _ _ _ (by decide) (by decide) (show decode cX6_init 22 = .ok (.return_, 1) from by decide +kernel)
