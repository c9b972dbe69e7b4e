set_option maxHeartbeats 16000000 in
set_option maxRecDepth 100000 in
/-- the law from its entry to its loop's head: both objects are made -/
theorem law_entry {κ : sm_X} (C : tC κ "BearsTwoLaw" code 4 16 0) (hRc : (xr κ).cells = 600000) (hRs : (xr κ).slots = 7302250) {b : Nat} (k : tT κ 172 12826 18 [some (.ref b), some (xad κ 0), some (xad κ 146), some (.int (0 : Int32))] [] (N0 (xo κ))) : tT κ 0 0 0 [some (.ref b), none, none, none] [] [] := by
  show tT κ 0 0 0 _ [] (([] : List va_E) ++ [])
  refine tc_new (M := []) (tl := []) (j := 0) (fs := df_X11) (tl' := [.inr (11, df_X11)]) (q := 3) C tyX11 tyX11_ok rfl (lw_m (lt1 (List.mem_of_getElem? (i := 22) rfl)) rfl) (lw_m (lt1 (List.mem_of_getElem? (i := 23) rfl)) rfl) (lw_m (lt1 (List.mem_of_getElem? (i := 1) rfl)) rfl) dfX11_ok rfl (by omega) (by omega) (show decode code 0 = .ok (.new 7, 3) from by decide +kernel) rfl rfl rfl ?_
  refine tc_dup (q := 4) C (show decode code 3 = .ok (.dup, 1) from by decide +kernel) rfl rfl ?_
  refine tc_init (M := []) (j := 0) (tl0 := []) (tl' := tl_X11 (xo κ) 0) (As := []) (st := [xad κ (([] : List va_E).length + 0)]) (q := 7) C cy_X11 (lw_m (lt1 (List.mem_of_getElem? (i := 24) rfl)) rfl) (ci_X11 (xo κ) ([] ++ []) 0 rfl) rfl rfl rfl rfl rfl (by decide) (by decide) (Nat.le_of_ble_eq_true rfl) rfl (by omega) (by omega) (show decode code 4 = .ok (.invokespecial 9, 3) from by decide +kernel) rfl ?_
  refine tc_astore_n (i := 1) (L' := [some (.ref b), some (xad κ 0), none, none]) (q := 8) C (show decode code 7 = .ok (.astore_n 1, 1) from by decide +kernel) rfl (by decide) rfl rfl ?_
  refine tc_new (M := []) (tl := tl_X11 (xo κ) 0) (j := 146) (fs := df_X12) (tl' := tl_X11 (xo κ) 0 ++ [.inr (12, df_X12)]) (q := 11) C tyX12 tyX12_ok rfl (lw_m (lt6 (List.mem_of_getElem? (i := 141) rfl)) rfl) (lw_m (lt6 (List.mem_of_getElem? (i := 142) rfl)) rfl) (lw_m (lt1 (List.mem_of_getElem? (i := 14) rfl)) rfl) dfX12_ok rfl (by omega) (by omega) (show decode code 8 = .ok (.new 10, 3) from by decide +kernel) rfl rfl rfl ?_
  refine tc_dup (q := 12) C (show decode code 11 = .ok (.dup, 1) from by decide +kernel) rfl rfl ?_
  refine tc_init (M := []) (j := 146) (tl0 := tl_X11 (xo κ) 0) (tl' := N0 (xo κ)) (As := []) (st := [xad κ (([] : List va_E).length + 146)]) (q := 15) C cy_X12 (lw_m (lt6 (List.mem_of_getElem? (i := 143) rfl)) rfl) (ci_X12 (xo κ) ([] ++ tl_X11 (xo κ) 0) 146 rfl) rfl rfl rfl rfl rfl (by decide) (by decide) (Nat.le_of_ble_eq_true rfl) rfl (by omega) (by omega) (show decode code 12 = .ok (.invokespecial 12, 3) from by decide +kernel) rfl ?_
  refine tc_astore_n (i := 2) (L' := [some (.ref b), some (xad κ 0), some (xad κ 146), none]) (q := 16) C (show decode code 15 = .ok (.astore_n 2, 1) from by decide +kernel) rfl (by decide) rfl rfl ?_
  refine tc_iconst (v := (0 : Int32)) (q := 17) C (show decode code 16 = .ok (.iconst 0, 1) from by decide +kernel) (by decide) rfl ?_
  refine tc_istore_n (i := 3) (L' := [some (.ref b), some (xad κ 0), some (xad κ 146), some (.int (0 : Int32))]) (q := 18) C (show decode code 17 = .ok (.istore_n 3, 1) from by decide +kernel) rfl (by decide) rfl rfl ?_
  exact k
