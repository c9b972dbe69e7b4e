def fnX7_takeFrom (v0 : Nat) (v1 : Nat) : sm_M Unit := m_gi v1 0 fun x2 => m_si v0 0 x2 <| m_gi v1 1 fun x10 => m_si v0 1 x10 <| m_gi v1 2 fun x18 => m_si v0 2 x18 <| m_gi v1 3 fun x26 => m_si v0 3 x26 <| m_gi v1 4 fun x34 => m_si v0 4 x34 <| m_gi v1 5 fun x42 => m_si v0 5 x42 <| m_gi v1 6 fun x50 => m_si v0 6 x50 <| m_gi v1 7 fun x58 => m_si v0 7 x58 <| m_cpi (lk v1 8) (0 : Int32) (lk v0 8) (0 : Int32) (24 : Int32) <| m_cpi (lk v1 9) (0 : Int32) (lk v0 9) (0 : Int32) (24 : Int32) <| m_cpi (lk v1 10) (0 : Int32) (lk v0 10) (0 : Int32) (24 : Int32) <| m_cpi (lk v1 11) (0 : Int32) (lk v0 11) (0 : Int32) (24 : Int32) <| m_cpi (lk v1 12) (0 : Int32) (lk v0 12) (0 : Int32) (24 : Int32) <| m_cpi (lk v1 13) (0 : Int32) (lk v0 13) (0 : Int32) (8 : Int32) <| m_cpi (lk v1 14) (0 : Int32) (lk v0 14) (0 : Int32) (8 : Int32) <| m_cpi (lk v1 15) (0 : Int32) (lk v0 15) (0 : Int32) (8 : Int32) <| m_cpi (lk v1 16) (0 : Int32) (lk v0 16) (0 : Int32) (8 : Int32) <| m_ret ()
set_option maxHeartbeats 4000000 in
set_option maxRecDepth 100000 in
theorem slX7_takeFrom {κ : sm_X} (C : sm_C κ RX7 cX7_takeFrom 2 1) (v0 : Nat) (v1 : Nat) (hv0 : kd v0 = 7) (hv1 : kd v1 = 7) : sm_S κ (fun _ : Unit => .inr none) (.inl (0, [some (xad κ v0), some (xad κ v1)], [])) (fnX7_takeFrom v0 v1) := by
  unfold fnX7_takeFrom
  refine sr_aload_n (i := 0) (q := 1) C (show decode cX7_takeFrom 0 = .ok (.aload_n 0, 1) from by decide +kernel) rfl rfl rfl ?_
  refine sr_aload_n (i := 1) (q := 2) C (show decode cX7_takeFrom 1 = .ok (.aload_n 1, 1) from by decide +kernel) rfl rfl rfl ?_
  refine sr_geti (q := 5) C fl_X7_39 (Or.inl rfl) hv1 (show decode cX7_takeFrom 2 = .ok (.getfield 39, 3) from by decide +kernel) rfl (fun x2 => ?_)
  refine sr_puti (q := 8) C fp_X7_39 hv0 (show decode cX7_takeFrom 5 = .ok (.putfield 39, 3) from by decide +kernel) rfl ?_
  refine sr_aload_n (i := 0) (q := 9) C (show decode cX7_takeFrom 8 = .ok (.aload_n 0, 1) from by decide +kernel) rfl rfl rfl ?_
  refine sr_aload_n (i := 1) (q := 10) C (show decode cX7_takeFrom 9 = .ok (.aload_n 1, 1) from by decide +kernel) rfl rfl rfl ?_
  refine sr_geti (q := 13) C fl_X7_43 (Or.inl rfl) hv1 (show decode cX7_takeFrom 10 = .ok (.getfield 43, 3) from by decide +kernel) rfl (fun x10 => ?_)
  refine sr_puti (q := 16) C fp_X7_43 hv0 (show decode cX7_takeFrom 13 = .ok (.putfield 43, 3) from by decide +kernel) rfl ?_
  refine sr_aload_n (i := 0) (q := 17) C (show decode cX7_takeFrom 16 = .ok (.aload_n 0, 1) from by decide +kernel) rfl rfl rfl ?_
  refine sr_aload_n (i := 1) (q := 18) C (show decode cX7_takeFrom 17 = .ok (.aload_n 1, 1) from by decide +kernel) rfl rfl rfl ?_
  refine sr_geti (q := 21) C fl_X7_46 (Or.inl rfl) hv1 (show decode cX7_takeFrom 18 = .ok (.getfield 46, 3) from by decide +kernel) rfl (fun x18 => ?_)
  refine sr_puti (q := 24) C fp_X7_46 hv0 (show decode cX7_takeFrom 21 = .ok (.putfield 46, 3) from by decide +kernel) rfl ?_
  refine sr_aload_n (i := 0) (q := 25) C (show decode cX7_takeFrom 24 = .ok (.aload_n 0, 1) from by decide +kernel) rfl rfl rfl ?_
  refine sr_aload_n (i := 1) (q := 26) C (show decode cX7_takeFrom 25 = .ok (.aload_n 1, 1) from by decide +kernel) rfl rfl rfl ?_
  refine sr_geti (q := 29) C fl_X7_49 (Or.inl rfl) hv1 (show decode cX7_takeFrom 26 = .ok (.getfield 49, 3) from by decide +kernel) rfl (fun x26 => ?_)
  refine sr_puti (q := 32) C fp_X7_49 hv0 (show decode cX7_takeFrom 29 = .ok (.putfield 49, 3) from by decide +kernel) rfl ?_
  refine sr_aload_n (i := 0) (q := 33) C (show decode cX7_takeFrom 32 = .ok (.aload_n 0, 1) from by decide +kernel) rfl rfl rfl ?_
  refine sr_aload_n (i := 1) (q := 34) C (show decode cX7_takeFrom 33 = .ok (.aload_n 1, 1) from by decide +kernel) rfl rfl rfl ?_
  refine sr_geti (q := 37) C fl_X7_52 (Or.inl rfl) hv1 (show decode cX7_takeFrom 34 = .ok (.getfield 52, 3) from by decide +kernel) rfl (fun x34 => ?_)
  refine sr_puti (q := 40) C fp_X7_52 hv0 (show decode cX7_takeFrom 37 = .ok (.putfield 52, 3) from by decide +kernel) rfl ?_
  refine sr_aload_n (i := 0) (q := 41) C (show decode cX7_takeFrom 40 = .ok (.aload_n 0, 1) from by decide +kernel) rfl rfl rfl ?_
  refine sr_aload_n (i := 1) (q := 42) C (show decode cX7_takeFrom 41 = .ok (.aload_n 1, 1) from by decide +kernel) rfl rfl rfl ?_
  refine sr_geti (q := 45) C fl_X7_55 (Or.inl rfl) hv1 (show decode cX7_takeFrom 42 = .ok (.getfield 55, 3) from by decide +kernel) rfl (fun x42 => ?_)
  refine sr_puti (q := 48) C fp_X7_55 hv0 (show decode cX7_takeFrom 45 = .ok (.putfield 55, 3) from by decide +kernel) rfl ?_
  refine sr_aload_n (i := 0) (q := 49) C (show decode cX7_takeFrom 48 = .ok (.aload_n 0, 1) from by decide +kernel) rfl rfl rfl ?_
  refine sr_aload_n (i := 1) (q := 50) C (show decode cX7_takeFrom 49 = .ok (.aload_n 1, 1) from by decide +kernel) rfl rfl rfl ?_
  refine sr_geti (q := 53) C fl_X7_58 (Or.inl rfl) hv1 (show decode cX7_takeFrom 50 = .ok (.getfield 58, 3) from by decide +kernel) rfl (fun x50 => ?_)
  refine sr_puti (q := 56) C fp_X7_58 hv0 (show decode cX7_takeFrom 53 = .ok (.putfield 58, 3) from by decide +kernel) rfl ?_
  refine sr_aload_n (i := 0) (q := 57) C (show decode cX7_takeFrom 56 = .ok (.aload_n 0, 1) from by decide +kernel) rfl rfl rfl ?_
  refine sr_aload_n (i := 1) (q := 58) C (show decode cX7_takeFrom 57 = .ok (.aload_n 1, 1) from by decide +kernel) rfl rfl rfl ?_
  refine sr_geti (q := 61) C fl_X7_61 (Or.inl rfl) hv1 (show decode cX7_takeFrom 58 = .ok (.getfield 61, 3) from by decide +kernel) rfl (fun x58 => ?_)
  refine sr_puti (q := 64) C fp_X7_61 hv0 (show decode cX7_takeFrom 61 = .ok (.putfield 61, 3) from by decide +kernel) rfl ?_
  refine sr_aload_n (i := 1) (q := 65) C (show decode cX7_takeFrom 64 = .ok (.aload_n 1, 1) from by decide +kernel) rfl rfl rfl ?_
  refine sr_getr (q := 68) C fl_X7_9 hv1 (show decode cX7_takeFrom 65 = .ok (.getfield 9, 3) from by decide +kernel) rfl ?_
  refine sr_iconst (v := (0 : Int32)) (q := 69) C (show decode cX7_takeFrom 68 = .ok (.iconst 0, 1) from by decide +kernel) (by decide) rfl ?_
  refine sr_aload_n (i := 0) (q := 70) C (show decode cX7_takeFrom 69 = .ok (.aload_n 0, 1) from by decide +kernel) rfl rfl rfl ?_
  refine sr_getr (q := 73) C fl_X7_9 hv0 (show decode cX7_takeFrom 70 = .ok (.getfield 9, 3) from by decide +kernel) rfl ?_
  refine sr_iconst (v := (0 : Int32)) (q := 74) C (show decode cX7_takeFrom 73 = .ok (.iconst 0, 1) from by decide +kernel) (by decide) rfl ?_
  refine sr_bipush (v := (24 : Int32)) (q := 76) C (show decode cX7_takeFrom 74 = .ok (.bipush 24, 2) from by decide +kernel) (by decide) rfl ?_
  refine sr_copyi (st := []) (q := 79) C ml_X7_64 (kt hv1 kp_7_8) (kt hv0 kp_7_8) (by decide) (by decide) (show decode cX7_takeFrom 76 = .ok (.invokestatic 64, 3) from by decide +kernel) rfl ?_
  refine sr_aload_n (i := 1) (q := 80) C (show decode cX7_takeFrom 79 = .ok (.aload_n 1, 1) from by decide +kernel) rfl rfl rfl ?_
  refine sr_getr (q := 83) C fl_X7_15 hv1 (show decode cX7_takeFrom 80 = .ok (.getfield 15, 3) from by decide +kernel) rfl ?_
  refine sr_iconst (v := (0 : Int32)) (q := 84) C (show decode cX7_takeFrom 83 = .ok (.iconst 0, 1) from by decide +kernel) (by decide) rfl ?_
  refine sr_aload_n (i := 0) (q := 85) C (show decode cX7_takeFrom 84 = .ok (.aload_n 0, 1) from by decide +kernel) rfl rfl rfl ?_
  refine sr_getr (q := 88) C fl_X7_15 hv0 (show decode cX7_takeFrom 85 = .ok (.getfield 15, 3) from by decide +kernel) rfl ?_
  refine sr_iconst (v := (0 : Int32)) (q := 89) C (show decode cX7_takeFrom 88 = .ok (.iconst 0, 1) from by decide +kernel) (by decide) rfl ?_
  refine sr_bipush (v := (24 : Int32)) (q := 91) C (show decode cX7_takeFrom 89 = .ok (.bipush 24, 2) from by decide +kernel) (by decide) rfl ?_
  refine sr_copyi (st := []) (q := 94) C ml_X7_64 (kt hv1 kp_7_9) (kt hv0 kp_7_9) (by decide) (by decide) (show decode cX7_takeFrom 91 = .ok (.invokestatic 64, 3) from by decide +kernel) rfl ?_
  refine sr_aload_n (i := 1) (q := 95) C (show decode cX7_takeFrom 94 = .ok (.aload_n 1, 1) from by decide +kernel) rfl rfl rfl ?_
  refine sr_getr (q := 98) C fl_X7_18 hv1 (show decode cX7_takeFrom 95 = .ok (.getfield 18, 3) from by decide +kernel) rfl ?_
  refine sr_iconst (v := (0 : Int32)) (q := 99) C (show decode cX7_takeFrom 98 = .ok (.iconst 0, 1) from by decide +kernel) (by decide) rfl ?_
  refine sr_aload_n (i := 0) (q := 100) C (show decode cX7_takeFrom 99 = .ok (.aload_n 0, 1) from by decide +kernel) rfl rfl rfl ?_
  refine sr_getr (q := 103) C fl_X7_18 hv0 (show decode cX7_takeFrom 100 = .ok (.getfield 18, 3) from by decide +kernel) rfl ?_
  refine sr_iconst (v := (0 : Int32)) (q := 104) C (show decode cX7_takeFrom 103 = .ok (.iconst 0, 1) from by decide +kernel) (by decide) rfl ?_
  refine sr_bipush (v := (24 : Int32)) (q := 106) C (show decode cX7_takeFrom 104 = .ok (.bipush 24, 2) from by decide +kernel) (by decide) rfl ?_
  refine sr_copyi (st := []) (q := 109) C ml_X7_64 (kt hv1 kp_7_10) (kt hv0 kp_7_10) (by decide) (by decide) (show decode cX7_takeFrom 106 = .ok (.invokestatic 64, 3) from by decide +kernel) rfl ?_
  refine sr_aload_n (i := 1) (q := 110) C (show decode cX7_takeFrom 109 = .ok (.aload_n 1, 1) from by decide +kernel) rfl rfl rfl ?_
  refine sr_getr (q := 113) C fl_X7_21 hv1 (show decode cX7_takeFrom 110 = .ok (.getfield 21, 3) from by decide +kernel) rfl ?_
  refine sr_iconst (v := (0 : Int32)) (q := 114) C (show decode cX7_takeFrom 113 = .ok (.iconst 0, 1) from by decide +kernel) (by decide) rfl ?_
  refine sr_aload_n (i := 0) (q := 115) C (show decode cX7_takeFrom 114 = .ok (.aload_n 0, 1) from by decide +kernel) rfl rfl rfl ?_
  refine sr_getr (q := 118) C fl_X7_21 hv0 (show decode cX7_takeFrom 115 = .ok (.getfield 21, 3) from by decide +kernel) rfl ?_
  refine sr_iconst (v := (0 : Int32)) (q := 119) C (show decode cX7_takeFrom 118 = .ok (.iconst 0, 1) from by decide +kernel) (by decide) rfl ?_
  refine sr_bipush (v := (24 : Int32)) (q := 121) C (show decode cX7_takeFrom 119 = .ok (.bipush 24, 2) from by decide +kernel) (by decide) rfl ?_
  refine sr_copyi (st := []) (q := 124) C ml_X7_64 (kt hv1 kp_7_11) (kt hv0 kp_7_11) (by decide) (by decide) (show decode cX7_takeFrom 121 = .ok (.invokestatic 64, 3) from by decide +kernel) rfl ?_
  refine sr_aload_n (i := 1) (q := 125) C (show decode cX7_takeFrom 124 = .ok (.aload_n 1, 1) from by decide +kernel) rfl rfl rfl ?_
  refine sr_getr (q := 128) C fl_X7_24 hv1 (show decode cX7_takeFrom 125 = .ok (.getfield 24, 3) from by decide +kernel) rfl ?_
  refine sr_iconst (v := (0 : Int32)) (q := 129) C (show decode cX7_takeFrom 128 = .ok (.iconst 0, 1) from by decide +kernel) (by decide) rfl ?_
  refine sr_aload_n (i := 0) (q := 130) C (show decode cX7_takeFrom 129 = .ok (.aload_n 0, 1) from by decide +kernel) rfl rfl rfl ?_
  refine sr_getr (q := 133) C fl_X7_24 hv0 (show decode cX7_takeFrom 130 = .ok (.getfield 24, 3) from by decide +kernel) rfl ?_
  refine sr_iconst (v := (0 : Int32)) (q := 134) C (show decode cX7_takeFrom 133 = .ok (.iconst 0, 1) from by decide +kernel) (by decide) rfl ?_
  refine sr_bipush (v := (24 : Int32)) (q := 136) C (show decode cX7_takeFrom 134 = .ok (.bipush 24, 2) from by decide +kernel) (by decide) rfl ?_
  refine sr_copyi (st := []) (q := 139) C ml_X7_64 (kt hv1 kp_7_12) (kt hv0 kp_7_12) (by decide) (by decide) (show decode cX7_takeFrom 136 = .ok (.invokestatic 64, 3) from by decide +kernel) rfl ?_
  refine sr_aload_n (i := 1) (q := 140) C (show decode cX7_takeFrom 139 = .ok (.aload_n 1, 1) from by decide +kernel) rfl rfl rfl ?_
  refine sr_getr (q := 143) C fl_X7_27 hv1 (show decode cX7_takeFrom 140 = .ok (.getfield 27, 3) from by decide +kernel) rfl ?_
  refine sr_iconst (v := (0 : Int32)) (q := 144) C (show decode cX7_takeFrom 143 = .ok (.iconst 0, 1) from by decide +kernel) (by decide) rfl ?_
  refine sr_aload_n (i := 0) (q := 145) C (show decode cX7_takeFrom 144 = .ok (.aload_n 0, 1) from by decide +kernel) rfl rfl rfl ?_
  refine sr_getr (q := 148) C fl_X7_27 hv0 (show decode cX7_takeFrom 145 = .ok (.getfield 27, 3) from by decide +kernel) rfl ?_
  refine sr_iconst (v := (0 : Int32)) (q := 149) C (show decode cX7_takeFrom 148 = .ok (.iconst 0, 1) from by decide +kernel) (by decide) rfl ?_
  refine sr_bipush (v := (8 : Int32)) (q := 151) C (show decode cX7_takeFrom 149 = .ok (.bipush 8, 2) from by decide +kernel) (by decide) rfl ?_
  refine sr_copyi (st := []) (q := 154) C ml_X7_64 (kt hv1 kp_7_13) (kt hv0 kp_7_13) (by decide) (by decide) (show decode cX7_takeFrom 151 = .ok (.invokestatic 64, 3) from by decide +kernel) rfl ?_
  refine sr_aload_n (i := 1) (q := 155) C (show decode cX7_takeFrom 154 = .ok (.aload_n 1, 1) from by decide +kernel) rfl rfl rfl ?_
  refine sr_getr (q := 158) C fl_X7_30 hv1 (show decode cX7_takeFrom 155 = .ok (.getfield 30, 3) from by decide +kernel) rfl ?_
  refine sr_iconst (v := (0 : Int32)) (q := 159) C (show decode cX7_takeFrom 158 = .ok (.iconst 0, 1) from by decide +kernel) (by decide) rfl ?_
  refine sr_aload_n (i := 0) (q := 160) C (show decode cX7_takeFrom 159 = .ok (.aload_n 0, 1) from by decide +kernel) rfl rfl rfl ?_
  refine sr_getr (q := 163) C fl_X7_30 hv0 (show decode cX7_takeFrom 160 = .ok (.getfield 30, 3) from by decide +kernel) rfl ?_
  refine sr_iconst (v := (0 : Int32)) (q := 164) C (show decode cX7_takeFrom 163 = .ok (.iconst 0, 1) from by decide +kernel) (by decide) rfl ?_
  refine sr_bipush (v := (8 : Int32)) (q := 166) C (show decode cX7_takeFrom 164 = .ok (.bipush 8, 2) from by decide +kernel) (by decide) rfl ?_
  refine sr_copyi (st := []) (q := 169) C ml_X7_64 (kt hv1 kp_7_14) (kt hv0 kp_7_14) (by decide) (by decide) (show decode cX7_takeFrom 166 = .ok (.invokestatic 64, 3) from by decide +kernel) rfl ?_
  refine sr_aload_n (i := 1) (q := 170) C (show decode cX7_takeFrom 169 = .ok (.aload_n 1, 1) from by decide +kernel) rfl rfl rfl ?_
  refine sr_getr (q := 173) C fl_X7_33 hv1 (show decode cX7_takeFrom 170 = .ok (.getfield 33, 3) from by decide +kernel) rfl ?_
  refine sr_iconst (v := (0 : Int32)) (q := 174) C (show decode cX7_takeFrom 173 = .ok (.iconst 0, 1) from by decide +kernel) (by decide) rfl ?_
  refine sr_aload_n (i := 0) (q := 175) C (show decode cX7_takeFrom 174 = .ok (.aload_n 0, 1) from by decide +kernel) rfl rfl rfl ?_
  refine sr_getr (q := 178) C fl_X7_33 hv0 (show decode cX7_takeFrom 175 = .ok (.getfield 33, 3) from by decide +kernel) rfl ?_
  refine sr_iconst (v := (0 : Int32)) (q := 179) C (show decode cX7_takeFrom 178 = .ok (.iconst 0, 1) from by decide +kernel) (by decide) rfl ?_
  refine sr_bipush (v := (8 : Int32)) (q := 181) C (show decode cX7_takeFrom 179 = .ok (.bipush 8, 2) from by decide +kernel) (by decide) rfl ?_
  refine sr_copyi (st := []) (q := 184) C ml_X7_64 (kt hv1 kp_7_15) (kt hv0 kp_7_15) (by decide) (by decide) (show decode cX7_takeFrom 181 = .ok (.invokestatic 64, 3) from by decide +kernel) rfl ?_
  refine sr_aload_n (i := 1) (q := 185) C (show decode cX7_takeFrom 184 = .ok (.aload_n 1, 1) from by decide +kernel) rfl rfl rfl ?_
  refine sr_getr (q := 188) C fl_X7_36 hv1 (show decode cX7_takeFrom 185 = .ok (.getfield 36, 3) from by decide +kernel) rfl ?_
  refine sr_iconst (v := (0 : Int32)) (q := 189) C (show decode cX7_takeFrom 188 = .ok (.iconst 0, 1) from by decide +kernel) (by decide) rfl ?_
  refine sr_aload_n (i := 0) (q := 190) C (show decode cX7_takeFrom 189 = .ok (.aload_n 0, 1) from by decide +kernel) rfl rfl rfl ?_
  refine sr_getr (q := 193) C fl_X7_36 hv0 (show decode cX7_takeFrom 190 = .ok (.getfield 36, 3) from by decide +kernel) rfl ?_
  refine sr_iconst (v := (0 : Int32)) (q := 194) C (show decode cX7_takeFrom 193 = .ok (.iconst 0, 1) from by decide +kernel) (by decide) rfl ?_
  refine sr_bipush (v := (8 : Int32)) (q := 196) C (show decode cX7_takeFrom 194 = .ok (.bipush 8, 2) from by decide +kernel) (by decide) rfl ?_
  refine sr_copyi (st := []) (q := 199) C ml_X7_64 (kt hv1 kp_7_16) (kt hv0 kp_7_16) (by decide) (by decide) (show decode cX7_takeFrom 196 = .ok (.invokestatic 64, 3) from by decide +kernel) rfl ?_
  exact sr_vreturn C _ rfl (show decode cX7_takeFrom 199 = .ok (.return_, 1) from by decide +kernel)
theorem cnX7_takeFrom (ω : sm_O) (v0 : Nat) (v1 : Nat) (hv0 : kd v0 = 7) (hv1 : kd v1 = 7) : sm_Mt 1 yX7_takeFrom cX7_takeFrom 2 none ω [.ref (ω.1 + v0), .ref (ω.1 + v1)] (fun _ => none) (fnX7_takeFrom v0 v1) := by
  refine sm_conV (by decide) (Nat.le_of_ble_eq_true rfl) ?_
  intro κ hκ C
  subst hκ
  exact slX7_takeFrom C v0 v1 hv0 hv1
def fnX11_back (v0 : Nat) (v1 : Int32) : sm_M Int32 := m_bnd (fnX11_isImage v1) fun x1 => m_br ((bI x1) = 0)
    (m_ret (-2 : Int32))
    (m_ai (lk v0 17) v1 fun x15 => m_br (x15 = 0)
    (m_ret (-6 : Int32))
    (m_ap (lk v0 15) v1 fun x31 => m_bnd (fnX7_takeFrom (lk v0 5) x31) fun _ => m_ap (lk v0 16) v1 fun x44 => m_bnd (fnX9_takeFrom (lk v0 6) x44) fun _ => m_bnd (fnX3_lay (lk v0 8) (lk v0 5)) fun _ => m_bnd (fnX5_forget (lk v0 11)) fun _ => m_ret (0 : Int32)))
set_option maxHeartbeats 4000000 in
set_option maxRecDepth 100000 in
theorem slX11_back {κ : sm_X} (C : sm_C κ RX11 cX11_back 2 4) (v0 : Nat) (v1 : Int32) (hv0 : kd v0 = 11) : sm_S κ (fun r : Int32 => .inr (some (.int r))) (.inl (0, [some (xad κ v0), some (.int v1)], [])) (fnX11_back v0 v1) := by
  unfold fnX11_back
  refine sr_iload_n (i := 1) (q := 1) C (show decode cX11_back 0 = .ok (.iload_n 1, 1) from by decide +kernel) rfl rfl rfl ?_
  refine sr_cSz (As := [.int v1]) (st := []) (q := 4) C ysX11_isImage ml_X11_437 (cnX11_isImage (xo κ) v1) rfl (by decide) (by decide) (Nat.le_of_ble_eq_true rfl) rfl (show decode cX11_back 1 = .ok (.invokestatic 437, 3) from by decide +kernel) rfl (fun x1 => ?_)
  refine sr_if_ne (q := 7) C 10 (show decode cX11_back 4 = .ok (.ifCond .ne 6, 3) from by decide +kernel) (by decide) rfl ?_ ?_
  · refine sr_aload_n (i := 0) (q := 11) C (show decode cX11_back 10 = .ok (.aload_n 0, 1) from by decide +kernel) rfl rfl rfl ?_
    refine sr_getr (q := 14) C fl_X11_105 hv0 (show decode cX11_back 11 = .ok (.getfield 105, 3) from by decide +kernel) rfl ?_
    refine sr_iload_n (i := 1) (q := 15) C (show decode cX11_back 14 = .ok (.iload_n 1, 1) from by decide +kernel) rfl rfl rfl ?_
    refine sr_zaload (q := 16) C (kt hv0 kp_11_17) (show decode cX11_back 15 = .ok (.baload, 1) from by decide +kernel) rfl (fun x15 => ?_)
    refine sr_if_ne (q := 19) C 22 (show decode cX11_back 16 = .ok (.ifCond .ne 6, 3) from by decide +kernel) (by decide) rfl ?_ ?_
    · refine sr_aload_n (i := 0) (q := 23) C (show decode cX11_back 22 = .ok (.aload_n 0, 1) from by decide +kernel) rfl rfl rfl ?_
      refine sr_getr (q := 26) C fl_X11_27 hv0 (show decode cX11_back 23 = .ok (.getfield 27, 3) from by decide +kernel) rfl ?_
      refine sr_aload_n (i := 0) (q := 27) C (show decode cX11_back 26 = .ok (.aload_n 0, 1) from by decide +kernel) rfl rfl rfl ?_
      refine sr_getr (q := 30) C fl_X11_97 hv0 (show decode cX11_back 27 = .ok (.getfield 97, 3) from by decide +kernel) rfl ?_
      refine sr_iload_n (i := 1) (q := 31) C (show decode cX11_back 30 = .ok (.iload_n 1, 1) from by decide +kernel) rfl rfl rfl ?_
      refine sr_aaload (t0 := 6) (q := 32) C (kt hv0 kp_11_15) (Or.inr (Or.inr rfl)) rfl (show decode cX11_back 31 = .ok (.aaload, 1) from by decide +kernel) rfl (fun x31 hx31 => ?_)
      refine sr_cVv (As := [xad κ x31]) (st := []) (b := lk v0 5) (q := 35) C yvX7_takeFrom ml_X11_131 (cnX7_takeFrom (xo κ) (lk v0 5) x31 (kt hv0 kp_11_5) hx31) (kt hv0 kp_11_5) (by decide) rfl rfl rfl (by decide) (by decide) (Nat.le_of_ble_eq_true rfl) rfl (show decode cX11_back 32 = .ok (.invokevirtual 131, 3) from by decide +kernel) rfl (fun _ => ?_)
      refine sr_aload_n (i := 0) (q := 36) C (show decode cX11_back 35 = .ok (.aload_n 0, 1) from by decide +kernel) rfl rfl rfl ?_
      refine sr_getr (q := 39) C fl_X11_36 hv0 (show decode cX11_back 36 = .ok (.getfield 36, 3) from by decide +kernel) rfl ?_
      refine sr_aload_n (i := 0) (q := 40) C (show decode cX11_back 39 = .ok (.aload_n 0, 1) from by decide +kernel) rfl rfl rfl ?_
      refine sr_getr (q := 43) C fl_X11_101 hv0 (show decode cX11_back 40 = .ok (.getfield 101, 3) from by decide +kernel) rfl ?_
      refine sr_iload_n (i := 1) (q := 44) C (show decode cX11_back 43 = .ok (.iload_n 1, 1) from by decide +kernel) rfl rfl rfl ?_
      refine sr_aaload (t0 := 4) (q := 45) C (kt hv0 kp_11_16) (Or.inl rfl) rfl (show decode cX11_back 44 = .ok (.aaload, 1) from by decide +kernel) rfl (fun x44 hx44 => ?_)
      refine sr_cVv (As := [xad κ x44]) (st := []) (b := lk v0 6) (q := 48) C yvX9_takeFrom ml_X11_239 (cnX9_takeFrom (xo κ) (lk v0 6) x44 (kt hv0 kp_11_6) hx44) (kt hv0 kp_11_6) (by decide) rfl rfl rfl (by decide) (by decide) (Nat.le_of_ble_eq_true rfl) rfl (show decode cX11_back 45 = .ok (.invokevirtual 239, 3) from by decide +kernel) rfl (fun _ => ?_)
      refine sr_aload_n (i := 0) (q := 49) C (show decode cX11_back 48 = .ok (.aload_n 0, 1) from by decide +kernel) rfl rfl rfl ?_
      refine sr_getr (q := 52) C fl_X11_46 hv0 (show decode cX11_back 49 = .ok (.getfield 46, 3) from by decide +kernel) rfl ?_
      refine sr_aload_n (i := 0) (q := 53) C (show decode cX11_back 52 = .ok (.aload_n 0, 1) from by decide +kernel) rfl rfl rfl ?_
      refine sr_getr (q := 56) C fl_X11_27 hv0 (show decode cX11_back 53 = .ok (.getfield 27, 3) from by decide +kernel) rfl ?_
      refine sr_cVv (As := [xad κ (lk v0 5)]) (st := []) (b := lk v0 8) (q := 59) C yvX3_lay ml_X11_137 (cnX3_lay (xo κ) (lk v0 8) (lk v0 5) (kt hv0 kp_11_8) (kt hv0 kp_11_5)) (kt hv0 kp_11_8) (by decide) rfl rfl rfl (by decide) (by decide) (Nat.le_of_ble_eq_true rfl) rfl (show decode cX11_back 56 = .ok (.invokevirtual 137, 3) from by decide +kernel) rfl (fun _ => ?_)
      refine sr_aload_n (i := 0) (q := 60) C (show decode cX11_back 59 = .ok (.aload_n 0, 1) from by decide +kernel) rfl rfl rfl ?_
      refine sr_getr (q := 63) C fl_X11_73 hv0 (show decode cX11_back 60 = .ok (.getfield 73, 3) from by decide +kernel) rfl ?_
      refine sr_cVv (As := []) (st := []) (b := lk v0 11) (q := 66) C yvX5_forget ml_X11_140 (cnX5_forget (xo κ) (lk v0 11) (kt hv0 kp_11_11)) (kt hv0 kp_11_11) (by decide) rfl rfl rfl (by decide) (by decide) (Nat.le_of_ble_eq_true rfl) rfl (show decode cX11_back 63 = .ok (.invokevirtual 140, 3) from by decide +kernel) rfl (fun _ => ?_)
      refine sr_iconst (v := (0 : Int32)) (q := 67) C (show decode cX11_back 66 = .ok (.iconst 0, 1) from by decide +kernel) (by decide) rfl ?_
      exact sr_ireturn C _ rfl (show decode cX11_back 67 = .ok (.ireturn, 1) from by decide +kernel)
    · refine sr_bipush (v := (-6 : Int32)) (q := 21) C (show decode cX11_back 19 = .ok (.bipush (-6), 2) from by decide +kernel) (by decide) rfl ?_
      exact sr_ireturn C _ rfl (show decode cX11_back 21 = .ok (.ireturn, 1) from by decide +kernel)
  · refine sr_bipush (v := (-2 : Int32)) (q := 9) C (show decode cX11_back 7 = .ok (.bipush (-2), 2) from by decide +kernel) (by decide) rfl ?_
    exact sr_ireturn C _ rfl (show decode cX11_back 9 = .ok (.ireturn, 1) from by decide +kernel)
theorem cnX11_back (ω : sm_O) (v0 : Nat) (v1 : Int32) (hv0 : kd v0 = 11) : sm_Mt 4 yX11_back cX11_back 2 (some .int) ω [.ref (ω.1 + v0), .int v1] (fun a => some (.int a)) (fnX11_back v0 v1) := by
  refine sm_conI (r := fun a => a) (by decide) (fun _ => rfl) (Nat.le_of_ble_eq_true rfl) ?_
  intro κ hκ C
  subst hκ
  exact slX11_back C v0 v1 hv0
def fnX11_isStone (v0 : Nat) (v1 : Int32) : sm_M Bool := m_br (v1 < 0)
    (m_ret false)
    (m_gi (lk v0 5) 4 fun x9 => m_br (x9 ≤ v1)
    (m_ret false)
    (m_ret true))
set_option maxHeartbeats 4000000 in
set_option maxRecDepth 100000 in
theorem slX11_isStone {κ : sm_X} (C : sm_C κ RX11 cX11_isStone 2 1) (v0 : Nat) (v1 : Int32) (hv0 : kd v0 = 11) : sm_S κ (fun r : Bool => .inr (some (.int (bI r)))) (.inl (0, [some (xad κ v0), some (.int v1)], [])) (fnX11_isStone v0 v1) := by
  unfold fnX11_isStone
  refine sr_iload_n (i := 1) (q := 1) C (show decode cX11_isStone 0 = .ok (.iload_n 1, 1) from by decide +kernel) rfl rfl rfl ?_
  refine sr_if_lt (q := 4) C 19 (show decode cX11_isStone 1 = .ok (.ifCond .lt 18, 3) from by decide +kernel) (by decide) rfl ?_ ?_
  · refine sr_iconst (v := (0 : Int32)) (q := 20) C (show decode cX11_isStone 19 = .ok (.iconst 0, 1) from by decide +kernel) (by decide) rfl ?_
    exact sr_ireturn C false rfl (show decode cX11_isStone 20 = .ok (.ireturn, 1) from by decide +kernel)
  · refine sr_iload_n (i := 1) (q := 5) C (show decode cX11_isStone 4 = .ok (.iload_n 1, 1) from by decide +kernel) rfl rfl rfl ?_
    refine sr_aload_n (i := 0) (q := 6) C (show decode cX11_isStone 5 = .ok (.aload_n 0, 1) from by decide +kernel) rfl rfl rfl ?_
    refine sr_getr (q := 9) C fl_X11_27 hv0 (show decode cX11_isStone 6 = .ok (.getfield 27, 3) from by decide +kernel) rfl ?_
    refine sr_geti (q := 12) C fl_X11_374 (Or.inl rfl) (kt hv0 kp_11_5) (show decode cX11_isStone 9 = .ok (.getfield 374, 3) from by decide +kernel) rfl (fun x9 => ?_)
    refine sr_icmp_ge (q := 15) C 19 (show decode cX11_isStone 12 = .ok (.if_icmp .ge 7, 3) from by decide +kernel) (by decide) rfl ?_ ?_
    · refine sr_iconst (v := (0 : Int32)) (q := 20) C (show decode cX11_isStone 19 = .ok (.iconst 0, 1) from by decide +kernel) (by decide) rfl ?_
      exact sr_ireturn C false rfl (show decode cX11_isStone 20 = .ok (.ireturn, 1) from by decide +kernel)
    · refine sr_iconst (v := (1 : Int32)) (q := 16) C (show decode cX11_isStone 15 = .ok (.iconst 1, 1) from by decide +kernel) (by decide) rfl ?_
      refine sr_goto (q := 20) C (show decode cX11_isStone 16 = .ok (.goto 4, 3) from by decide +kernel) (by decide) ?_
      exact sr_ireturn C true rfl (show decode cX11_isStone 20 = .ok (.ireturn, 1) from by decide +kernel)
theorem cnX11_isStone (ω : sm_O) (v0 : Nat) (v1 : Int32) (hv0 : kd v0 = 11) : sm_Mt 1 yX11_isStone cX11_isStone 2 (some .boolean) ω [.ref (ω.1 + v0), .int v1] (fun a => some (.int (bI a))) (fnX11_isStone v0 v1) := by
  refine sm_conI (r := bI) (by decide) bI_nar (Nat.le_of_ble_eq_true rfl) ?_
  intro κ hκ C
  subst hκ
  exact slX11_isStone C v0 v1 hv0
def fnX2_narrowest_J149 (k12 : Nat → Int32 → Int32 → Int32 → Int32 → sm_M Int32) (v0 : Nat) (v2 : Int32) (v3 : Int32) (v5 : Int32) (s0 : Int32) : sm_M Int32 := k12 v0 v2 v3 s0 (v5 + (1 : Int32))
set_option maxHeartbeats 4000000 in
set_option maxRecDepth 100000 in
theorem slX2_narrowest_J149 {κ : sm_X} (C : sm_C κ RX2 cX2_narrowest 7 1) {k12 : Nat → Int32 → Int32 → Int32 → Int32 → sm_M Int32} (K12 : ∀ (v0 : Nat) (v2 : Int32) (v3 : Int32) (v4 : Int32) (v5 : Int32) (hv0 : kd v0 = 2), sm_S κ (fun r : Int32 => .inr (some (.int r))) (.inl (12, [some (xad κ v0), none, some (.int v2), some (.int v3), some (.int v4), some (.int v5), none], [])) (k12 v0 v2 v3 v4 v5)) (v0 : Nat) (v2 : Int32) (v3 : Int32) (v5 : Int32) (s0 : Int32) (hv0 : kd v0 = 2) : sm_S κ (fun r : Int32 => .inr (some (.int r))) (.inl (149, [some (xad κ v0), none, some (.int v2), some (.int v3), none, some (.int v5), none], [.int s0])) (fnX2_narrowest_J149 k12 v0 v2 v3 v5 s0) := by
  unfold fnX2_narrowest_J149
  refine sr_istore (i := 4) (L' := [some (xad κ v0), none, some (.int v2), some (.int v3), some (.int s0), some (.int v5), none]) (q := 151) C (show decode cX2_narrowest 149 = .ok (.istore 4, 2) from by decide +kernel) (by decide) rfl rfl ?_
  refine sr_iinc (v := v5 + (1 : Int32)) (L' := [some (xad κ v0), none, some (.int v2), some (.int v3), some (.int s0), some (.int (v5 + (1 : Int32))), none]) (q := 154) C (show decode cX2_narrowest 151 = .ok (.iinc 5 1, 3) from by decide +kernel) rfl rfl (by decide) rfl rfl ?_
  refine sr_goto (q := 12) C (show decode cX2_narrowest 154 = .ok (.goto (-142), 3) from by decide +kernel) (by decide) ?_
  exact K12 v0 v2 v3 s0 (v5 + (1 : Int32)) hv0
def fnX2_narrowest_J139 (k12 : Nat → Int32 → Int32 → Int32 → Int32 → sm_M Int32) (v0 : Nat) (v2 : Int32) (v3 : Int32) (v4 : Int32) (v5 : Int32) : sm_M Int32 := m_br (v4 = 0)
    (fnX2_narrowest_J149 k12 v0 v2 v3 v5 (1 : Int32))
    (fnX2_narrowest_J149 k12 v0 v2 v3 v5 (0 : Int32))
set_option maxHeartbeats 4000000 in
set_option maxRecDepth 100000 in
theorem slX2_narrowest_J139 {κ : sm_X} (C : sm_C κ RX2 cX2_narrowest 7 1) {k12 : Nat → Int32 → Int32 → Int32 → Int32 → sm_M Int32} (K12 : ∀ (v0 : Nat) (v2 : Int32) (v3 : Int32) (v4 : Int32) (v5 : Int32) (hv0 : kd v0 = 2), sm_S κ (fun r : Int32 => .inr (some (.int r))) (.inl (12, [some (xad κ v0), none, some (.int v2), some (.int v3), some (.int v4), some (.int v5), none], [])) (k12 v0 v2 v3 v4 v5)) (v0 : Nat) (v2 : Int32) (v3 : Int32) (v4 : Int32) (v5 : Int32) (hv0 : kd v0 = 2) : sm_S κ (fun r : Int32 => .inr (some (.int r))) (.inl (139, [some (xad κ v0), none, some (.int v2), some (.int v3), some (.int v4), some (.int v5), none], [])) (fnX2_narrowest_J139 k12 v0 v2 v3 v4 v5) := by
  unfold fnX2_narrowest_J139
  refine sr_iload (i := 4) (q := 141) C (show decode cX2_narrowest 139 = .ok (.iload 4, 2) from by decide +kernel) rfl rfl ?_
  refine sr_if_ne (q := 144) C 148 (show decode cX2_narrowest 141 = .ok (.ifCond .ne 7, 3) from by decide +kernel) (by decide) rfl ?_ ?_
  · refine sr_iconst (v := (0 : Int32)) (q := 149) C (show decode cX2_narrowest 148 = .ok (.iconst 0, 1) from by decide +kernel) (by decide) rfl ?_
    refine sr_weak (L' := [some (xad κ v0), none, some (.int v2), some (.int v3), none, some (.int v5), none]) ⟨rfl, rfl, rfl, rfl, trivial⟩ ?_
    exact slX2_narrowest_J149 C K12 v0 v2 v3 v5 (0 : Int32) hv0
  · refine sr_iconst (v := (1 : Int32)) (q := 145) C (show decode cX2_narrowest 144 = .ok (.iconst 1, 1) from by decide +kernel) (by decide) rfl ?_
    refine sr_goto (q := 149) C (show decode cX2_narrowest 145 = .ok (.goto 4, 3) from by decide +kernel) (by decide) ?_
    refine sr_weak (L' := [some (xad κ v0), none, some (.int v2), some (.int v3), none, some (.int v5), none]) ⟨rfl, rfl, rfl, rfl, trivial⟩ ?_
    exact slX2_narrowest_J149 C K12 v0 v2 v3 v5 (1 : Int32) hv0
def fnX2_narrowest_J135 (k12 : Nat → Int32 → Int32 → Int32 → Int32 → sm_M Int32) (v0 : Nat) (v4 : Int32) (v5 : Int32) (v6 : Int32) (s0 : Int32) : sm_M Int32 := fnX2_narrowest_J139 k12 v0 s0 v6 v4 v5
set_option maxHeartbeats 4000000 in
set_option maxRecDepth 100000 in
theorem slX2_narrowest_J135 {κ : sm_X} (C : sm_C κ RX2 cX2_narrowest 7 1) {k12 : Nat → Int32 → Int32 → Int32 → Int32 → sm_M Int32} (K12 : ∀ (v0 : Nat) (v2 : Int32) (v3 : Int32) (v4 : Int32) (v5 : Int32) (hv0 : kd v0 = 2), sm_S κ (fun r : Int32 => .inr (some (.int r))) (.inl (12, [some (xad κ v0), none, some (.int v2), some (.int v3), some (.int v4), some (.int v5), none], [])) (k12 v0 v2 v3 v4 v5)) (v0 : Nat) (v4 : Int32) (v5 : Int32) (v6 : Int32) (s0 : Int32) (hv0 : kd v0 = 2) : sm_S κ (fun r : Int32 => .inr (some (.int r))) (.inl (135, [some (xad κ v0), none, none, none, some (.int v4), some (.int v5), some (.int v6)], [.int s0])) (fnX2_narrowest_J135 k12 v0 v4 v5 v6 s0) := by
  unfold fnX2_narrowest_J135
  refine sr_istore_n (i := 2) (L' := [some (xad κ v0), none, some (.int s0), none, some (.int v4), some (.int v5), some (.int v6)]) (q := 136) C (show decode cX2_narrowest 135 = .ok (.istore_n 2, 1) from by decide +kernel) rfl (by decide) rfl rfl ?_
  refine sr_iload (i := 6) (q := 138) C (show decode cX2_narrowest 136 = .ok (.iload 6, 2) from by decide +kernel) rfl rfl ?_
  refine sr_istore_n (i := 3) (L' := [some (xad κ v0), none, some (.int s0), some (.int v6), some (.int v4), some (.int v5), some (.int v6)]) (q := 139) C (show decode cX2_narrowest 138 = .ok (.istore_n 3, 1) from by decide +kernel) rfl (by decide) rfl rfl ?_
  refine sr_weak (L' := [some (xad κ v0), none, some (.int s0), some (.int v6), some (.int v4), some (.int v5), none]) ⟨rfl, rfl, rfl, rfl, rfl, trivial⟩ ?_
  exact slX2_narrowest_J139 C K12 v0 s0 v6 v4 v5 hv0
def fnX2_narrowest_J100 (k12 : Nat → Int32 → Int32 → Int32 → Int32 → sm_M Int32) (v0 : Nat) (v3 : Int32) (v4 : Int32) (v5 : Int32) (s0 : Int32) (s1 : Int32) : sm_M Int32 := m_nm (jmin s1 s0) fun y103 => fnX2_narrowest_J139 k12 v0 y103 v3 v4 v5
set_option maxHeartbeats 4000000 in
set_option maxRecDepth 100000 in
theorem slX2_narrowest_J100 {κ : sm_X} (C : sm_C κ RX2 cX2_narrowest 7 1) {k12 : Nat → Int32 → Int32 → Int32 → Int32 → sm_M Int32} (K12 : ∀ (v0 : Nat) (v2 : Int32) (v3 : Int32) (v4 : Int32) (v5 : Int32) (hv0 : kd v0 = 2), sm_S κ (fun r : Int32 => .inr (some (.int r))) (.inl (12, [some (xad κ v0), none, some (.int v2), some (.int v3), some (.int v4), some (.int v5), none], [])) (k12 v0 v2 v3 v4 v5)) (v0 : Nat) (v3 : Int32) (v4 : Int32) (v5 : Int32) (s0 : Int32) (s1 : Int32) (hv0 : kd v0 = 2) : sm_S κ (fun r : Int32 => .inr (some (.int r))) (.inl (100, [some (xad κ v0), none, none, some (.int v3), some (.int v4), some (.int v5), none], [.int s0, .int s1])) (fnX2_narrowest_J100 k12 v0 v3 v4 v5 s0 s1) := by
  unfold fnX2_narrowest_J100
  refine sr_jmin (st := []) (q := 103) C ml_X2_104 (by decide) (Nat.le_of_ble_eq_true rfl) (show decode cX2_narrowest 100 = .ok (.invokestatic 104, 3) from by decide +kernel) rfl ?_
  refine sr_nmi (fun y103 => ?_)
  refine sr_istore_n (i := 2) (L' := [some (xad κ v0), none, some (.int y103), some (.int v3), some (.int v4), some (.int v5), none]) (q := 104) C (show decode cX2_narrowest 103 = .ok (.istore_n 2, 1) from by decide +kernel) rfl (by decide) rfl rfl ?_
  refine sr_goto (q := 139) C (show decode cX2_narrowest 104 = .ok (.goto 35, 3) from by decide +kernel) (by decide) ?_
  exact slX2_narrowest_J139 C K12 v0 y103 v3 v4 v5 hv0
def fnX2_narrowest_J54 (k12 : Nat → Int32 → Int32 → Int32 → Int32 → sm_M Int32) (v0 : Nat) (v2 : Int32) (v3 : Int32) (v4 : Int32) (v5 : Int32) (s0 : Int32) : sm_M Int32 := m_br (s0 = (-2 : Int32))
    (m_br (v4 = 0)
    (m_ai (lk (lk v0 1) 7) v3 fun x99 => fnX2_narrowest_J100 k12 v0 v3 v4 v5 x99 v2)
    (m_ai (lk (lk v0 1) 6) v3 fun x77 => m_ai (lk (lk v0 1) 7) v3 fun x86 => fnX2_narrowest_J100 k12 v0 v3 v4 v5 (x77 - x86) v2))
    (m_br (v4 = 0)
    (fnX2_narrowest_J135 k12 v0 v4 v5 s0 v2)
    (m_ai (lk (lk v0 1) 8) ((v3 * (25 : Int32)) + s0) fun x127 => fnX2_narrowest_J135 k12 v0 v4 v5 s0 (jmin v2 x127)))
set_option maxHeartbeats 4000000 in
set_option maxRecDepth 100000 in
theorem slX2_narrowest_J54 {κ : sm_X} (C : sm_C κ RX2 cX2_narrowest 7 1) {k12 : Nat → Int32 → Int32 → Int32 → Int32 → sm_M Int32} (K12 : ∀ (v0 : Nat) (v2 : Int32) (v3 : Int32) (v4 : Int32) (v5 : Int32) (hv0 : kd v0 = 2), sm_S κ (fun r : Int32 => .inr (some (.int r))) (.inl (12, [some (xad κ v0), none, some (.int v2), some (.int v3), some (.int v4), some (.int v5), none], [])) (k12 v0 v2 v3 v4 v5)) (v0 : Nat) (v2 : Int32) (v3 : Int32) (v4 : Int32) (v5 : Int32) (s0 : Int32) (hv0 : kd v0 = 2) : sm_S κ (fun r : Int32 => .inr (some (.int r))) (.inl (54, [some (xad κ v0), none, some (.int v2), some (.int v3), some (.int v4), some (.int v5), none], [.int s0])) (fnX2_narrowest_J54 k12 v0 v2 v3 v4 v5 s0) := by
  unfold fnX2_narrowest_J54
  refine sr_istore (i := 6) (L' := [some (xad κ v0), none, some (.int v2), some (.int v3), some (.int v4), some (.int v5), some (.int s0)]) (q := 56) C (show decode cX2_narrowest 54 = .ok (.istore 6, 2) from by decide +kernel) (by decide) rfl rfl ?_
  refine sr_iload (i := 6) (q := 58) C (show decode cX2_narrowest 56 = .ok (.iload 6, 2) from by decide +kernel) rfl rfl ?_
  refine sr_bipush (v := (-2 : Int32)) (q := 60) C (show decode cX2_narrowest 58 = .ok (.bipush (-2), 2) from by decide +kernel) (by decide) rfl ?_
  refine sr_icmp_ne (q := 63) C 107 (show decode cX2_narrowest 60 = .ok (.if_icmp .ne 47, 3) from by decide +kernel) (by decide) rfl ?_ ?_
  · refine sr_iload (i := 4) (q := 109) C (show decode cX2_narrowest 107 = .ok (.iload 4, 2) from by decide +kernel) rfl rfl ?_
    refine sr_if_eq (q := 112) C 134 (show decode cX2_narrowest 109 = .ok (.ifCond .eq 25, 3) from by decide +kernel) (by decide) rfl ?_ ?_
    · refine sr_iload_n (i := 2) (q := 135) C (show decode cX2_narrowest 134 = .ok (.iload_n 2, 1) from by decide +kernel) rfl rfl rfl ?_
      refine sr_weak (L' := [some (xad κ v0), none, none, none, some (.int v4), some (.int v5), some (.int s0)]) ⟨rfl, rfl, rfl, rfl, trivial⟩ ?_
      exact slX2_narrowest_J135 C K12 v0 v4 v5 s0 v2 hv0
    · refine sr_iload_n (i := 2) (q := 113) C (show decode cX2_narrowest 112 = .ok (.iload_n 2, 1) from by decide +kernel) rfl rfl rfl ?_
      refine sr_aload_n (i := 0) (q := 114) C (show decode cX2_narrowest 113 = .ok (.aload_n 0, 1) from by decide +kernel) rfl rfl rfl ?_
      refine sr_getr (q := 117) C fl_X2_14 hv0 (show decode cX2_narrowest 114 = .ok (.getfield 14, 3) from by decide +kernel) rfl ?_
      refine sr_getr (q := 120) C fl_X2_155 (kt hv0 kp_2_1) (show decode cX2_narrowest 117 = .ok (.getfield 155, 3) from by decide +kernel) rfl ?_
      refine sr_iload_n (i := 3) (q := 121) C (show decode cX2_narrowest 120 = .ok (.iload_n 3, 1) from by decide +kernel) rfl rfl rfl ?_
      refine sr_bipush (v := (25 : Int32)) (q := 123) C (show decode cX2_narrowest 121 = .ok (.bipush 25, 2) from by decide +kernel) (by decide) rfl ?_
      refine sr_imul (q := 124) C (show decode cX2_narrowest 123 = .ok (.imul, 1) from by decide +kernel) rfl ?_
      refine sr_iload (i := 6) (q := 126) C (show decode cX2_narrowest 124 = .ok (.iload 6, 2) from by decide +kernel) rfl rfl ?_
      refine sr_iadd (q := 127) C (show decode cX2_narrowest 126 = .ok (.iadd, 1) from by decide +kernel) rfl ?_
      refine sr_iaload (q := 128) C (kt (kt hv0 kp_2_1) kp_4_8) (show decode cX2_narrowest 127 = .ok (.iaload, 1) from by decide +kernel) rfl (fun x127 => ?_)
      refine sr_jmin (st := []) (q := 131) C ml_X2_104 (by decide) (Nat.le_of_ble_eq_true rfl) (show decode cX2_narrowest 128 = .ok (.invokestatic 104, 3) from by decide +kernel) rfl ?_
      refine sr_goto (q := 135) C (show decode cX2_narrowest 131 = .ok (.goto 4, 3) from by decide +kernel) (by decide) ?_
      refine sr_weak (L' := [some (xad κ v0), none, none, none, some (.int v4), some (.int v5), some (.int s0)]) ⟨rfl, rfl, rfl, rfl, trivial⟩ ?_
      exact slX2_narrowest_J135 C K12 v0 v4 v5 s0 (jmin v2 x127) hv0
  · refine sr_iload_n (i := 2) (q := 64) C (show decode cX2_narrowest 63 = .ok (.iload_n 2, 1) from by decide +kernel) rfl rfl rfl ?_
    refine sr_iload (i := 4) (q := 66) C (show decode cX2_narrowest 64 = .ok (.iload 4, 2) from by decide +kernel) rfl rfl ?_
    refine sr_if_eq (q := 69) C 91 (show decode cX2_narrowest 66 = .ok (.ifCond .eq 25, 3) from by decide +kernel) (by decide) rfl ?_ ?_
    · refine sr_aload_n (i := 0) (q := 92) C (show decode cX2_narrowest 91 = .ok (.aload_n 0, 1) from by decide +kernel) rfl rfl rfl ?_
      refine sr_getr (q := 95) C fl_X2_14 hv0 (show decode cX2_narrowest 92 = .ok (.getfield 14, 3) from by decide +kernel) rfl ?_
      refine sr_getr (q := 98) C fl_X2_146 (kt hv0 kp_2_1) (show decode cX2_narrowest 95 = .ok (.getfield 146, 3) from by decide +kernel) rfl ?_
      refine sr_iload_n (i := 3) (q := 99) C (show decode cX2_narrowest 98 = .ok (.iload_n 3, 1) from by decide +kernel) rfl rfl rfl ?_
      refine sr_iaload (q := 100) C (kt (kt hv0 kp_2_1) kp_4_7) (show decode cX2_narrowest 99 = .ok (.iaload, 1) from by decide +kernel) rfl (fun x99 => ?_)
      refine sr_weak (L' := [some (xad κ v0), none, none, some (.int v3), some (.int v4), some (.int v5), none]) ⟨rfl, rfl, rfl, rfl, trivial⟩ ?_
      exact slX2_narrowest_J100 C K12 v0 v3 v4 v5 x99 v2 hv0
    · refine sr_aload_n (i := 0) (q := 70) C (show decode cX2_narrowest 69 = .ok (.aload_n 0, 1) from by decide +kernel) rfl rfl rfl ?_
      refine sr_getr (q := 73) C fl_X2_14 hv0 (show decode cX2_narrowest 70 = .ok (.getfield 14, 3) from by decide +kernel) rfl ?_
      refine sr_getr (q := 76) C fl_X2_63 (kt hv0 kp_2_1) (show decode cX2_narrowest 73 = .ok (.getfield 63, 3) from by decide +kernel) rfl ?_
      refine sr_iload_n (i := 3) (q := 77) C (show decode cX2_narrowest 76 = .ok (.iload_n 3, 1) from by decide +kernel) rfl rfl rfl ?_
      refine sr_iaload (q := 78) C (kt (kt hv0 kp_2_1) kp_4_6) (show decode cX2_narrowest 77 = .ok (.iaload, 1) from by decide +kernel) rfl (fun x77 => ?_)
      refine sr_aload_n (i := 0) (q := 79) C (show decode cX2_narrowest 78 = .ok (.aload_n 0, 1) from by decide +kernel) rfl rfl rfl ?_
      refine sr_getr (q := 82) C fl_X2_14 hv0 (show decode cX2_narrowest 79 = .ok (.getfield 14, 3) from by decide +kernel) rfl ?_
      refine sr_getr (q := 85) C fl_X2_146 (kt hv0 kp_2_1) (show decode cX2_narrowest 82 = .ok (.getfield 146, 3) from by decide +kernel) rfl ?_
      refine sr_iload_n (i := 3) (q := 86) C (show decode cX2_narrowest 85 = .ok (.iload_n 3, 1) from by decide +kernel) rfl rfl rfl ?_
      refine sr_iaload (q := 87) C (kt (kt hv0 kp_2_1) kp_4_7) (show decode cX2_narrowest 86 = .ok (.iaload, 1) from by decide +kernel) rfl (fun x86 => ?_)
      refine sr_isub (q := 88) C (show decode cX2_narrowest 87 = .ok (.isub, 1) from by decide +kernel) rfl ?_
      refine sr_goto (q := 100) C (show decode cX2_narrowest 88 = .ok (.goto 12, 3) from by decide +kernel) (by decide) ?_
      refine sr_weak (L' := [some (xad κ v0), none, none, some (.int v3), some (.int v4), some (.int v5), none]) ⟨rfl, rfl, rfl, rfl, trivial⟩ ?_
      exact slX2_narrowest_J100 C K12 v0 v3 v4 v5 (x77 - x86) v2 hv0
def fnX2_narrowest_J34 (k12 : Nat → Int32 → Int32 → Int32 → Int32 → sm_M Int32) (v0 : Nat) (v2 : Int32) (v3 : Int32) (v4 : Int32) (v5 : Int32) : sm_M Int32 := m_br (v4 = 0)
    (m_ai (lk v0 3) v3 fun x53 => fnX2_narrowest_J54 k12 v0 v2 v3 v4 v5 x53)
    (m_ai (lk v0 4) v3 fun x44 => fnX2_narrowest_J54 k12 v0 v2 v3 v4 v5 x44)
set_option maxHeartbeats 4000000 in
set_option maxRecDepth 100000 in
theorem slX2_narrowest_J34 {κ : sm_X} (C : sm_C κ RX2 cX2_narrowest 7 1) {k12 : Nat → Int32 → Int32 → Int32 → Int32 → sm_M Int32} (K12 : ∀ (v0 : Nat) (v2 : Int32) (v3 : Int32) (v4 : Int32) (v5 : Int32) (hv0 : kd v0 = 2), sm_S κ (fun r : Int32 => .inr (some (.int r))) (.inl (12, [some (xad κ v0), none, some (.int v2), some (.int v3), some (.int v4), some (.int v5), none], [])) (k12 v0 v2 v3 v4 v5)) (v0 : Nat) (v2 : Int32) (v3 : Int32) (v4 : Int32) (v5 : Int32) (hv0 : kd v0 = 2) : sm_S κ (fun r : Int32 => .inr (some (.int r))) (.inl (34, [some (xad κ v0), none, some (.int v2), some (.int v3), some (.int v4), some (.int v5), none], [])) (fnX2_narrowest_J34 k12 v0 v2 v3 v4 v5) := by
  unfold fnX2_narrowest_J34
  refine sr_iload (i := 4) (q := 36) C (show decode cX2_narrowest 34 = .ok (.iload 4, 2) from by decide +kernel) rfl rfl ?_
  refine sr_if_eq (q := 39) C 48 (show decode cX2_narrowest 36 = .ok (.ifCond .eq 12, 3) from by decide +kernel) (by decide) rfl ?_ ?_
  · refine sr_aload_n (i := 0) (q := 49) C (show decode cX2_narrowest 48 = .ok (.aload_n 0, 1) from by decide +kernel) rfl rfl rfl ?_
    refine sr_getr (q := 52) C fl_X2_21 hv0 (show decode cX2_narrowest 49 = .ok (.getfield 21, 3) from by decide +kernel) rfl ?_
    refine sr_iload_n (i := 3) (q := 53) C (show decode cX2_narrowest 52 = .ok (.iload_n 3, 1) from by decide +kernel) rfl rfl rfl ?_
    refine sr_iaload (q := 54) C (kt hv0 kp_2_3) (show decode cX2_narrowest 53 = .ok (.iaload, 1) from by decide +kernel) rfl (fun x53 => ?_)
    exact slX2_narrowest_J54 C K12 v0 v2 v3 v4 v5 x53 hv0
  · refine sr_aload_n (i := 0) (q := 40) C (show decode cX2_narrowest 39 = .ok (.aload_n 0, 1) from by decide +kernel) rfl rfl rfl ?_
    refine sr_getr (q := 43) C fl_X2_25 hv0 (show decode cX2_narrowest 40 = .ok (.getfield 25, 3) from by decide +kernel) rfl ?_
    refine sr_iload_n (i := 3) (q := 44) C (show decode cX2_narrowest 43 = .ok (.iload_n 3, 1) from by decide +kernel) rfl rfl rfl ?_
    refine sr_iaload (q := 45) C (kt hv0 kp_2_4) (show decode cX2_narrowest 44 = .ok (.iaload, 1) from by decide +kernel) rfl (fun x44 => ?_)
    refine sr_goto (q := 54) C (show decode cX2_narrowest 45 = .ok (.goto 9, 3) from by decide +kernel) (by decide) ?_
    exact slX2_narrowest_J54 C K12 v0 v2 v3 v4 v5 x44 hv0
def fnX2_narrowest_L12 : Nat → Nat → Int32 → Int32 → Int32 → Int32 → sm_M Int32
  | 0, _, _, _, _, _ => m_fail
  | n + 1, v0, v2, v3, v4, v5 => m_br ((52 : Int32) ≤ v5)
    (m_ret v2)
    (m_br (v4 = 0)
    (m_ai (lk v0 3) v3 fun x29 => m_br (x29 = (-1 : Int32))
    (m_ret v2)
    (fnX2_narrowest_J34 (fnX2_narrowest_L12 n) v0 v2 v3 v4 v5))
    (fnX2_narrowest_J34 (fnX2_narrowest_L12 n) v0 v2 v3 v4 v5))
set_option maxHeartbeats 4000000 in
set_option maxRecDepth 100000 in
theorem slX2_narrowest_L12 {κ : sm_X} (C : sm_C κ RX2 cX2_narrowest 7 1) : ∀ (n : Nat) (v0 : Nat) (v2 : Int32) (v3 : Int32) (v4 : Int32) (v5 : Int32) (hv0 : kd v0 = 2), sm_S κ (fun r : Int32 => .inr (some (.int r))) (.inl (12, [some (xad κ v0), none, some (.int v2), some (.int v3), some (.int v4), some (.int v5), none], [])) (fnX2_narrowest_L12 n v0 v2 v3 v4 v5) := by
  intro n
  induction n with
  | zero =>
    intros
    exact sr_fail
  | succ n K12 =>
    intro v0 v2 v3 v4 v5 hv0
    unfold fnX2_narrowest_L12
    refine sr_iload (i := 5) (q := 14) C (show decode cX2_narrowest 12 = .ok (.iload 5, 2) from by decide +kernel) rfl rfl ?_
    refine sr_bipush (v := (52 : Int32)) (q := 16) C (show decode cX2_narrowest 14 = .ok (.bipush 52, 2) from by decide +kernel) (by decide) rfl ?_
    refine sr_icmp_ge (q := 19) C 157 (show decode cX2_narrowest 16 = .ok (.if_icmp .ge 141, 3) from by decide +kernel) (by decide) rfl ?_ ?_
    · refine sr_iload_n (i := 2) (q := 158) C (show decode cX2_narrowest 157 = .ok (.iload_n 2, 1) from by decide +kernel) rfl rfl rfl ?_
      exact sr_ireturn C _ rfl (show decode cX2_narrowest 158 = .ok (.ireturn, 1) from by decide +kernel)
    · refine sr_iload (i := 4) (q := 21) C (show decode cX2_narrowest 19 = .ok (.iload 4, 2) from by decide +kernel) rfl rfl ?_
      refine sr_if_ne (q := 24) C 34 (show decode cX2_narrowest 21 = .ok (.ifCond .ne 13, 3) from by decide +kernel) (by decide) rfl ?_ ?_
      · exact slX2_narrowest_J34 C K12 v0 v2 v3 v4 v5 hv0
      · refine sr_aload_n (i := 0) (q := 25) C (show decode cX2_narrowest 24 = .ok (.aload_n 0, 1) from by decide +kernel) rfl rfl rfl ?_
        refine sr_getr (q := 28) C fl_X2_21 hv0 (show decode cX2_narrowest 25 = .ok (.getfield 21, 3) from by decide +kernel) rfl ?_
        refine sr_iload_n (i := 3) (q := 29) C (show decode cX2_narrowest 28 = .ok (.iload_n 3, 1) from by decide +kernel) rfl rfl rfl ?_
        refine sr_iaload (q := 30) C (kt hv0 kp_2_3) (show decode cX2_narrowest 29 = .ok (.iaload, 1) from by decide +kernel) rfl (fun x29 => ?_)
        refine sr_iconst (v := (-1 : Int32)) (q := 31) C (show decode cX2_narrowest 30 = .ok (.iconst (-1), 1) from by decide +kernel) (by decide) rfl ?_
        refine sr_icmp_eq (q := 34) C 157 (show decode cX2_narrowest 31 = .ok (.if_icmp .eq 126, 3) from by decide +kernel) (by decide) rfl ?_ ?_
        · refine sr_iload_n (i := 2) (q := 158) C (show decode cX2_narrowest 157 = .ok (.iload_n 2, 1) from by decide +kernel) rfl rfl rfl ?_
          exact sr_ireturn C _ rfl (show decode cX2_narrowest 158 = .ok (.ireturn, 1) from by decide +kernel)
        · exact slX2_narrowest_J34 C K12 v0 v2 v3 v4 v5 hv0
def fnX2_narrowest (v0 : Nat) (v1 : Int32) : sm_M Int32 := fnX2_narrowest_L12 4096 v0 (999 : Int32) v1 (1 : Int32) (0 : Int32)
set_option maxHeartbeats 4000000 in
set_option maxRecDepth 100000 in
theorem slX2_narrowest {κ : sm_X} (C : sm_C κ RX2 cX2_narrowest 7 1) (v0 : Nat) (v1 : Int32) (hv0 : kd v0 = 2) : sm_S κ (fun r : Int32 => .inr (some (.int r))) (.inl (0, [some (xad κ v0), some (.int v1), none, none, none, none, none], [])) (fnX2_narrowest v0 v1) := by
  unfold fnX2_narrowest
  refine sr_sipush (v := (999 : Int32)) (q := 3) C (show decode cX2_narrowest 0 = .ok (.sipush 999, 3) from by decide +kernel) (by decide) rfl ?_
  refine sr_istore_n (i := 2) (L' := [some (xad κ v0), some (.int v1), some (.int (999 : Int32)), none, none, none, none]) (q := 4) C (show decode cX2_narrowest 3 = .ok (.istore_n 2, 1) from by decide +kernel) rfl (by decide) rfl rfl ?_
  refine sr_iload_n (i := 1) (q := 5) C (show decode cX2_narrowest 4 = .ok (.iload_n 1, 1) from by decide +kernel) rfl rfl rfl ?_
  refine sr_istore_n (i := 3) (L' := [some (xad κ v0), some (.int v1), some (.int (999 : Int32)), some (.int v1), none, none, none]) (q := 6) C (show decode cX2_narrowest 5 = .ok (.istore_n 3, 1) from by decide +kernel) rfl (by decide) rfl rfl ?_
  refine sr_iconst (v := (1 : Int32)) (q := 7) C (show decode cX2_narrowest 6 = .ok (.iconst 1, 1) from by decide +kernel) (by decide) rfl ?_
  refine sr_istore (i := 4) (L' := [some (xad κ v0), some (.int v1), some (.int (999 : Int32)), some (.int v1), some (.int (1 : Int32)), none, none]) (q := 9) C (show decode cX2_narrowest 7 = .ok (.istore 4, 2) from by decide +kernel) (by decide) rfl rfl ?_
  refine sr_iconst (v := (0 : Int32)) (q := 10) C (show decode cX2_narrowest 9 = .ok (.iconst 0, 1) from by decide +kernel) (by decide) rfl ?_
  refine sr_istore (i := 5) (L' := [some (xad κ v0), some (.int v1), some (.int (999 : Int32)), some (.int v1), some (.int (1 : Int32)), some (.int (0 : Int32)), none]) (q := 12) C (show decode cX2_narrowest 10 = .ok (.istore 5, 2) from by decide +kernel) (by decide) rfl rfl ?_
  refine sr_weak (L' := [some (xad κ v0), none, some (.int (999 : Int32)), some (.int v1), some (.int (1 : Int32)), some (.int (0 : Int32)), none]) ⟨rfl, rfl, rfl, rfl, rfl, trivial⟩ ?_
  exact slX2_narrowest_L12 C 4096 v0 (999 : Int32) v1 (1 : Int32) (0 : Int32) hv0
theorem cnX2_narrowest (ω : sm_O) (v0 : Nat) (v1 : Int32) (hv0 : kd v0 = 2) : sm_Mt 1 yX2_narrowest cX2_narrowest 7 (some .int) ω [.ref (ω.1 + v0), .int v1] (fun a => some (.int a)) (fnX2_narrowest v0 v1) := by
  refine sm_conI (r := fun a => a) (by decide) (fun _ => rfl) (Nat.le_of_ble_eq_true rfl) ?_
  intro κ hκ C
  subst hκ
  exact slX2_narrowest C v0 v1 hv0
def fnX4_pass (v0 : Nat) (v1 : Int32) (v2 : Int32) (v3 : Int32) : sm_M Unit := m_nm ((v1 * (25 : Int32)) + v2) fun y6 => m_ai (lk v0 8) y6 fun x15 => m_sai (lk v0 8) y6 (x15 + v3) <| m_ai (lk v0 8) y6 fun x25 => m_br (x25 ≤ 0)
    (m_ai (lk v0 9) v2 fun x50 => m_sai (lk v0 9) v2 (x50 &&& (((1 : Int32) <<< (v1 &&& 31)) ^^^ (-1 : Int32))) <| m_ret ())
    (m_ai (lk v0 9) v2 fun x35 => m_sai (lk v0 9) v2 (x35 ||| ((1 : Int32) <<< (v1 &&& 31))) <| m_ret ())
set_option maxHeartbeats 4000000 in
set_option maxRecDepth 100000 in
theorem slX4_pass {κ : sm_X} (C : sm_C κ RX4 cX4_pass 5 1) (v0 : Nat) (v1 : Int32) (v2 : Int32) (v3 : Int32) (hv0 : kd v0 = 4) : sm_S κ (fun _ : Unit => .inr none) (.inl (0, [some (xad κ v0), some (.int v1), some (.int v2), some (.int v3), none], [])) (fnX4_pass v0 v1 v2 v3) := by
  unfold fnX4_pass
  refine sr_iload_n (i := 1) (q := 1) C (show decode cX4_pass 0 = .ok (.iload_n 1, 1) from by decide +kernel) rfl rfl rfl ?_
  refine sr_bipush (v := (25 : Int32)) (q := 3) C (show decode cX4_pass 1 = .ok (.bipush 25, 2) from by decide +kernel) (by decide) rfl ?_
  refine sr_imul (q := 4) C (show decode cX4_pass 3 = .ok (.imul, 1) from by decide +kernel) rfl ?_
  refine sr_iload_n (i := 2) (q := 5) C (show decode cX4_pass 4 = .ok (.iload_n 2, 1) from by decide +kernel) rfl rfl rfl ?_
  refine sr_iadd (q := 6) C (show decode cX4_pass 5 = .ok (.iadd, 1) from by decide +kernel) rfl ?_
  refine sr_nmi (fun y6 => ?_)
  refine sr_istore (i := 4) (L' := [some (xad κ v0), some (.int v1), some (.int v2), some (.int v3), some (.int y6)]) (q := 8) C (show decode cX4_pass 6 = .ok (.istore 4, 2) from by decide +kernel) (by decide) rfl rfl ?_
  refine sr_aload_n (i := 0) (q := 9) C (show decode cX4_pass 8 = .ok (.aload_n 0, 1) from by decide +kernel) rfl rfl rfl ?_
  refine sr_getr (q := 12) C fl_X4_21 hv0 (show decode cX4_pass 9 = .ok (.getfield 21, 3) from by decide +kernel) rfl ?_
  refine sr_iload (i := 4) (q := 14) C (show decode cX4_pass 12 = .ok (.iload 4, 2) from by decide +kernel) rfl rfl ?_
  refine sr_dup2 (q := 15) C (show decode cX4_pass 14 = .ok (.dup2, 1) from by decide +kernel) rfl rfl rfl ?_
  refine sr_iaload (q := 16) C (kt hv0 kp_4_8) (show decode cX4_pass 15 = .ok (.iaload, 1) from by decide +kernel) rfl (fun x15 => ?_)
  refine sr_iload_n (i := 3) (q := 17) C (show decode cX4_pass 16 = .ok (.iload_n 3, 1) from by decide +kernel) rfl rfl rfl ?_
  refine sr_iadd (q := 18) C (show decode cX4_pass 17 = .ok (.iadd, 1) from by decide +kernel) rfl ?_
  refine sr_iastore (q := 19) C (kt hv0 kp_4_8) (show decode cX4_pass 18 = .ok (.iastore, 1) from by decide +kernel) rfl ?_
  refine sr_aload_n (i := 0) (q := 20) C (show decode cX4_pass 19 = .ok (.aload_n 0, 1) from by decide +kernel) rfl rfl rfl ?_
  refine sr_getr (q := 23) C fl_X4_21 hv0 (show decode cX4_pass 20 = .ok (.getfield 21, 3) from by decide +kernel) rfl ?_
  refine sr_iload (i := 4) (q := 25) C (show decode cX4_pass 23 = .ok (.iload 4, 2) from by decide +kernel) rfl rfl ?_
  refine sr_iaload (q := 26) C (kt hv0 kp_4_8) (show decode cX4_pass 25 = .ok (.iaload, 1) from by decide +kernel) rfl (fun x25 => ?_)
  refine sr_if_le (q := 29) C 44 (show decode cX4_pass 26 = .ok (.ifCond .le 18, 3) from by decide +kernel) (by decide) rfl ?_ ?_
  · refine sr_aload_n (i := 0) (q := 45) C (show decode cX4_pass 44 = .ok (.aload_n 0, 1) from by decide +kernel) rfl rfl rfl ?_
    refine sr_getr (q := 48) C fl_X4_24 hv0 (show decode cX4_pass 45 = .ok (.getfield 24, 3) from by decide +kernel) rfl ?_
    refine sr_iload_n (i := 2) (q := 49) C (show decode cX4_pass 48 = .ok (.iload_n 2, 1) from by decide +kernel) rfl rfl rfl ?_
    refine sr_dup2 (q := 50) C (show decode cX4_pass 49 = .ok (.dup2, 1) from by decide +kernel) rfl rfl rfl ?_
    refine sr_iaload (q := 51) C (kt hv0 kp_4_9) (show decode cX4_pass 50 = .ok (.iaload, 1) from by decide +kernel) rfl (fun x50 => ?_)
    refine sr_iconst (v := (1 : Int32)) (q := 52) C (show decode cX4_pass 51 = .ok (.iconst 1, 1) from by decide +kernel) (by decide) rfl ?_
    refine sr_iload_n (i := 1) (q := 53) C (show decode cX4_pass 52 = .ok (.iload_n 1, 1) from by decide +kernel) rfl rfl rfl ?_
    refine sr_ishl (q := 54) C (show decode cX4_pass 53 = .ok (.ishl, 1) from by decide +kernel) rfl ?_
    refine sr_iconst (v := (-1 : Int32)) (q := 55) C (show decode cX4_pass 54 = .ok (.iconst (-1), 1) from by decide +kernel) (by decide) rfl ?_
    refine sr_ixor (q := 56) C (show decode cX4_pass 55 = .ok (.ixor, 1) from by decide +kernel) rfl ?_
    refine sr_iand (q := 57) C (show decode cX4_pass 56 = .ok (.iand, 1) from by decide +kernel) rfl ?_
    refine sr_iastore (q := 58) C (kt hv0 kp_4_9) (show decode cX4_pass 57 = .ok (.iastore, 1) from by decide +kernel) rfl ?_
    exact sr_vreturn C _ rfl (show decode cX4_pass 58 = .ok (.return_, 1) from by decide +kernel)
  · refine sr_aload_n (i := 0) (q := 30) C (show decode cX4_pass 29 = .ok (.aload_n 0, 1) from by decide +kernel) rfl rfl rfl ?_
    refine sr_getr (q := 33) C fl_X4_24 hv0 (show decode cX4_pass 30 = .ok (.getfield 24, 3) from by decide +kernel) rfl ?_
    refine sr_iload_n (i := 2) (q := 34) C (show decode cX4_pass 33 = .ok (.iload_n 2, 1) from by decide +kernel) rfl rfl rfl ?_
    refine sr_dup2 (q := 35) C (show decode cX4_pass 34 = .ok (.dup2, 1) from by decide +kernel) rfl rfl rfl ?_
    refine sr_iaload (q := 36) C (kt hv0 kp_4_9) (show decode cX4_pass 35 = .ok (.iaload, 1) from by decide +kernel) rfl (fun x35 => ?_)
    refine sr_iconst (v := (1 : Int32)) (q := 37) C (show decode cX4_pass 36 = .ok (.iconst 1, 1) from by decide +kernel) (by decide) rfl ?_
    refine sr_iload_n (i := 1) (q := 38) C (show decode cX4_pass 37 = .ok (.iload_n 1, 1) from by decide +kernel) rfl rfl rfl ?_
    refine sr_ishl (q := 39) C (show decode cX4_pass 38 = .ok (.ishl, 1) from by decide +kernel) rfl ?_
    refine sr_ior (q := 40) C (show decode cX4_pass 39 = .ok (.ior, 1) from by decide +kernel) rfl ?_
    refine sr_iastore (q := 41) C (kt hv0 kp_4_9) (show decode cX4_pass 40 = .ok (.iastore, 1) from by decide +kernel) rfl ?_
    refine sr_goto (q := 58) C (show decode cX4_pass 41 = .ok (.goto 17, 3) from by decide +kernel) (by decide) ?_
    exact sr_vreturn C _ rfl (show decode cX4_pass 58 = .ok (.return_, 1) from by decide +kernel)
theorem cnX4_pass (ω : sm_O) (v0 : Nat) (v1 : Int32) (v2 : Int32) (v3 : Int32) (hv0 : kd v0 = 4) : sm_Mt 1 yX4_pass cX4_pass 5 none ω [.ref (ω.1 + v0), .int v1, .int v2, .int v3] (fun _ => none) (fnX4_pass v0 v1 v2 v3) := by
  refine sm_conV (by decide) (Nat.le_of_ble_eq_true rfl) ?_
  intro κ hκ C
  subst hκ
  exact slX4_pass C v0 v1 v2 v3 hv0
def fnX2_push_J129 (k8 : Nat → Int32 → Int32 → Int32 → Int32 → sm_M Unit) (v0 : Nat) (v2 : Int32) (v3 : Int32) (v5 : Int32) (s0 : Int32) : sm_M Unit := k8 v0 v2 v3 s0 (v5 + (1 : Int32))
set_option maxHeartbeats 4000000 in
set_option maxRecDepth 100000 in
theorem slX2_push_J129 {κ : sm_X} (C : sm_C κ RX2 cX2_push 7 2) {k8 : Nat → Int32 → Int32 → Int32 → Int32 → sm_M Unit} (K8 : ∀ (v0 : Nat) (v2 : Int32) (v3 : Int32) (v4 : Int32) (v5 : Int32) (hv0 : kd v0 = 2), sm_S κ (fun _ : Unit => .inr none) (.inl (8, [some (xad κ v0), none, some (.int v2), some (.int v3), some (.int v4), some (.int v5), none], [])) (k8 v0 v2 v3 v4 v5)) (v0 : Nat) (v2 : Int32) (v3 : Int32) (v5 : Int32) (s0 : Int32) (hv0 : kd v0 = 2) : sm_S κ (fun _ : Unit => .inr none) (.inl (129, [some (xad κ v0), none, some (.int v2), some (.int v3), none, some (.int v5), none], [.int s0])) (fnX2_push_J129 k8 v0 v2 v3 v5 s0) := by
  unfold fnX2_push_J129
  refine sr_istore (i := 4) (L' := [some (xad κ v0), none, some (.int v2), some (.int v3), some (.int s0), some (.int v5), none]) (q := 131) C (show decode cX2_push 129 = .ok (.istore 4, 2) from by decide +kernel) (by decide) rfl rfl ?_
  refine sr_iinc (v := v5 + (1 : Int32)) (L' := [some (xad κ v0), none, some (.int v2), some (.int v3), some (.int s0), some (.int (v5 + (1 : Int32))), none]) (q := 134) C (show decode cX2_push 131 = .ok (.iinc 5 1, 3) from by decide +kernel) rfl rfl (by decide) rfl rfl ?_
  refine sr_goto (q := 8) C (show decode cX2_push 134 = .ok (.goto (-126), 3) from by decide +kernel) (by decide) ?_
  exact K8 v0 v2 v3 s0 (v5 + (1 : Int32)) hv0
def fnX2_push_J119 (k8 : Nat → Int32 → Int32 → Int32 → Int32 → sm_M Unit) (v0 : Nat) (v2 : Int32) (v3 : Int32) (v4 : Int32) (v5 : Int32) : sm_M Unit := m_br (v4 = 0)
    (fnX2_push_J129 k8 v0 v2 v3 v5 (1 : Int32))
    (fnX2_push_J129 k8 v0 v2 v3 v5 (0 : Int32))
set_option maxHeartbeats 4000000 in
set_option maxRecDepth 100000 in
theorem slX2_push_J119 {κ : sm_X} (C : sm_C κ RX2 cX2_push 7 2) {k8 : Nat → Int32 → Int32 → Int32 → Int32 → sm_M Unit} (K8 : ∀ (v0 : Nat) (v2 : Int32) (v3 : Int32) (v4 : Int32) (v5 : Int32) (hv0 : kd v0 = 2), sm_S κ (fun _ : Unit => .inr none) (.inl (8, [some (xad κ v0), none, some (.int v2), some (.int v3), some (.int v4), some (.int v5), none], [])) (k8 v0 v2 v3 v4 v5)) (v0 : Nat) (v2 : Int32) (v3 : Int32) (v4 : Int32) (v5 : Int32) (hv0 : kd v0 = 2) : sm_S κ (fun _ : Unit => .inr none) (.inl (119, [some (xad κ v0), none, some (.int v2), some (.int v3), some (.int v4), some (.int v5), none], [])) (fnX2_push_J119 k8 v0 v2 v3 v4 v5) := by
  unfold fnX2_push_J119
  refine sr_iload (i := 4) (q := 121) C (show decode cX2_push 119 = .ok (.iload 4, 2) from by decide +kernel) rfl rfl ?_
  refine sr_if_ne (q := 124) C 128 (show decode cX2_push 121 = .ok (.ifCond .ne 7, 3) from by decide +kernel) (by decide) rfl ?_ ?_
  · refine sr_iconst (v := (0 : Int32)) (q := 129) C (show decode cX2_push 128 = .ok (.iconst 0, 1) from by decide +kernel) (by decide) rfl ?_
    refine sr_weak (L' := [some (xad κ v0), none, some (.int v2), some (.int v3), none, some (.int v5), none]) ⟨rfl, rfl, rfl, rfl, trivial⟩ ?_
    exact slX2_push_J129 C K8 v0 v2 v3 v5 (0 : Int32) hv0
  · refine sr_iconst (v := (1 : Int32)) (q := 125) C (show decode cX2_push 124 = .ok (.iconst 1, 1) from by decide +kernel) (by decide) rfl ?_
    refine sr_goto (q := 129) C (show decode cX2_push 125 = .ok (.goto 4, 3) from by decide +kernel) (by decide) ?_
    refine sr_weak (L' := [some (xad κ v0), none, some (.int v2), some (.int v3), none, some (.int v5), none]) ⟨rfl, rfl, rfl, rfl, trivial⟩ ?_
    exact slX2_push_J129 C K8 v0 v2 v3 v5 (1 : Int32) hv0
def fnX2_push_J116 (k8 : Nat → Int32 → Int32 → Int32 → Int32 → sm_M Unit) (v0 : Nat) (v2 : Int32) (v4 : Int32) (v5 : Int32) (v6 : Int32) : sm_M Unit := fnX2_push_J119 k8 v0 v2 v6 v4 v5
set_option maxHeartbeats 4000000 in
set_option maxRecDepth 100000 in
theorem slX2_push_J116 {κ : sm_X} (C : sm_C κ RX2 cX2_push 7 2) {k8 : Nat → Int32 → Int32 → Int32 → Int32 → sm_M Unit} (K8 : ∀ (v0 : Nat) (v2 : Int32) (v3 : Int32) (v4 : Int32) (v5 : Int32) (hv0 : kd v0 = 2), sm_S κ (fun _ : Unit => .inr none) (.inl (8, [some (xad κ v0), none, some (.int v2), some (.int v3), some (.int v4), some (.int v5), none], [])) (k8 v0 v2 v3 v4 v5)) (v0 : Nat) (v2 : Int32) (v4 : Int32) (v5 : Int32) (v6 : Int32) (hv0 : kd v0 = 2) : sm_S κ (fun _ : Unit => .inr none) (.inl (116, [some (xad κ v0), none, some (.int v2), none, some (.int v4), some (.int v5), some (.int v6)], [])) (fnX2_push_J116 k8 v0 v2 v4 v5 v6) := by
  unfold fnX2_push_J116
  refine sr_iload (i := 6) (q := 118) C (show decode cX2_push 116 = .ok (.iload 6, 2) from by decide +kernel) rfl rfl ?_
  refine sr_istore_n (i := 3) (L' := [some (xad κ v0), none, some (.int v2), some (.int v6), some (.int v4), some (.int v5), some (.int v6)]) (q := 119) C (show decode cX2_push 118 = .ok (.istore_n 3, 1) from by decide +kernel) rfl (by decide) rfl rfl ?_
  refine sr_weak (L' := [some (xad κ v0), none, some (.int v2), some (.int v6), some (.int v4), some (.int v5), none]) ⟨rfl, rfl, rfl, rfl, rfl, trivial⟩ ?_
  exact slX2_push_J119 C K8 v0 v2 v6 v4 v5 hv0
def fnX2_push_J80 (k8 : Nat → Int32 → Int32 → Int32 → Int32 → sm_M Unit) (v0 : Nat) (v2 : Int32) (v3 : Int32) (v4 : Int32) (v5 : Int32) (s0 : Int32) (s1 : Int32) (s2 : Int32) (s3 : Nat) : sm_M Unit := m_sai s3 s2 (s1 + s0) <| fnX2_push_J119 k8 v0 v2 v3 v4 v5
set_option maxHeartbeats 4000000 in
set_option maxRecDepth 100000 in
theorem slX2_push_J80 {κ : sm_X} (C : sm_C κ RX2 cX2_push 7 2) {k8 : Nat → Int32 → Int32 → Int32 → Int32 → sm_M Unit} (K8 : ∀ (v0 : Nat) (v2 : Int32) (v3 : Int32) (v4 : Int32) (v5 : Int32) (hv0 : kd v0 = 2), sm_S κ (fun _ : Unit => .inr none) (.inl (8, [some (xad κ v0), none, some (.int v2), some (.int v3), some (.int v4), some (.int v5), none], [])) (k8 v0 v2 v3 v4 v5)) (v0 : Nat) (v2 : Int32) (v3 : Int32) (v4 : Int32) (v5 : Int32) (s0 : Int32) (s1 : Int32) (s2 : Int32) (s3 : Nat) (hv0 : kd v0 = 2) (hs3 : kd s3 = 20) : sm_S κ (fun _ : Unit => .inr none) (.inl (80, [some (xad κ v0), none, some (.int v2), some (.int v3), some (.int v4), some (.int v5), none], [.int s0, .int s1, .int s2, xad κ s3])) (fnX2_push_J80 k8 v0 v2 v3 v4 v5 s0 s1 s2 s3) := by
  unfold fnX2_push_J80
  refine sr_iadd (q := 81) C (show decode cX2_push 80 = .ok (.iadd, 1) from by decide +kernel) rfl ?_
  refine sr_iastore (q := 82) C hs3 (show decode cX2_push 81 = .ok (.iastore, 1) from by decide +kernel) rfl ?_
  refine sr_goto (q := 119) C (show decode cX2_push 82 = .ok (.goto 37, 3) from by decide +kernel) (by decide) ?_
  exact slX2_push_J119 C K8 v0 v2 v3 v4 v5 hv0
def fnX2_push_J50 (k8 : Nat → Int32 → Int32 → Int32 → Int32 → sm_M Unit) (v0 : Nat) (v2 : Int32) (v3 : Int32) (v4 : Int32) (v5 : Int32) (s0 : Int32) : sm_M Unit := m_br (s0 = (-2 : Int32))
    (m_ai (lk (lk v0 1) 7) v3 fun x68 => m_br (v4 = 0)
    (fnX2_push_J80 k8 v0 v2 v3 v4 v5 (-v2) x68 v3 (lk (lk v0 1) 7))
    (fnX2_push_J80 k8 v0 v2 v3 v4 v5 v2 x68 v3 (lk (lk v0 1) 7)))
    (m_br (v4 = 0)
    (m_bnd (fnX4_pass (lk v0 1) s0 v3 v2) fun _ => fnX2_push_J116 k8 v0 v2 v4 v5 s0)
    (m_bnd (fnX4_pass (lk v0 1) v3 s0 (-v2)) fun _ => fnX2_push_J116 k8 v0 v2 v4 v5 s0))
set_option maxHeartbeats 4000000 in
set_option maxRecDepth 100000 in
theorem slX2_push_J50 {κ : sm_X} (C : sm_C κ RX2 cX2_push 7 2) {k8 : Nat → Int32 → Int32 → Int32 → Int32 → sm_M Unit} (K8 : ∀ (v0 : Nat) (v2 : Int32) (v3 : Int32) (v4 : Int32) (v5 : Int32) (hv0 : kd v0 = 2), sm_S κ (fun _ : Unit => .inr none) (.inl (8, [some (xad κ v0), none, some (.int v2), some (.int v3), some (.int v4), some (.int v5), none], [])) (k8 v0 v2 v3 v4 v5)) (v0 : Nat) (v2 : Int32) (v3 : Int32) (v4 : Int32) (v5 : Int32) (s0 : Int32) (hv0 : kd v0 = 2) : sm_S κ (fun _ : Unit => .inr none) (.inl (50, [some (xad κ v0), none, some (.int v2), some (.int v3), some (.int v4), some (.int v5), none], [.int s0])) (fnX2_push_J50 k8 v0 v2 v3 v4 v5 s0) := by
  unfold fnX2_push_J50
  refine sr_istore (i := 6) (L' := [some (xad κ v0), none, some (.int v2), some (.int v3), some (.int v4), some (.int v5), some (.int s0)]) (q := 52) C (show decode cX2_push 50 = .ok (.istore 6, 2) from by decide +kernel) (by decide) rfl rfl ?_
  refine sr_iload (i := 6) (q := 54) C (show decode cX2_push 52 = .ok (.iload 6, 2) from by decide +kernel) rfl rfl ?_
  refine sr_bipush (v := (-2 : Int32)) (q := 56) C (show decode cX2_push 54 = .ok (.bipush (-2), 2) from by decide +kernel) (by decide) rfl ?_
  refine sr_icmp_ne (q := 59) C 85 (show decode cX2_push 56 = .ok (.if_icmp .ne 29, 3) from by decide +kernel) (by decide) rfl ?_ ?_
  · refine sr_iload (i := 4) (q := 87) C (show decode cX2_push 85 = .ok (.iload 4, 2) from by decide +kernel) rfl rfl ?_
    refine sr_if_eq (q := 90) C 105 (show decode cX2_push 87 = .ok (.ifCond .eq 18, 3) from by decide +kernel) (by decide) rfl ?_ ?_
    · refine sr_aload_n (i := 0) (q := 106) C (show decode cX2_push 105 = .ok (.aload_n 0, 1) from by decide +kernel) rfl rfl rfl ?_
      refine sr_getr (q := 109) C fl_X2_14 hv0 (show decode cX2_push 106 = .ok (.getfield 14, 3) from by decide +kernel) rfl ?_
      refine sr_iload (i := 6) (q := 111) C (show decode cX2_push 109 = .ok (.iload 6, 2) from by decide +kernel) rfl rfl ?_
      refine sr_iload_n (i := 3) (q := 112) C (show decode cX2_push 111 = .ok (.iload_n 3, 1) from by decide +kernel) rfl rfl rfl ?_
      refine sr_iload_n (i := 2) (q := 113) C (show decode cX2_push 112 = .ok (.iload_n 2, 1) from by decide +kernel) rfl rfl rfl ?_
      refine sr_cVv (As := [.int s0, .int v3, .int v2]) (st := []) (b := lk v0 1) (q := 116) C yvX4_pass ml_X2_158 (cnX4_pass (xo κ) (lk v0 1) s0 v3 v2 (kt hv0 kp_2_1)) (kt hv0 kp_2_1) (by decide) rfl rfl rfl (by decide) (by decide) (Nat.le_of_ble_eq_true rfl) rfl (show decode cX2_push 113 = .ok (.invokevirtual 158, 3) from by decide +kernel) rfl (fun _ => ?_)
      refine sr_weak (L' := [some (xad κ v0), none, some (.int v2), none, some (.int v4), some (.int v5), some (.int s0)]) ⟨rfl, rfl, rfl, rfl, rfl, trivial⟩ ?_
      exact slX2_push_J116 C K8 v0 v2 v4 v5 s0 hv0
    · refine sr_aload_n (i := 0) (q := 91) C (show decode cX2_push 90 = .ok (.aload_n 0, 1) from by decide +kernel) rfl rfl rfl ?_
      refine sr_getr (q := 94) C fl_X2_14 hv0 (show decode cX2_push 91 = .ok (.getfield 14, 3) from by decide +kernel) rfl ?_
      refine sr_iload_n (i := 3) (q := 95) C (show decode cX2_push 94 = .ok (.iload_n 3, 1) from by decide +kernel) rfl rfl rfl ?_
      refine sr_iload (i := 6) (q := 97) C (show decode cX2_push 95 = .ok (.iload 6, 2) from by decide +kernel) rfl rfl ?_
      refine sr_iload_n (i := 2) (q := 98) C (show decode cX2_push 97 = .ok (.iload_n 2, 1) from by decide +kernel) rfl rfl rfl ?_
      refine sr_ineg (q := 99) C (show decode cX2_push 98 = .ok (.ineg, 1) from by decide +kernel) rfl ?_
      refine sr_cVv (As := [.int v3, .int s0, .int (-v2)]) (st := []) (b := lk v0 1) (q := 102) C yvX4_pass ml_X2_158 (cnX4_pass (xo κ) (lk v0 1) v3 s0 (-v2) (kt hv0 kp_2_1)) (kt hv0 kp_2_1) (by decide) rfl rfl rfl (by decide) (by decide) (Nat.le_of_ble_eq_true rfl) rfl (show decode cX2_push 99 = .ok (.invokevirtual 158, 3) from by decide +kernel) rfl (fun _ => ?_)
      refine sr_goto (q := 116) C (show decode cX2_push 102 = .ok (.goto 14, 3) from by decide +kernel) (by decide) ?_
      refine sr_weak (L' := [some (xad κ v0), none, some (.int v2), none, some (.int v4), some (.int v5), some (.int s0)]) ⟨rfl, rfl, rfl, rfl, rfl, trivial⟩ ?_
      exact slX2_push_J116 C K8 v0 v2 v4 v5 s0 hv0
  · refine sr_aload_n (i := 0) (q := 60) C (show decode cX2_push 59 = .ok (.aload_n 0, 1) from by decide +kernel) rfl rfl rfl ?_
    refine sr_getr (q := 63) C fl_X2_14 hv0 (show decode cX2_push 60 = .ok (.getfield 14, 3) from by decide +kernel) rfl ?_
    refine sr_getr (q := 66) C fl_X2_146 (kt hv0 kp_2_1) (show decode cX2_push 63 = .ok (.getfield 146, 3) from by decide +kernel) rfl ?_
    refine sr_iload_n (i := 3) (q := 67) C (show decode cX2_push 66 = .ok (.iload_n 3, 1) from by decide +kernel) rfl rfl rfl ?_
    refine sr_dup2 (q := 68) C (show decode cX2_push 67 = .ok (.dup2, 1) from by decide +kernel) rfl rfl rfl ?_
    refine sr_iaload (q := 69) C (kt (kt hv0 kp_2_1) kp_4_7) (show decode cX2_push 68 = .ok (.iaload, 1) from by decide +kernel) rfl (fun x68 => ?_)
    refine sr_iload (i := 4) (q := 71) C (show decode cX2_push 69 = .ok (.iload 4, 2) from by decide +kernel) rfl rfl ?_
    refine sr_if_eq (q := 74) C 78 (show decode cX2_push 71 = .ok (.ifCond .eq 7, 3) from by decide +kernel) (by decide) rfl ?_ ?_
    · refine sr_iload_n (i := 2) (q := 79) C (show decode cX2_push 78 = .ok (.iload_n 2, 1) from by decide +kernel) rfl rfl rfl ?_
      refine sr_ineg (q := 80) C (show decode cX2_push 79 = .ok (.ineg, 1) from by decide +kernel) rfl ?_
      refine sr_weak (L' := [some (xad κ v0), none, some (.int v2), some (.int v3), some (.int v4), some (.int v5), none]) ⟨rfl, rfl, rfl, rfl, rfl, trivial⟩ ?_
      exact slX2_push_J80 C K8 v0 v2 v3 v4 v5 (-v2) x68 v3 (lk (lk v0 1) 7) hv0 (kt (kt hv0 kp_2_1) kp_4_7)
    · refine sr_iload_n (i := 2) (q := 75) C (show decode cX2_push 74 = .ok (.iload_n 2, 1) from by decide +kernel) rfl rfl rfl ?_
      refine sr_goto (q := 80) C (show decode cX2_push 75 = .ok (.goto 5, 3) from by decide +kernel) (by decide) ?_
      refine sr_weak (L' := [some (xad κ v0), none, some (.int v2), some (.int v3), some (.int v4), some (.int v5), none]) ⟨rfl, rfl, rfl, rfl, rfl, trivial⟩ ?_
      exact slX2_push_J80 C K8 v0 v2 v3 v4 v5 v2 x68 v3 (lk (lk v0 1) 7) hv0 (kt (kt hv0 kp_2_1) kp_4_7)
def fnX2_push_J30 (k8 : Nat → Int32 → Int32 → Int32 → Int32 → sm_M Unit) (v0 : Nat) (v2 : Int32) (v3 : Int32) (v4 : Int32) (v5 : Int32) : sm_M Unit := m_br (v4 = 0)
    (m_ai (lk v0 3) v3 fun x49 => fnX2_push_J50 k8 v0 v2 v3 v4 v5 x49)
    (m_ai (lk v0 4) v3 fun x40 => fnX2_push_J50 k8 v0 v2 v3 v4 v5 x40)
set_option maxHeartbeats 4000000 in
set_option maxRecDepth 100000 in
theorem slX2_push_J30 {κ : sm_X} (C : sm_C κ RX2 cX2_push 7 2) {k8 : Nat → Int32 → Int32 → Int32 → Int32 → sm_M Unit} (K8 : ∀ (v0 : Nat) (v2 : Int32) (v3 : Int32) (v4 : Int32) (v5 : Int32) (hv0 : kd v0 = 2), sm_S κ (fun _ : Unit => .inr none) (.inl (8, [some (xad κ v0), none, some (.int v2), some (.int v3), some (.int v4), some (.int v5), none], [])) (k8 v0 v2 v3 v4 v5)) (v0 : Nat) (v2 : Int32) (v3 : Int32) (v4 : Int32) (v5 : Int32) (hv0 : kd v0 = 2) : sm_S κ (fun _ : Unit => .inr none) (.inl (30, [some (xad κ v0), none, some (.int v2), some (.int v3), some (.int v4), some (.int v5), none], [])) (fnX2_push_J30 k8 v0 v2 v3 v4 v5) := by
  unfold fnX2_push_J30
  refine sr_iload (i := 4) (q := 32) C (show decode cX2_push 30 = .ok (.iload 4, 2) from by decide +kernel) rfl rfl ?_
  refine sr_if_eq (q := 35) C 44 (show decode cX2_push 32 = .ok (.ifCond .eq 12, 3) from by decide +kernel) (by decide) rfl ?_ ?_
  · refine sr_aload_n (i := 0) (q := 45) C (show decode cX2_push 44 = .ok (.aload_n 0, 1) from by decide +kernel) rfl rfl rfl ?_
    refine sr_getr (q := 48) C fl_X2_21 hv0 (show decode cX2_push 45 = .ok (.getfield 21, 3) from by decide +kernel) rfl ?_
    refine sr_iload_n (i := 3) (q := 49) C (show decode cX2_push 48 = .ok (.iload_n 3, 1) from by decide +kernel) rfl rfl rfl ?_
    refine sr_iaload (q := 50) C (kt hv0 kp_2_3) (show decode cX2_push 49 = .ok (.iaload, 1) from by decide +kernel) rfl (fun x49 => ?_)
    exact slX2_push_J50 C K8 v0 v2 v3 v4 v5 x49 hv0
  · refine sr_aload_n (i := 0) (q := 36) C (show decode cX2_push 35 = .ok (.aload_n 0, 1) from by decide +kernel) rfl rfl rfl ?_
    refine sr_getr (q := 39) C fl_X2_25 hv0 (show decode cX2_push 36 = .ok (.getfield 25, 3) from by decide +kernel) rfl ?_
    refine sr_iload_n (i := 3) (q := 40) C (show decode cX2_push 39 = .ok (.iload_n 3, 1) from by decide +kernel) rfl rfl rfl ?_
    refine sr_iaload (q := 41) C (kt hv0 kp_2_4) (show decode cX2_push 40 = .ok (.iaload, 1) from by decide +kernel) rfl (fun x40 => ?_)
    refine sr_goto (q := 50) C (show decode cX2_push 41 = .ok (.goto 9, 3) from by decide +kernel) (by decide) ?_
    exact slX2_push_J50 C K8 v0 v2 v3 v4 v5 x40 hv0
def fnX2_push_L8 : Nat → Nat → Int32 → Int32 → Int32 → Int32 → sm_M Unit
  | 0, _, _, _, _, _ => m_fail
  | n + 1, v0, v2, v3, v4, v5 => m_br ((52 : Int32) ≤ v5)
    (m_ret ())
    (m_br (v4 = 0)
    (m_ai (lk v0 3) v3 fun x25 => m_br (x25 = (-1 : Int32))
    (m_ret ())
    (fnX2_push_J30 (fnX2_push_L8 n) v0 v2 v3 v4 v5))
    (fnX2_push_J30 (fnX2_push_L8 n) v0 v2 v3 v4 v5))
set_option maxHeartbeats 4000000 in
set_option maxRecDepth 100000 in
theorem slX2_push_L8 {κ : sm_X} (C : sm_C κ RX2 cX2_push 7 2) : ∀ (n : Nat) (v0 : Nat) (v2 : Int32) (v3 : Int32) (v4 : Int32) (v5 : Int32) (hv0 : kd v0 = 2), sm_S κ (fun _ : Unit => .inr none) (.inl (8, [some (xad κ v0), none, some (.int v2), some (.int v3), some (.int v4), some (.int v5), none], [])) (fnX2_push_L8 n v0 v2 v3 v4 v5) := by
  intro n
  induction n with
  | zero =>
    intros
    exact sr_fail
  | succ n K8 =>
    intro v0 v2 v3 v4 v5 hv0
    unfold fnX2_push_L8
    refine sr_iload (i := 5) (q := 10) C (show decode cX2_push 8 = .ok (.iload 5, 2) from by decide +kernel) rfl rfl ?_
    refine sr_bipush (v := (52 : Int32)) (q := 12) C (show decode cX2_push 10 = .ok (.bipush 52, 2) from by decide +kernel) (by decide) rfl ?_
    refine sr_icmp_ge (q := 15) C 137 (show decode cX2_push 12 = .ok (.if_icmp .ge 125, 3) from by decide +kernel) (by decide) rfl ?_ ?_
    · exact sr_vreturn C _ rfl (show decode cX2_push 137 = .ok (.return_, 1) from by decide +kernel)
    · refine sr_iload (i := 4) (q := 17) C (show decode cX2_push 15 = .ok (.iload 4, 2) from by decide +kernel) rfl rfl ?_
      refine sr_if_ne (q := 20) C 30 (show decode cX2_push 17 = .ok (.ifCond .ne 13, 3) from by decide +kernel) (by decide) rfl ?_ ?_
      · exact slX2_push_J30 C K8 v0 v2 v3 v4 v5 hv0
      · refine sr_aload_n (i := 0) (q := 21) C (show decode cX2_push 20 = .ok (.aload_n 0, 1) from by decide +kernel) rfl rfl rfl ?_
        refine sr_getr (q := 24) C fl_X2_21 hv0 (show decode cX2_push 21 = .ok (.getfield 21, 3) from by decide +kernel) rfl ?_
        refine sr_iload_n (i := 3) (q := 25) C (show decode cX2_push 24 = .ok (.iload_n 3, 1) from by decide +kernel) rfl rfl rfl ?_
        refine sr_iaload (q := 26) C (kt hv0 kp_2_3) (show decode cX2_push 25 = .ok (.iaload, 1) from by decide +kernel) rfl (fun x25 => ?_)
        refine sr_iconst (v := (-1 : Int32)) (q := 27) C (show decode cX2_push 26 = .ok (.iconst (-1), 1) from by decide +kernel) (by decide) rfl ?_
        refine sr_icmp_eq (q := 30) C 137 (show decode cX2_push 27 = .ok (.if_icmp .eq 110, 3) from by decide +kernel) (by decide) rfl ?_ ?_
        · exact sr_vreturn C _ rfl (show decode cX2_push 137 = .ok (.return_, 1) from by decide +kernel)
        · exact slX2_push_J30 C K8 v0 v2 v3 v4 v5 hv0
def fnX2_push (v0 : Nat) (v1 : Int32) (v2 : Int32) : sm_M Unit := fnX2_push_L8 4096 v0 v2 v1 (1 : Int32) (0 : Int32)
set_option maxHeartbeats 4000000 in
set_option maxRecDepth 100000 in
theorem slX2_push {κ : sm_X} (C : sm_C κ RX2 cX2_push 7 2) (v0 : Nat) (v1 : Int32) (v2 : Int32) (hv0 : kd v0 = 2) : sm_S κ (fun _ : Unit => .inr none) (.inl (0, [some (xad κ v0), some (.int v1), some (.int v2), none, none, none, none], [])) (fnX2_push v0 v1 v2) := by
  unfold fnX2_push
  refine sr_iload_n (i := 1) (q := 1) C (show decode cX2_push 0 = .ok (.iload_n 1, 1) from by decide +kernel) rfl rfl rfl ?_
  refine sr_istore_n (i := 3) (L' := [some (xad κ v0), some (.int v1), some (.int v2), some (.int v1), none, none, none]) (q := 2) C (show decode cX2_push 1 = .ok (.istore_n 3, 1) from by decide +kernel) rfl (by decide) rfl rfl ?_
  refine sr_iconst (v := (1 : Int32)) (q := 3) C (show decode cX2_push 2 = .ok (.iconst 1, 1) from by decide +kernel) (by decide) rfl ?_
  refine sr_istore (i := 4) (L' := [some (xad κ v0), some (.int v1), some (.int v2), some (.int v1), some (.int (1 : Int32)), none, none]) (q := 5) C (show decode cX2_push 3 = .ok (.istore 4, 2) from by decide +kernel) (by decide) rfl rfl ?_
  refine sr_iconst (v := (0 : Int32)) (q := 6) C (show decode cX2_push 5 = .ok (.iconst 0, 1) from by decide +kernel) (by decide) rfl ?_
  refine sr_istore (i := 5) (L' := [some (xad κ v0), some (.int v1), some (.int v2), some (.int v1), some (.int (1 : Int32)), some (.int (0 : Int32)), none]) (q := 8) C (show decode cX2_push 6 = .ok (.istore 5, 2) from by decide +kernel) (by decide) rfl rfl ?_
  refine sr_weak (L' := [some (xad κ v0), none, some (.int v2), some (.int v1), some (.int (1 : Int32)), some (.int (0 : Int32)), none]) ⟨rfl, rfl, rfl, rfl, rfl, trivial⟩ ?_
  exact slX2_push_L8 C 4096 v0 v2 v1 (1 : Int32) (0 : Int32) hv0
theorem cnX2_push (ω : sm_O) (v0 : Nat) (v1 : Int32) (v2 : Int32) (hv0 : kd v0 = 2) : sm_Mt 2 yX2_push cX2_push 7 none ω [.ref (ω.1 + v0), .int v1, .int v2] (fun _ => none) (fnX2_push v0 v1 v2) := by
  refine sm_conV (by decide) (Nat.le_of_ble_eq_true rfl) ?_
  intro κ hκ C
  subst hκ
  exact slX2_push C v0 v1 v2 hv0
def fnX2_enter_L28 : Nat → Nat → Int32 → Int32 → sm_M Unit
  | 0, _, _, _ => m_fail
  | n + 1, v0, v2, v4 => m_br (v4 = 0)
    (m_ret ())
    (m_bnd (fnJ6_numberOfTrailingZeros_0f7a4 v4) fun x35 => m_sai (lk v0 3) x35 v2 <| m_gi v0 6 fun x53 => m_sai (lk v0 5) x53 x35 <| m_gi v0 6 fun x61 => m_si v0 6 (x61 + (1 : Int32)) <| m_nm (v4 &&& (v4 - (1 : Int32))) fun y76 => (fnX2_enter_L28 n) v0 v2 y76)
set_option maxHeartbeats 4000000 in
set_option maxRecDepth 100000 in
theorem slX2_enter_L28 {κ : sm_X} (C : sm_C κ RX2 cX2_enter 6 2) : ∀ (n : Nat) (v0 : Nat) (v2 : Int32) (v4 : Int32) (hv0 : kd v0 = 2), sm_S κ (fun _ : Unit => .inr none) (.inl (28, [some (xad κ v0), none, some (.int v2), none, some (.int v4), none], [])) (fnX2_enter_L28 n v0 v2 v4) := by
  intro n
  induction n with
  | zero =>
    intros
    exact sr_fail
  | succ n K28 =>
    intro v0 v2 v4 hv0
    unfold fnX2_enter_L28
    refine sr_iload (i := 4) (q := 30) C (show decode cX2_enter 28 = .ok (.iload 4, 2) from by decide +kernel) rfl rfl ?_
    refine sr_if_eq (q := 33) C 81 (show decode cX2_enter 30 = .ok (.ifCond .eq 51, 3) from by decide +kernel) (by decide) rfl ?_ ?_
    · exact sr_vreturn C _ rfl (show decode cX2_enter 81 = .ok (.return_, 1) from by decide +kernel)
    · refine sr_iload (i := 4) (q := 35) C (show decode cX2_enter 33 = .ok (.iload 4, 2) from by decide +kernel) rfl rfl ?_
      refine sr_cSi (As := [.int v4]) (st := []) (q := 38) C ysJ6_numberOfTrailingZeros_0f7a4 ml_X2_90 (cnJ6_numberOfTrailingZeros_0f7a4 (xo κ) v4) rfl (by decide) (by decide) (Nat.le_of_ble_eq_true rfl) rfl (show decode cX2_enter 35 = .ok (.invokestatic 90, 3) from by decide +kernel) rfl (fun x35 => ?_)
      refine sr_istore (i := 5) (L' := [some (xad κ v0), none, some (.int v2), none, some (.int v4), some (.int x35)]) (q := 40) C (show decode cX2_enter 38 = .ok (.istore 5, 2) from by decide +kernel) (by decide) rfl rfl ?_
      refine sr_aload_n (i := 0) (q := 41) C (show decode cX2_enter 40 = .ok (.aload_n 0, 1) from by decide +kernel) rfl rfl rfl ?_
      refine sr_getr (q := 44) C fl_X2_21 hv0 (show decode cX2_enter 41 = .ok (.getfield 21, 3) from by decide +kernel) rfl ?_
      refine sr_iload (i := 5) (q := 46) C (show decode cX2_enter 44 = .ok (.iload 5, 2) from by decide +kernel) rfl rfl ?_
      refine sr_iload_n (i := 2) (q := 47) C (show decode cX2_enter 46 = .ok (.iload_n 2, 1) from by decide +kernel) rfl rfl rfl ?_
      refine sr_iastore (q := 48) C (kt hv0 kp_2_3) (show decode cX2_enter 47 = .ok (.iastore, 1) from by decide +kernel) rfl ?_
      refine sr_aload_n (i := 0) (q := 49) C (show decode cX2_enter 48 = .ok (.aload_n 0, 1) from by decide +kernel) rfl rfl rfl ?_
      refine sr_getr (q := 52) C fl_X2_28 hv0 (show decode cX2_enter 49 = .ok (.getfield 28, 3) from by decide +kernel) rfl ?_
      refine sr_aload_n (i := 0) (q := 53) C (show decode cX2_enter 52 = .ok (.aload_n 0, 1) from by decide +kernel) rfl rfl rfl ?_
      refine sr_geti (q := 56) C fl_X2_140 (Or.inl rfl) hv0 (show decode cX2_enter 53 = .ok (.getfield 140, 3) from by decide +kernel) rfl (fun x53 => ?_)
      refine sr_iload (i := 5) (q := 58) C (show decode cX2_enter 56 = .ok (.iload 5, 2) from by decide +kernel) rfl rfl ?_
      refine sr_iastore (q := 59) C (kt hv0 kp_2_5) (show decode cX2_enter 58 = .ok (.iastore, 1) from by decide +kernel) rfl ?_
      refine sr_aload_n (i := 0) (q := 60) C (show decode cX2_enter 59 = .ok (.aload_n 0, 1) from by decide +kernel) rfl rfl rfl ?_
      refine sr_dup (q := 61) C (show decode cX2_enter 60 = .ok (.dup, 1) from by decide +kernel) rfl rfl ?_
      refine sr_geti (q := 64) C fl_X2_140 (Or.inl rfl) hv0 (show decode cX2_enter 61 = .ok (.getfield 140, 3) from by decide +kernel) rfl (fun x61 => ?_)
      refine sr_iconst (v := (1 : Int32)) (q := 65) C (show decode cX2_enter 64 = .ok (.iconst 1, 1) from by decide +kernel) (by decide) rfl ?_
      refine sr_iadd (q := 66) C (show decode cX2_enter 65 = .ok (.iadd, 1) from by decide +kernel) rfl ?_
      refine sr_puti (q := 69) C fp_X2_140 hv0 (show decode cX2_enter 66 = .ok (.putfield 140, 3) from by decide +kernel) rfl ?_
      refine sr_iload (i := 4) (q := 71) C (show decode cX2_enter 69 = .ok (.iload 4, 2) from by decide +kernel) rfl rfl ?_
      refine sr_iload (i := 4) (q := 73) C (show decode cX2_enter 71 = .ok (.iload 4, 2) from by decide +kernel) rfl rfl ?_
      refine sr_iconst (v := (1 : Int32)) (q := 74) C (show decode cX2_enter 73 = .ok (.iconst 1, 1) from by decide +kernel) (by decide) rfl ?_
      refine sr_isub (q := 75) C (show decode cX2_enter 74 = .ok (.isub, 1) from by decide +kernel) rfl ?_
      refine sr_iand (q := 76) C (show decode cX2_enter 75 = .ok (.iand, 1) from by decide +kernel) rfl ?_
      refine sr_nmi (fun y76 => ?_)
      refine sr_istore (i := 4) (L' := [some (xad κ v0), none, some (.int v2), none, some (.int y76), some (.int x35)]) (q := 78) C (show decode cX2_enter 76 = .ok (.istore 4, 2) from by decide +kernel) (by decide) rfl rfl ?_
      refine sr_goto (q := 28) C (show decode cX2_enter 78 = .ok (.goto (-50), 3) from by decide +kernel) (by decide) ?_
      refine sr_weak (L' := [some (xad κ v0), none, some (.int v2), none, some (.int y76), none]) ⟨rfl, rfl, rfl, trivial⟩ ?_
      exact K28 v0 v2 y76 hv0
def fnX2_enter (v0 : Nat) (v1 : Int32) (v2 : Int32) : sm_M Unit := m_gi (lk v0 1) 3 fun x5 => m_nm (v1 &&& (x5 ^^^ (-1 : Int32))) fun y11 => m_gi (lk v0 1) 3 fun x17 => m_si (lk v0 1) 3 (x17 ||| y11) <| fnX2_enter_L28 4096 v0 v2 y11
set_option maxHeartbeats 4000000 in
set_option maxRecDepth 100000 in
theorem slX2_enter {κ : sm_X} (C : sm_C κ RX2 cX2_enter 6 2) (v0 : Nat) (v1 : Int32) (v2 : Int32) (hv0 : kd v0 = 2) : sm_S κ (fun _ : Unit => .inr none) (.inl (0, [some (xad κ v0), some (.int v1), some (.int v2), none, none, none], [])) (fnX2_enter v0 v1 v2) := by
  unfold fnX2_enter
  refine sr_iload_n (i := 1) (q := 1) C (show decode cX2_enter 0 = .ok (.iload_n 1, 1) from by decide +kernel) rfl rfl rfl ?_
  refine sr_aload_n (i := 0) (q := 2) C (show decode cX2_enter 1 = .ok (.aload_n 0, 1) from by decide +kernel) rfl rfl rfl ?_
  refine sr_getr (q := 5) C fl_X2_14 hv0 (show decode cX2_enter 2 = .ok (.getfield 14, 3) from by decide +kernel) rfl ?_
  refine sr_geti (q := 8) C fl_X2_123 (Or.inl rfl) (kt hv0 kp_2_1) (show decode cX2_enter 5 = .ok (.getfield 123, 3) from by decide +kernel) rfl (fun x5 => ?_)
  refine sr_iconst (v := (-1 : Int32)) (q := 9) C (show decode cX2_enter 8 = .ok (.iconst (-1), 1) from by decide +kernel) (by decide) rfl ?_
  refine sr_ixor (q := 10) C (show decode cX2_enter 9 = .ok (.ixor, 1) from by decide +kernel) rfl ?_
  refine sr_iand (q := 11) C (show decode cX2_enter 10 = .ok (.iand, 1) from by decide +kernel) rfl ?_
  refine sr_nmi (fun y11 => ?_)
  refine sr_istore_n (i := 3) (L' := [some (xad κ v0), some (.int v1), some (.int v2), some (.int y11), none, none]) (q := 12) C (show decode cX2_enter 11 = .ok (.istore_n 3, 1) from by decide +kernel) rfl (by decide) rfl rfl ?_
  refine sr_aload_n (i := 0) (q := 13) C (show decode cX2_enter 12 = .ok (.aload_n 0, 1) from by decide +kernel) rfl rfl rfl ?_
  refine sr_getr (q := 16) C fl_X2_14 hv0 (show decode cX2_enter 13 = .ok (.getfield 14, 3) from by decide +kernel) rfl ?_
  refine sr_dup (q := 17) C (show decode cX2_enter 16 = .ok (.dup, 1) from by decide +kernel) rfl rfl ?_
  refine sr_geti (q := 20) C fl_X2_123 (Or.inl rfl) (kt hv0 kp_2_1) (show decode cX2_enter 17 = .ok (.getfield 123, 3) from by decide +kernel) rfl (fun x17 => ?_)
  refine sr_iload_n (i := 3) (q := 21) C (show decode cX2_enter 20 = .ok (.iload_n 3, 1) from by decide +kernel) rfl rfl rfl ?_
  refine sr_ior (q := 22) C (show decode cX2_enter 21 = .ok (.ior, 1) from by decide +kernel) rfl ?_
  refine sr_puti (q := 25) C fp_X2_123 (kt hv0 kp_2_1) (show decode cX2_enter 22 = .ok (.putfield 123, 3) from by decide +kernel) rfl ?_
  refine sr_iload_n (i := 3) (q := 26) C (show decode cX2_enter 25 = .ok (.iload_n 3, 1) from by decide +kernel) rfl rfl rfl ?_
  refine sr_istore (i := 4) (L' := [some (xad κ v0), some (.int v1), some (.int v2), some (.int y11), some (.int y11), none]) (q := 28) C (show decode cX2_enter 26 = .ok (.istore 4, 2) from by decide +kernel) (by decide) rfl rfl ?_
  refine sr_weak (L' := [some (xad κ v0), none, some (.int v2), none, some (.int y11), none]) ⟨rfl, rfl, rfl, trivial⟩ ?_
  exact slX2_enter_L28 C 4096 v0 v2 y11 hv0
theorem cnX2_enter (ω : sm_O) (v0 : Nat) (v1 : Int32) (v2 : Int32) (hv0 : kd v0 = 2) : sm_Mt 2 yX2_enter cX2_enter 6 none ω [.ref (ω.1 + v0), .int v1, .int v2] (fun _ => none) (fnX2_enter v0 v1 v2) := by
  refine sm_conV (by decide) (Nat.le_of_ble_eq_true rfl) ?_
  intro κ hκ C
  subst hκ
  exact slX2_enter C v0 v1 v2 hv0
def fnX2_leave_L28 : Nat → Nat → Int32 → Int32 → sm_M Unit
  | 0, _, _, _ => m_fail
  | n + 1, v0, v2, v4 => m_br (v4 = 0)
    (m_ret ())
    (m_bnd (fnJ6_numberOfTrailingZeros_0f7a4 v4) fun x35 => m_sai (lk v0 4) x35 v2 <| m_gi v0 6 fun x53 => m_sai (lk v0 5) x53 (x35 + (32 : Int32)) <| m_gi v0 6 fun x64 => m_si v0 6 (x64 + (1 : Int32)) <| m_nm (v4 &&& (v4 - (1 : Int32))) fun y79 => (fnX2_leave_L28 n) v0 v2 y79)
set_option maxHeartbeats 4000000 in
set_option maxRecDepth 100000 in
theorem slX2_leave_L28 {κ : sm_X} (C : sm_C κ RX2 cX2_leave 6 2) : ∀ (n : Nat) (v0 : Nat) (v2 : Int32) (v4 : Int32) (hv0 : kd v0 = 2), sm_S κ (fun _ : Unit => .inr none) (.inl (28, [some (xad κ v0), none, some (.int v2), none, some (.int v4), none], [])) (fnX2_leave_L28 n v0 v2 v4) := by
  intro n
  induction n with
  | zero =>
    intros
    exact sr_fail
  | succ n K28 =>
    intro v0 v2 v4 hv0
    unfold fnX2_leave_L28
    refine sr_iload (i := 4) (q := 30) C (show decode cX2_leave 28 = .ok (.iload 4, 2) from by decide +kernel) rfl rfl ?_
    refine sr_if_eq (q := 33) C 84 (show decode cX2_leave 30 = .ok (.ifCond .eq 54, 3) from by decide +kernel) (by decide) rfl ?_ ?_
    · exact sr_vreturn C _ rfl (show decode cX2_leave 84 = .ok (.return_, 1) from by decide +kernel)
    · refine sr_iload (i := 4) (q := 35) C (show decode cX2_leave 33 = .ok (.iload 4, 2) from by decide +kernel) rfl rfl ?_
      refine sr_cSi (As := [.int v4]) (st := []) (q := 38) C ysJ6_numberOfTrailingZeros_0f7a4 ml_X2_90 (cnJ6_numberOfTrailingZeros_0f7a4 (xo κ) v4) rfl (by decide) (by decide) (Nat.le_of_ble_eq_true rfl) rfl (show decode cX2_leave 35 = .ok (.invokestatic 90, 3) from by decide +kernel) rfl (fun x35 => ?_)
      refine sr_istore (i := 5) (L' := [some (xad κ v0), none, some (.int v2), none, some (.int v4), some (.int x35)]) (q := 40) C (show decode cX2_leave 38 = .ok (.istore 5, 2) from by decide +kernel) (by decide) rfl rfl ?_
      refine sr_aload_n (i := 0) (q := 41) C (show decode cX2_leave 40 = .ok (.aload_n 0, 1) from by decide +kernel) rfl rfl rfl ?_
      refine sr_getr (q := 44) C fl_X2_25 hv0 (show decode cX2_leave 41 = .ok (.getfield 25, 3) from by decide +kernel) rfl ?_
      refine sr_iload (i := 5) (q := 46) C (show decode cX2_leave 44 = .ok (.iload 5, 2) from by decide +kernel) rfl rfl ?_
      refine sr_iload_n (i := 2) (q := 47) C (show decode cX2_leave 46 = .ok (.iload_n 2, 1) from by decide +kernel) rfl rfl rfl ?_
      refine sr_iastore (q := 48) C (kt hv0 kp_2_4) (show decode cX2_leave 47 = .ok (.iastore, 1) from by decide +kernel) rfl ?_
      refine sr_aload_n (i := 0) (q := 49) C (show decode cX2_leave 48 = .ok (.aload_n 0, 1) from by decide +kernel) rfl rfl rfl ?_
      refine sr_getr (q := 52) C fl_X2_28 hv0 (show decode cX2_leave 49 = .ok (.getfield 28, 3) from by decide +kernel) rfl ?_
      refine sr_aload_n (i := 0) (q := 53) C (show decode cX2_leave 52 = .ok (.aload_n 0, 1) from by decide +kernel) rfl rfl rfl ?_
      refine sr_geti (q := 56) C fl_X2_140 (Or.inl rfl) hv0 (show decode cX2_leave 53 = .ok (.getfield 140, 3) from by decide +kernel) rfl (fun x53 => ?_)
      refine sr_iload (i := 5) (q := 58) C (show decode cX2_leave 56 = .ok (.iload 5, 2) from by decide +kernel) rfl rfl ?_
      refine sr_bipush (v := (32 : Int32)) (q := 60) C (show decode cX2_leave 58 = .ok (.bipush 32, 2) from by decide +kernel) (by decide) rfl ?_
      refine sr_iadd (q := 61) C (show decode cX2_leave 60 = .ok (.iadd, 1) from by decide +kernel) rfl ?_
      refine sr_iastore (q := 62) C (kt hv0 kp_2_5) (show decode cX2_leave 61 = .ok (.iastore, 1) from by decide +kernel) rfl ?_
      refine sr_aload_n (i := 0) (q := 63) C (show decode cX2_leave 62 = .ok (.aload_n 0, 1) from by decide +kernel) rfl rfl rfl ?_
      refine sr_dup (q := 64) C (show decode cX2_leave 63 = .ok (.dup, 1) from by decide +kernel) rfl rfl ?_
      refine sr_geti (q := 67) C fl_X2_140 (Or.inl rfl) hv0 (show decode cX2_leave 64 = .ok (.getfield 140, 3) from by decide +kernel) rfl (fun x64 => ?_)
      refine sr_iconst (v := (1 : Int32)) (q := 68) C (show decode cX2_leave 67 = .ok (.iconst 1, 1) from by decide +kernel) (by decide) rfl ?_
      refine sr_iadd (q := 69) C (show decode cX2_leave 68 = .ok (.iadd, 1) from by decide +kernel) rfl ?_
      refine sr_puti (q := 72) C fp_X2_140 hv0 (show decode cX2_leave 69 = .ok (.putfield 140, 3) from by decide +kernel) rfl ?_
      refine sr_iload (i := 4) (q := 74) C (show decode cX2_leave 72 = .ok (.iload 4, 2) from by decide +kernel) rfl rfl ?_
      refine sr_iload (i := 4) (q := 76) C (show decode cX2_leave 74 = .ok (.iload 4, 2) from by decide +kernel) rfl rfl ?_
      refine sr_iconst (v := (1 : Int32)) (q := 77) C (show decode cX2_leave 76 = .ok (.iconst 1, 1) from by decide +kernel) (by decide) rfl ?_
      refine sr_isub (q := 78) C (show decode cX2_leave 77 = .ok (.isub, 1) from by decide +kernel) rfl ?_
      refine sr_iand (q := 79) C (show decode cX2_leave 78 = .ok (.iand, 1) from by decide +kernel) rfl ?_
      refine sr_nmi (fun y79 => ?_)
      refine sr_istore (i := 4) (L' := [some (xad κ v0), none, some (.int v2), none, some (.int y79), some (.int x35)]) (q := 81) C (show decode cX2_leave 79 = .ok (.istore 4, 2) from by decide +kernel) (by decide) rfl rfl ?_
      refine sr_goto (q := 28) C (show decode cX2_leave 81 = .ok (.goto (-53), 3) from by decide +kernel) (by decide) ?_
      refine sr_weak (L' := [some (xad κ v0), none, some (.int v2), none, some (.int y79), none]) ⟨rfl, rfl, rfl, trivial⟩ ?_
      exact K28 v0 v2 y79 hv0
def fnX2_leave (v0 : Nat) (v1 : Int32) (v2 : Int32) : sm_M Unit := m_gi (lk v0 1) 4 fun x5 => m_nm (v1 &&& (x5 ^^^ (-1 : Int32))) fun y11 => m_gi (lk v0 1) 4 fun x17 => m_si (lk v0 1) 4 (x17 ||| y11) <| fnX2_leave_L28 4096 v0 v2 y11
set_option maxHeartbeats 4000000 in
set_option maxRecDepth 100000 in
theorem slX2_leave {κ : sm_X} (C : sm_C κ RX2 cX2_leave 6 2) (v0 : Nat) (v1 : Int32) (v2 : Int32) (hv0 : kd v0 = 2) : sm_S κ (fun _ : Unit => .inr none) (.inl (0, [some (xad κ v0), some (.int v1), some (.int v2), none, none, none], [])) (fnX2_leave v0 v1 v2) := by
  unfold fnX2_leave
  refine sr_iload_n (i := 1) (q := 1) C (show decode cX2_leave 0 = .ok (.iload_n 1, 1) from by decide +kernel) rfl rfl rfl ?_
  refine sr_aload_n (i := 0) (q := 2) C (show decode cX2_leave 1 = .ok (.aload_n 0, 1) from by decide +kernel) rfl rfl rfl ?_
  refine sr_getr (q := 5) C fl_X2_14 hv0 (show decode cX2_leave 2 = .ok (.getfield 14, 3) from by decide +kernel) rfl ?_
  refine sr_geti (q := 8) C fl_X2_120 (Or.inl rfl) (kt hv0 kp_2_1) (show decode cX2_leave 5 = .ok (.getfield 120, 3) from by decide +kernel) rfl (fun x5 => ?_)
  refine sr_iconst (v := (-1 : Int32)) (q := 9) C (show decode cX2_leave 8 = .ok (.iconst (-1), 1) from by decide +kernel) (by decide) rfl ?_
  refine sr_ixor (q := 10) C (show decode cX2_leave 9 = .ok (.ixor, 1) from by decide +kernel) rfl ?_
  refine sr_iand (q := 11) C (show decode cX2_leave 10 = .ok (.iand, 1) from by decide +kernel) rfl ?_
  refine sr_nmi (fun y11 => ?_)
  refine sr_istore_n (i := 3) (L' := [some (xad κ v0), some (.int v1), some (.int v2), some (.int y11), none, none]) (q := 12) C (show decode cX2_leave 11 = .ok (.istore_n 3, 1) from by decide +kernel) rfl (by decide) rfl rfl ?_
  refine sr_aload_n (i := 0) (q := 13) C (show decode cX2_leave 12 = .ok (.aload_n 0, 1) from by decide +kernel) rfl rfl rfl ?_
  refine sr_getr (q := 16) C fl_X2_14 hv0 (show decode cX2_leave 13 = .ok (.getfield 14, 3) from by decide +kernel) rfl ?_
  refine sr_dup (q := 17) C (show decode cX2_leave 16 = .ok (.dup, 1) from by decide +kernel) rfl rfl ?_
  refine sr_geti (q := 20) C fl_X2_120 (Or.inl rfl) (kt hv0 kp_2_1) (show decode cX2_leave 17 = .ok (.getfield 120, 3) from by decide +kernel) rfl (fun x17 => ?_)
  refine sr_iload_n (i := 3) (q := 21) C (show decode cX2_leave 20 = .ok (.iload_n 3, 1) from by decide +kernel) rfl rfl rfl ?_
  refine sr_ior (q := 22) C (show decode cX2_leave 21 = .ok (.ior, 1) from by decide +kernel) rfl ?_
  refine sr_puti (q := 25) C fp_X2_120 (kt hv0 kp_2_1) (show decode cX2_leave 22 = .ok (.putfield 120, 3) from by decide +kernel) rfl ?_
  refine sr_iload_n (i := 3) (q := 26) C (show decode cX2_leave 25 = .ok (.iload_n 3, 1) from by decide +kernel) rfl rfl rfl ?_
  refine sr_istore (i := 4) (L' := [some (xad κ v0), some (.int v1), some (.int v2), some (.int y11), some (.int y11), none]) (q := 28) C (show decode cX2_leave 26 = .ok (.istore 4, 2) from by decide +kernel) (by decide) rfl rfl ?_
  refine sr_weak (L' := [some (xad κ v0), none, some (.int v2), none, some (.int y11), none]) ⟨rfl, rfl, rfl, trivial⟩ ?_
  exact slX2_leave_L28 C 4096 v0 v2 y11 hv0
theorem cnX2_leave (ω : sm_O) (v0 : Nat) (v1 : Int32) (v2 : Int32) (hv0 : kd v0 = 2) : sm_Mt 2 yX2_leave cX2_leave 6 none ω [.ref (ω.1 + v0), .int v1, .int v2] (fun _ => none) (fnX2_leave v0 v1 v2) := by
  refine sm_conV (by decide) (Nat.le_of_ble_eq_true rfl) ?_
  intro κ hκ C
  subst hκ
  exact slX2_leave C v0 v1 v2 hv0
def fnX2_search_J171 (k35 : Nat → Int32 → sm_M Int32) (v0 : Nat) (v1 : Int32) : sm_M Int32 := k35 v0 (v1 + (1 : Int32))
set_option maxHeartbeats 4000000 in
set_option maxRecDepth 100000 in
theorem slX2_search_J171 {κ : sm_X} (C : sm_C κ RX2 cX2_search 3 3) {k35 : Nat → Int32 → sm_M Int32} (K35 : ∀ (v0 : Nat) (v1 : Int32) (hv0 : kd v0 = 2), sm_S κ (fun r : Int32 => .inr (some (.int r))) (.inl (35, [some (xad κ v0), some (.int v1), none], [])) (k35 v0 v1)) (v0 : Nat) (v1 : Int32) (hv0 : kd v0 = 2) : sm_S κ (fun r : Int32 => .inr (some (.int r))) (.inl (171, [some (xad κ v0), some (.int v1), none], [])) (fnX2_search_J171 k35 v0 v1) := by
  unfold fnX2_search_J171
  refine sr_iinc (v := v1 + (1 : Int32)) (L' := [some (xad κ v0), some (.int (v1 + (1 : Int32))), none]) (q := 174) C (show decode cX2_search 171 = .ok (.iinc 1 1, 3) from by decide +kernel) rfl rfl (by decide) rfl rfl ?_
  refine sr_goto (q := 35) C (show decode cX2_search 174 = .ok (.goto (-139), 3) from by decide +kernel) (by decide) ?_
  exact K35 v0 (v1 + (1 : Int32)) hv0
def fnX2_search_J103 (k35 : Nat → Int32 → sm_M Int32) (v0 : Nat) (v1 : Int32) (v2 : Int32) : sm_M Int32 := m_ai (lk (lk v0 1) 9) v2 fun x112 => m_bnd (fnX2_leave v0 x112 v2) fun _ => fnX2_search_J171 k35 v0 v1
set_option maxHeartbeats 4000000 in
set_option maxRecDepth 100000 in
theorem slX2_search_J103 {κ : sm_X} (C : sm_C κ RX2 cX2_search 3 3) {k35 : Nat → Int32 → sm_M Int32} (K35 : ∀ (v0 : Nat) (v1 : Int32) (hv0 : kd v0 = 2), sm_S κ (fun r : Int32 => .inr (some (.int r))) (.inl (35, [some (xad κ v0), some (.int v1), none], [])) (k35 v0 v1)) (v0 : Nat) (v1 : Int32) (v2 : Int32) (hv0 : kd v0 = 2) : sm_S κ (fun r : Int32 => .inr (some (.int r))) (.inl (103, [some (xad κ v0), some (.int v1), some (.int v2)], [])) (fnX2_search_J103 k35 v0 v1 v2) := by
  unfold fnX2_search_J103
  refine sr_aload_n (i := 0) (q := 104) C (show decode cX2_search 103 = .ok (.aload_n 0, 1) from by decide +kernel) rfl rfl rfl ?_
  refine sr_aload_n (i := 0) (q := 105) C (show decode cX2_search 104 = .ok (.aload_n 0, 1) from by decide +kernel) rfl rfl rfl ?_
  refine sr_getr (q := 108) C fl_X2_14 hv0 (show decode cX2_search 105 = .ok (.getfield 14, 3) from by decide +kernel) rfl ?_
  refine sr_getr (q := 111) C fl_X2_152 (kt hv0 kp_2_1) (show decode cX2_search 108 = .ok (.getfield 152, 3) from by decide +kernel) rfl ?_
  refine sr_iload_n (i := 2) (q := 112) C (show decode cX2_search 111 = .ok (.iload_n 2, 1) from by decide +kernel) rfl rfl rfl ?_
  refine sr_iaload (q := 113) C (kt (kt hv0 kp_2_1) kp_4_9) (show decode cX2_search 112 = .ok (.iaload, 1) from by decide +kernel) rfl (fun x112 => ?_)
  refine sr_iload_n (i := 2) (q := 114) C (show decode cX2_search 113 = .ok (.iload_n 2, 1) from by decide +kernel) rfl rfl rfl ?_
  refine sr_cVv (As := [.int x112, .int v2]) (st := []) (b := v0) (q := 117) C yvX2_leave ml_X2_149 (cnX2_leave (xo κ) v0 x112 v2 hv0) hv0 (by decide) rfl rfl rfl (by decide) (by decide) (Nat.le_of_ble_eq_true rfl) rfl (show decode cX2_search 114 = .ok (.invokevirtual 149, 3) from by decide +kernel) rfl (fun _ => ?_)
  refine sr_goto (q := 171) C (show decode cX2_search 117 = .ok (.goto 54, 3) from by decide +kernel) (by decide) ?_
  refine sr_weak (L' := [some (xad κ v0), some (.int v1), none]) ⟨rfl, rfl, trivial⟩ ?_
  exact slX2_search_J171 C K35 v0 v1 hv0
def fnX2_search_L35 : Nat → Nat → Int32 → sm_M Int32
  | 0, _, _ => m_fail
  | n + 1, v0, v1 => m_gi v0 6 fun x37 => m_br (x37 ≤ v1)
    (m_ret (-1 : Int32))
    (m_br ((nI (ln (lk v0 5))) ≤ v1)
    (m_ret (-1 : Int32))
    (m_ai (lk v0 5) v1 fun x57 => m_nm (x57 &&& (31 : Int32)) fun y61 => m_ai (lk v0 5) v1 fun x67 => m_br ((32 : Int32) ≤ x67)
    (m_gi (lk v0 1) 1 fun x124 => m_br (((x124 >>> (y61 &&& 31)) &&& (1 : Int32)) = 0)
    (m_ai (lk (lk v0 1) 5) y61 fun x145 => m_bnd (fnX2_enter v0 x145 y61) fun _ => m_ai (lk (lk v0 1) 7) y61 fun x158 => m_br (x158 ≤ 0)
    (fnX2_search_J171 (fnX2_search_L35 n) v0 v1)
    (m_bnd (fnX2_enter v0 ((1 : Int32) <<< (y61 &&& 31)) (-2 : Int32)) fun _ => fnX2_search_J171 (fnX2_search_L35 n) v0 v1))
    (m_ret y61))
    (m_ai (lk (lk v0 1) 7) y61 fun x81 => m_ai (lk (lk v0 1) 6) y61 fun x90 => m_br (x90 ≤ x81)
    (fnX2_search_J103 (fnX2_search_L35 n) v0 v1 y61)
    (m_bnd (fnX2_leave v0 ((1 : Int32) <<< (y61 &&& 31)) (-2 : Int32)) fun _ => fnX2_search_J103 (fnX2_search_L35 n) v0 v1 y61))))
set_option maxHeartbeats 4000000 in
set_option maxRecDepth 100000 in
theorem slX2_search_L35 {κ : sm_X} (C : sm_C κ RX2 cX2_search 3 3) : ∀ (n : Nat) (v0 : Nat) (v1 : Int32) (hv0 : kd v0 = 2), sm_S κ (fun r : Int32 => .inr (some (.int r))) (.inl (35, [some (xad κ v0), some (.int v1), none], [])) (fnX2_search_L35 n v0 v1) := by
  intro n
  induction n with
  | zero =>
    intros
    exact sr_fail
  | succ n K35 =>
    intro v0 v1 hv0
    unfold fnX2_search_L35
    refine sr_iload_n (i := 1) (q := 36) C (show decode cX2_search 35 = .ok (.iload_n 1, 1) from by decide +kernel) rfl rfl rfl ?_
    refine sr_aload_n (i := 0) (q := 37) C (show decode cX2_search 36 = .ok (.aload_n 0, 1) from by decide +kernel) rfl rfl rfl ?_
    refine sr_geti (q := 40) C fl_X2_140 (Or.inl rfl) hv0 (show decode cX2_search 37 = .ok (.getfield 140, 3) from by decide +kernel) rfl (fun x37 => ?_)
    refine sr_icmp_ge (q := 43) C 177 (show decode cX2_search 40 = .ok (.if_icmp .ge 137, 3) from by decide +kernel) (by decide) rfl ?_ ?_
    · refine sr_iconst (v := (-1 : Int32)) (q := 178) C (show decode cX2_search 177 = .ok (.iconst (-1), 1) from by decide +kernel) (by decide) rfl ?_
      exact sr_ireturn C _ rfl (show decode cX2_search 178 = .ok (.ireturn, 1) from by decide +kernel)
    · refine sr_iload_n (i := 1) (q := 44) C (show decode cX2_search 43 = .ok (.iload_n 1, 1) from by decide +kernel) rfl rfl rfl ?_
      refine sr_aload_n (i := 0) (q := 45) C (show decode cX2_search 44 = .ok (.aload_n 0, 1) from by decide +kernel) rfl rfl rfl ?_
      refine sr_getr (q := 48) C fl_X2_28 hv0 (show decode cX2_search 45 = .ok (.getfield 28, 3) from by decide +kernel) rfl ?_
      refine sr_alen (q := 49) C (kt hv0 kp_2_5) (Or.inl rfl) (show decode cX2_search 48 = .ok (.arraylength, 1) from by decide +kernel) rfl ?_
      refine sr_icmp_ge (q := 52) C 177 (show decode cX2_search 49 = .ok (.if_icmp .ge 128, 3) from by decide +kernel) (by decide) rfl ?_ ?_
      · refine sr_iconst (v := (-1 : Int32)) (q := 178) C (show decode cX2_search 177 = .ok (.iconst (-1), 1) from by decide +kernel) (by decide) rfl ?_
        exact sr_ireturn C _ rfl (show decode cX2_search 178 = .ok (.ireturn, 1) from by decide +kernel)
      · refine sr_aload_n (i := 0) (q := 53) C (show decode cX2_search 52 = .ok (.aload_n 0, 1) from by decide +kernel) rfl rfl rfl ?_
        refine sr_getr (q := 56) C fl_X2_28 hv0 (show decode cX2_search 53 = .ok (.getfield 28, 3) from by decide +kernel) rfl ?_
        refine sr_iload_n (i := 1) (q := 57) C (show decode cX2_search 56 = .ok (.iload_n 1, 1) from by decide +kernel) rfl rfl rfl ?_
        refine sr_iaload (q := 58) C (kt hv0 kp_2_5) (show decode cX2_search 57 = .ok (.iaload, 1) from by decide +kernel) rfl (fun x57 => ?_)
        refine sr_bipush (v := (31 : Int32)) (q := 60) C (show decode cX2_search 58 = .ok (.bipush 31, 2) from by decide +kernel) (by decide) rfl ?_
        refine sr_iand (q := 61) C (show decode cX2_search 60 = .ok (.iand, 1) from by decide +kernel) rfl ?_
        refine sr_nmi (fun y61 => ?_)
        refine sr_istore_n (i := 2) (L' := [some (xad κ v0), some (.int v1), some (.int y61)]) (q := 62) C (show decode cX2_search 61 = .ok (.istore_n 2, 1) from by decide +kernel) rfl (by decide) rfl rfl ?_
        refine sr_aload_n (i := 0) (q := 63) C (show decode cX2_search 62 = .ok (.aload_n 0, 1) from by decide +kernel) rfl rfl rfl ?_
        refine sr_getr (q := 66) C fl_X2_28 hv0 (show decode cX2_search 63 = .ok (.getfield 28, 3) from by decide +kernel) rfl ?_
        refine sr_iload_n (i := 1) (q := 67) C (show decode cX2_search 66 = .ok (.iload_n 1, 1) from by decide +kernel) rfl rfl rfl ?_
        refine sr_iaload (q := 68) C (kt hv0 kp_2_5) (show decode cX2_search 67 = .ok (.iaload, 1) from by decide +kernel) rfl (fun x67 => ?_)
        refine sr_bipush (v := (32 : Int32)) (q := 70) C (show decode cX2_search 68 = .ok (.bipush 32, 2) from by decide +kernel) (by decide) rfl ?_
        refine sr_icmp_ge (q := 73) C 120 (show decode cX2_search 70 = .ok (.if_icmp .ge 50, 3) from by decide +kernel) (by decide) rfl ?_ ?_
        · refine sr_aload_n (i := 0) (q := 121) C (show decode cX2_search 120 = .ok (.aload_n 0, 1) from by decide +kernel) rfl rfl rfl ?_
          refine sr_getr (q := 124) C fl_X2_14 hv0 (show decode cX2_search 121 = .ok (.getfield 14, 3) from by decide +kernel) rfl ?_
          refine sr_geti (q := 127) C fl_X2_52 (Or.inl rfl) (kt hv0 kp_2_1) (show decode cX2_search 124 = .ok (.getfield 52, 3) from by decide +kernel) rfl (fun x124 => ?_)
          refine sr_iload_n (i := 2) (q := 128) C (show decode cX2_search 127 = .ok (.iload_n 2, 1) from by decide +kernel) rfl rfl rfl ?_
          refine sr_ishr (q := 129) C (show decode cX2_search 128 = .ok (.ishr, 1) from by decide +kernel) rfl ?_
          refine sr_iconst (v := (1 : Int32)) (q := 130) C (show decode cX2_search 129 = .ok (.iconst 1, 1) from by decide +kernel) (by decide) rfl ?_
          refine sr_iand (q := 131) C (show decode cX2_search 130 = .ok (.iand, 1) from by decide +kernel) rfl ?_
          refine sr_if_eq (q := 134) C 136 (show decode cX2_search 131 = .ok (.ifCond .eq 5, 3) from by decide +kernel) (by decide) rfl ?_ ?_
          · refine sr_aload_n (i := 0) (q := 137) C (show decode cX2_search 136 = .ok (.aload_n 0, 1) from by decide +kernel) rfl rfl rfl ?_
            refine sr_aload_n (i := 0) (q := 138) C (show decode cX2_search 137 = .ok (.aload_n 0, 1) from by decide +kernel) rfl rfl rfl ?_
            refine sr_getr (q := 141) C fl_X2_14 hv0 (show decode cX2_search 138 = .ok (.getfield 14, 3) from by decide +kernel) rfl ?_
            refine sr_getr (q := 144) C fl_X2_54 (kt hv0 kp_2_1) (show decode cX2_search 141 = .ok (.getfield 54, 3) from by decide +kernel) rfl ?_
            refine sr_iload_n (i := 2) (q := 145) C (show decode cX2_search 144 = .ok (.iload_n 2, 1) from by decide +kernel) rfl rfl rfl ?_
            refine sr_iaload (q := 146) C (kt (kt hv0 kp_2_1) kp_4_5) (show decode cX2_search 145 = .ok (.iaload, 1) from by decide +kernel) rfl (fun x145 => ?_)
            refine sr_iload_n (i := 2) (q := 147) C (show decode cX2_search 146 = .ok (.iload_n 2, 1) from by decide +kernel) rfl rfl rfl ?_
            refine sr_cVv (As := [.int x145, .int y61]) (st := []) (b := v0) (q := 150) C yvX2_enter ml_X2_143 (cnX2_enter (xo κ) v0 x145 y61 hv0) hv0 (by decide) rfl rfl rfl (by decide) (by decide) (Nat.le_of_ble_eq_true rfl) rfl (show decode cX2_search 147 = .ok (.invokevirtual 143, 3) from by decide +kernel) rfl (fun _ => ?_)
            refine sr_aload_n (i := 0) (q := 151) C (show decode cX2_search 150 = .ok (.aload_n 0, 1) from by decide +kernel) rfl rfl rfl ?_
            refine sr_getr (q := 154) C fl_X2_14 hv0 (show decode cX2_search 151 = .ok (.getfield 14, 3) from by decide +kernel) rfl ?_
            refine sr_getr (q := 157) C fl_X2_146 (kt hv0 kp_2_1) (show decode cX2_search 154 = .ok (.getfield 146, 3) from by decide +kernel) rfl ?_
            refine sr_iload_n (i := 2) (q := 158) C (show decode cX2_search 157 = .ok (.iload_n 2, 1) from by decide +kernel) rfl rfl rfl ?_
            refine sr_iaload (q := 159) C (kt (kt hv0 kp_2_1) kp_4_7) (show decode cX2_search 158 = .ok (.iaload, 1) from by decide +kernel) rfl (fun x158 => ?_)
            refine sr_if_le (q := 162) C 171 (show decode cX2_search 159 = .ok (.ifCond .le 12, 3) from by decide +kernel) (by decide) rfl ?_ ?_
            · refine sr_weak (L' := [some (xad κ v0), some (.int v1), none]) ⟨rfl, rfl, trivial⟩ ?_
              exact slX2_search_J171 C K35 v0 v1 hv0
            · refine sr_aload_n (i := 0) (q := 163) C (show decode cX2_search 162 = .ok (.aload_n 0, 1) from by decide +kernel) rfl rfl rfl ?_
              refine sr_iconst (v := (1 : Int32)) (q := 164) C (show decode cX2_search 163 = .ok (.iconst 1, 1) from by decide +kernel) (by decide) rfl ?_
              refine sr_iload_n (i := 2) (q := 165) C (show decode cX2_search 164 = .ok (.iload_n 2, 1) from by decide +kernel) rfl rfl rfl ?_
              refine sr_ishl (q := 166) C (show decode cX2_search 165 = .ok (.ishl, 1) from by decide +kernel) rfl ?_
              refine sr_bipush (v := (-2 : Int32)) (q := 168) C (show decode cX2_search 166 = .ok (.bipush (-2), 2) from by decide +kernel) (by decide) rfl ?_
              refine sr_cVv (As := [.int ((1 : Int32) <<< (y61 &&& 31)), .int (-2 : Int32)]) (st := []) (b := v0) (q := 171) C yvX2_enter ml_X2_143 (cnX2_enter (xo κ) v0 ((1 : Int32) <<< (y61 &&& 31)) (-2 : Int32) hv0) hv0 (by decide) rfl rfl rfl (by decide) (by decide) (Nat.le_of_ble_eq_true rfl) rfl (show decode cX2_search 168 = .ok (.invokevirtual 143, 3) from by decide +kernel) rfl (fun _ => ?_)
              refine sr_weak (L' := [some (xad κ v0), some (.int v1), none]) ⟨rfl, rfl, trivial⟩ ?_
              exact slX2_search_J171 C K35 v0 v1 hv0
          · refine sr_iload_n (i := 2) (q := 135) C (show decode cX2_search 134 = .ok (.iload_n 2, 1) from by decide +kernel) rfl rfl rfl ?_
            exact sr_ireturn C _ rfl (show decode cX2_search 135 = .ok (.ireturn, 1) from by decide +kernel)
        · refine sr_aload_n (i := 0) (q := 74) C (show decode cX2_search 73 = .ok (.aload_n 0, 1) from by decide +kernel) rfl rfl rfl ?_
          refine sr_getr (q := 77) C fl_X2_14 hv0 (show decode cX2_search 74 = .ok (.getfield 14, 3) from by decide +kernel) rfl ?_
          refine sr_getr (q := 80) C fl_X2_146 (kt hv0 kp_2_1) (show decode cX2_search 77 = .ok (.getfield 146, 3) from by decide +kernel) rfl ?_
          refine sr_iload_n (i := 2) (q := 81) C (show decode cX2_search 80 = .ok (.iload_n 2, 1) from by decide +kernel) rfl rfl rfl ?_
          refine sr_iaload (q := 82) C (kt (kt hv0 kp_2_1) kp_4_7) (show decode cX2_search 81 = .ok (.iaload, 1) from by decide +kernel) rfl (fun x81 => ?_)
          refine sr_aload_n (i := 0) (q := 83) C (show decode cX2_search 82 = .ok (.aload_n 0, 1) from by decide +kernel) rfl rfl rfl ?_
          refine sr_getr (q := 86) C fl_X2_14 hv0 (show decode cX2_search 83 = .ok (.getfield 14, 3) from by decide +kernel) rfl ?_
          refine sr_getr (q := 89) C fl_X2_63 (kt hv0 kp_2_1) (show decode cX2_search 86 = .ok (.getfield 63, 3) from by decide +kernel) rfl ?_
          refine sr_iload_n (i := 2) (q := 90) C (show decode cX2_search 89 = .ok (.iload_n 2, 1) from by decide +kernel) rfl rfl rfl ?_
          refine sr_iaload (q := 91) C (kt (kt hv0 kp_2_1) kp_4_6) (show decode cX2_search 90 = .ok (.iaload, 1) from by decide +kernel) rfl (fun x90 => ?_)
          refine sr_icmp_ge (q := 94) C 103 (show decode cX2_search 91 = .ok (.if_icmp .ge 12, 3) from by decide +kernel) (by decide) rfl ?_ ?_
          · exact slX2_search_J103 C K35 v0 v1 y61 hv0
          · refine sr_aload_n (i := 0) (q := 95) C (show decode cX2_search 94 = .ok (.aload_n 0, 1) from by decide +kernel) rfl rfl rfl ?_
            refine sr_iconst (v := (1 : Int32)) (q := 96) C (show decode cX2_search 95 = .ok (.iconst 1, 1) from by decide +kernel) (by decide) rfl ?_
            refine sr_iload_n (i := 2) (q := 97) C (show decode cX2_search 96 = .ok (.iload_n 2, 1) from by decide +kernel) rfl rfl rfl ?_
            refine sr_ishl (q := 98) C (show decode cX2_search 97 = .ok (.ishl, 1) from by decide +kernel) rfl ?_
            refine sr_bipush (v := (-2 : Int32)) (q := 100) C (show decode cX2_search 98 = .ok (.bipush (-2), 2) from by decide +kernel) (by decide) rfl ?_
            refine sr_cVv (As := [.int ((1 : Int32) <<< (y61 &&& 31)), .int (-2 : Int32)]) (st := []) (b := v0) (q := 103) C yvX2_leave ml_X2_149 (cnX2_leave (xo κ) v0 ((1 : Int32) <<< (y61 &&& 31)) (-2 : Int32) hv0) hv0 (by decide) rfl rfl rfl (by decide) (by decide) (Nat.le_of_ble_eq_true rfl) rfl (show decode cX2_search 100 = .ok (.invokevirtual 149, 3) from by decide +kernel) rfl (fun _ => ?_)
            exact slX2_search_J103 C K35 v0 v1 y61 hv0
def fnX2_search (v0 : Nat) : sm_M Int32 := m_si (lk v0 1) 3 (0 : Int32) <| m_si (lk v0 1) 4 (0 : Int32) <| m_si v0 6 (0 : Int32) <| m_gi (lk v0 1) 0 fun x26 => m_bnd (fnX2_enter v0 x26 (-1 : Int32)) fun _ => fnX2_search_L35 4096 v0 (0 : Int32)
set_option maxHeartbeats 4000000 in
set_option maxRecDepth 100000 in
theorem slX2_search {κ : sm_X} (C : sm_C κ RX2 cX2_search 3 3) (v0 : Nat) (hv0 : kd v0 = 2) : sm_S κ (fun r : Int32 => .inr (some (.int r))) (.inl (0, [some (xad κ v0), none, none], [])) (fnX2_search v0) := by
  unfold fnX2_search
  refine sr_aload_n (i := 0) (q := 1) C (show decode cX2_search 0 = .ok (.aload_n 0, 1) from by decide +kernel) rfl rfl rfl ?_
  refine sr_getr (q := 4) C fl_X2_14 hv0 (show decode cX2_search 1 = .ok (.getfield 14, 3) from by decide +kernel) rfl ?_
  refine sr_iconst (v := (0 : Int32)) (q := 5) C (show decode cX2_search 4 = .ok (.iconst 0, 1) from by decide +kernel) (by decide) rfl ?_
  refine sr_puti (q := 8) C fp_X2_123 (kt hv0 kp_2_1) (show decode cX2_search 5 = .ok (.putfield 123, 3) from by decide +kernel) rfl ?_
  refine sr_aload_n (i := 0) (q := 9) C (show decode cX2_search 8 = .ok (.aload_n 0, 1) from by decide +kernel) rfl rfl rfl ?_
  refine sr_getr (q := 12) C fl_X2_14 hv0 (show decode cX2_search 9 = .ok (.getfield 14, 3) from by decide +kernel) rfl ?_
  refine sr_iconst (v := (0 : Int32)) (q := 13) C (show decode cX2_search 12 = .ok (.iconst 0, 1) from by decide +kernel) (by decide) rfl ?_
  refine sr_puti (q := 16) C fp_X2_120 (kt hv0 kp_2_1) (show decode cX2_search 13 = .ok (.putfield 120, 3) from by decide +kernel) rfl ?_
  refine sr_aload_n (i := 0) (q := 17) C (show decode cX2_search 16 = .ok (.aload_n 0, 1) from by decide +kernel) rfl rfl rfl ?_
  refine sr_iconst (v := (0 : Int32)) (q := 18) C (show decode cX2_search 17 = .ok (.iconst 0, 1) from by decide +kernel) (by decide) rfl ?_
  refine sr_puti (q := 21) C fp_X2_140 hv0 (show decode cX2_search 18 = .ok (.putfield 140, 3) from by decide +kernel) rfl ?_
  refine sr_aload_n (i := 0) (q := 22) C (show decode cX2_search 21 = .ok (.aload_n 0, 1) from by decide +kernel) rfl rfl rfl ?_
  refine sr_aload_n (i := 0) (q := 23) C (show decode cX2_search 22 = .ok (.aload_n 0, 1) from by decide +kernel) rfl rfl rfl ?_
  refine sr_getr (q := 26) C fl_X2_14 hv0 (show decode cX2_search 23 = .ok (.getfield 14, 3) from by decide +kernel) rfl ?_
  refine sr_geti (q := 29) C fl_X2_47 (Or.inl rfl) (kt hv0 kp_2_1) (show decode cX2_search 26 = .ok (.getfield 47, 3) from by decide +kernel) rfl (fun x26 => ?_)
  refine sr_iconst (v := (-1 : Int32)) (q := 30) C (show decode cX2_search 29 = .ok (.iconst (-1), 1) from by decide +kernel) (by decide) rfl ?_
  refine sr_cVv (As := [.int x26, .int (-1 : Int32)]) (st := []) (b := v0) (q := 33) C yvX2_enter ml_X2_143 (cnX2_enter (xo κ) v0 x26 (-1 : Int32) hv0) hv0 (by decide) rfl rfl rfl (by decide) (by decide) (Nat.le_of_ble_eq_true rfl) rfl (show decode cX2_search 30 = .ok (.invokevirtual 143, 3) from by decide +kernel) rfl (fun _ => ?_)
  refine sr_iconst (v := (0 : Int32)) (q := 34) C (show decode cX2_search 33 = .ok (.iconst 0, 1) from by decide +kernel) (by decide) rfl ?_
  refine sr_istore_n (i := 1) (L' := [some (xad κ v0), some (.int (0 : Int32)), none]) (q := 35) C (show decode cX2_search 34 = .ok (.istore_n 1, 1) from by decide +kernel) rfl (by decide) rfl rfl ?_
  exact slX2_search_L35 C 4096 v0 (0 : Int32) hv0
theorem cnX2_search (ω : sm_O) (v0 : Nat) (hv0 : kd v0 = 2) : sm_Mt 3 yX2_search cX2_search 3 (some .int) ω [.ref (ω.1 + v0)] (fun a => some (.int a)) (fnX2_search v0) := by
  refine sm_conI (r := fun a => a) (by decide) (fun _ => rfl) (Nat.le_of_ble_eq_true rfl) ?_
  intro κ hκ C
  subst hκ
  exact slX2_search C v0 hv0
