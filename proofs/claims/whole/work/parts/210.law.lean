def R_law : String := "BearsTwoLaw"
abbrev cL_law : ByteArray := code
theorem kd_0 : kd 0 = 11 := by decide +kernel
theorem kd_146 : kd 146 = 12 := by decide +kernel
section SX
variable {κ : sm_X} {own : String} {cc : ByteArray} {nL d : Nat} {α : Type} {ex : α → sm_G} {f : sm_M α} {pc q b Ln : Nat} {sx : Nat → Int32} {L : List (Option Value)} {st : List Value}
theorem sr_sld (C : sm_C κ own cc nL d) (HX : va_X b Ln sx (xs κ) (xs κ).heap) (Hb : b < (xs κ).heap.size) (HbA : ¬ sm_A (xo κ) b) {i : Int32} (hd : decode cc pc = .ok (.iaload, 1)) (hq : pc + 1 = q) (h : sm_S κ ex (.inl (q, L, .int (sx i.toNatClampNeg) :: st)) f) : sm_S κ ex (.inl (pc, L, .int i :: .ref b :: st)) (m_gd (¬ (i < 0 ∨ Ln ≤ i.toNatClampNeg)) f) := by
  subst hq
  refine sr_gd (fun hi => ?_)
  intro μ H locs a μ' a1 a2 a3 a4 ls hls
  exact va_sld C.1 C.2.1 HX Hb HbA a2 hi hd (h μ H locs a μ' a1 a2 a3 a4 ls hls)
theorem sr_slen (C : sm_C κ own cc nL d) (HX : va_X b Ln sx (xs κ) (xs κ).heap) (Hb : b < (xs κ).heap.size) (HbA : ¬ sm_A (xo κ) b) (hd : decode cc pc = .ok (.arraylength, 1)) (hq : pc + 1 = q) (h : sm_S κ ex (.inl (q, L, .int (nI Ln) :: st)) f) : sm_S κ ex (.inl (pc, L, .ref b :: st)) f := by
  subst hq
  intro μ H locs a μ' a1 a2 a3 a4 ls hls
  exact va_slen C.1 C.2.1 HX Hb HbA a2 hd (h μ H locs a μ' a1 a2 a3 a4 ls hls)
end SX
theorem co_L_218 : Cond.constantLong R_law 218 (4294967295 : Int64) ∈ lw_w := lw_m (lt9 (List.mem_of_getElem? (i := 186) rfl)) rfl
theorem ml_L_102 : Cond.methodLink R_law 102 yX12_home ∈ lw_w := lw_m (lt8 (List.mem_of_getElem? (i := 180) rfl)) rfl
theorem ml_L_103 : Cond.methodLink R_law 103 yX11_days ∈ lw_w := lw_m (lt5 (List.mem_of_getElem? (i := 38) rfl)) rfl
theorem ml_L_106 : Cond.methodLink R_law 106 yX12_days ∈ lw_w := lw_m (lt8 (List.mem_of_getElem? (i := 184) rfl)) rfl
theorem ml_L_107 : Cond.methodLink R_law 107 yX11_best ∈ lw_w := lw_m (lt5 (List.mem_of_getElem? (i := 46) rfl)) rfl
theorem ml_L_110 : Cond.methodLink R_law 110 yX12_best ∈ lw_w := lw_m (lt8 (List.mem_of_getElem? (i := 192) rfl)) rfl
theorem ml_L_111 : Cond.methodLink R_law 111 yX11_most ∈ lw_w := lw_m (lt5 (List.mem_of_getElem? (i := 50) rfl)) rfl
theorem ml_L_114 : Cond.methodLink R_law 114 yX12_most ∈ lw_w := lw_m (lt8 (List.mem_of_getElem? (i := 196) rfl)) rfl
theorem ml_L_115 : Cond.methodLink R_law 115 yX11_cut ∈ lw_w := lw_m (lt5 (List.mem_of_getElem? (i := 99) rfl)) rfl
theorem ml_L_118 : Cond.methodLink R_law 118 yX12_cut ∈ lw_w := lw_m (lt8 (List.mem_of_getElem? (i := 232) rfl)) rfl
theorem ml_L_119 : Cond.methodLink R_law 119 yX11_bars ∈ lw_w := lw_m (lt5 (List.mem_of_getElem? (i := 107) rfl)) rfl
theorem ml_L_122 : Cond.methodLink R_law 122 yX12_bars ∈ lw_w := lw_m (lt8 (List.mem_of_getElem? (i := 236) rfl)) rfl
theorem ml_L_123 : Cond.methodLink R_law 123 yX11_alike ∈ lw_w := lw_m (lt5 (List.mem_of_getElem? (i := 115) rfl)) rfl
theorem ml_L_126 : Cond.methodLink R_law 126 yX12_alike ∈ lw_w := lw_m (lt9 (List.mem_of_getElem? (i := 0) rfl)) rfl
theorem ml_L_127 : Cond.methodLink R_law 127 yX11_more ∈ lw_w := lw_m (lt5 (List.mem_of_getElem? (i := 120) rfl)) rfl
theorem ml_L_13 : Cond.methodLink R_law 13 yX11_feed ∈ lw_w := lw_m (lt3 (List.mem_of_getElem? (i := 19) rfl)) rfl
theorem ml_L_130 : Cond.methodLink R_law 130 yX12_more ∈ lw_w := lw_m (lt9 (List.mem_of_getElem? (i := 4) rfl)) rfl
theorem ml_L_131 : Cond.methodLink R_law 131 yX11_where ∈ lw_w := lw_m (lt5 (List.mem_of_getElem? (i := 140) rfl)) rfl
theorem ml_L_134 : Cond.methodLink R_law 134 yX12_where ∈ lw_w := lw_m (lt9 (List.mem_of_getElem? (i := 20) rfl)) rfl
theorem ml_L_135 : Cond.methodLink R_law 135 yX11_moved ∈ lw_w := lw_m (lt5 (List.mem_of_getElem? (i := 165) rfl)) rfl
theorem ml_L_138 : Cond.methodLink R_law 138 yX12_moved ∈ lw_w := lw_m (lt9 (List.mem_of_getElem? (i := 24) rfl)) rfl
theorem ml_L_139 : Cond.methodLink R_law 139 yX11_move ∈ lw_w := lw_m (lt5 (List.mem_of_getElem? (i := 173) rfl)) rfl
theorem ml_L_142 : Cond.methodLink R_law 142 yX12_move ∈ lw_w := lw_m (lt9 (List.mem_of_getElem? (i := 32) rfl)) rfl
theorem ml_L_143 : Cond.methodLink R_law 143 yX11_plank ∈ lw_w := lw_m (lt5 (List.mem_of_getElem? (i := 177) rfl)) rfl
theorem ml_L_146 : Cond.methodLink R_law 146 yX12_plank ∈ lw_w := lw_m (lt9 (List.mem_of_getElem? (i := 36) rfl)) rfl
theorem ml_L_147 : Cond.methodLink R_law 147 yX11_planks ∈ lw_w := lw_m (lt5 (List.mem_of_getElem? (i := 189) rfl)) rfl
theorem ml_L_150 : Cond.methodLink R_law 150 yX12_planks ∈ lw_w := lw_m (lt9 (List.mem_of_getElem? (i := 47) rfl)) rfl
theorem ml_L_151 : Cond.methodLink R_law 151 yX11_know ∈ lw_w := lw_m (lt5 (List.mem_of_getElem? (i := 213) rfl)) rfl
theorem ml_L_155 : Cond.methodLink R_law 155 yX12_know ∈ lw_w := lw_m (lt9 (List.mem_of_getElem? (i := 51) rfl)) rfl
theorem ml_L_156 : Cond.methodLink R_law 156 yX11_sure ∈ lw_w := lw_m (lt5 (List.mem_of_getElem? (i := 217) rfl)) rfl
theorem ml_L_160 : Cond.methodLink R_law 160 yX12_sure ∈ lw_w := lw_m (lt9 (List.mem_of_getElem? (i := 55) rfl)) rfl
theorem ml_L_161 : Cond.methodLink R_law 161 yX11_tread ∈ lw_w := lw_m (lt5 (List.mem_of_getElem? (i := 235) rfl)) rfl
theorem ml_L_165 : Cond.methodLink R_law 165 yX12_tread ∈ lw_w := lw_m (lt9 (List.mem_of_getElem? (i := 73) rfl)) rfl
theorem ml_L_166 : Cond.methodLink R_law 166 yX11_first ∈ lw_w := lw_m (lt6 (List.mem_of_getElem? (i := 4) rfl)) rfl
theorem ml_L_169 : Cond.methodLink R_law 169 yX12_first ∈ lw_w := lw_m (lt9 (List.mem_of_getElem? (i := 81) rfl)) rfl
theorem ml_L_17 : Cond.methodLink R_law 17 yX12_feed ∈ lw_w := lw_m (lt7 (List.mem_of_getElem? (i := 60) rfl)) rfl
theorem ml_L_170 : Cond.methodLink R_law 170 yX11_price ∈ lw_w := lw_m (lt6 (List.mem_of_getElem? (i := 8) rfl)) rfl
theorem ml_L_173 : Cond.methodLink R_law 173 yX12_price ∈ lw_w := lw_m (lt9 (List.mem_of_getElem? (i := 85) rfl)) rfl
theorem ml_L_174 : Cond.methodLink R_law 174 yX11_keep ∈ lw_w := lw_m (lt6 (List.mem_of_getElem? (i := 16) rfl)) rfl
theorem ml_L_177 : Cond.methodLink R_law 177 yX12_keep ∈ lw_w := lw_m (lt9 (List.mem_of_getElem? (i := 93) rfl)) rfl
theorem ml_L_178 : Cond.methodLink R_law 178 yX11_late ∈ lw_w := lw_m (lt6 (List.mem_of_getElem? (i := 20) rfl)) rfl
theorem ml_L_18 : Cond.methodLink R_law 18 yX11_end ∈ lw_w := lw_m (lt3 (List.mem_of_getElem? (i := 27) rfl)) rfl
theorem ml_L_181 : Cond.methodLink R_law 181 yX12_late ∈ lw_w := lw_m (lt9 (List.mem_of_getElem? (i := 97) rfl)) rfl
theorem ml_L_182 : Cond.methodLink R_law 182 yX11_noon ∈ lw_w := lw_m (lt6 (List.mem_of_getElem? (i := 28) rfl)) rfl
theorem ml_L_185 : Cond.methodLink R_law 185 yX12_noon ∈ lw_w := lw_m (lt9 (List.mem_of_getElem? (i := 105) rfl)) rfl
theorem ml_L_186 : Cond.methodLink R_law 186 yX11_waits ∈ lw_w := lw_m (lt6 (List.mem_of_getElem? (i := 32) rfl)) rfl
theorem ml_L_189 : Cond.methodLink R_law 189 yX12_waits ∈ lw_w := lw_m (lt9 (List.mem_of_getElem? (i := 110) rfl)) rfl
theorem ml_L_190 : Cond.methodLink R_law 190 yX11_cross ∈ lw_w := lw_m (lt6 (List.mem_of_getElem? (i := 48) rfl)) rfl
theorem ml_L_193 : Cond.methodLink R_law 193 yX12_cross ∈ lw_w := lw_m (lt9 (List.mem_of_getElem? (i := 126) rfl)) rfl
theorem ml_L_194 : Cond.methodLink R_law 194 yX11_run ∈ lw_w := lw_m (lt6 (List.mem_of_getElem? (i := 56) rfl)) rfl
theorem ml_L_197 : Cond.methodLink R_law 197 yX12_run ∈ lw_w := lw_m (lt9 (List.mem_of_getElem? (i := 134) rfl)) rfl
theorem ml_L_198 : Cond.methodLink R_law 198 yX11_runs ∈ lw_w := lw_m (lt6 (List.mem_of_getElem? (i := 86) rfl)) rfl
theorem ml_L_201 : Cond.methodLink R_law 201 yX12_runs ∈ lw_w := lw_m (lt9 (List.mem_of_getElem? (i := 158) rfl)) rfl
theorem ml_L_202 : Cond.methodLink R_law 202 yX11_count ∈ lw_w := lw_m (lt6 (List.mem_of_getElem? (i := 90) rfl)) rfl
theorem ml_L_205 : Cond.methodLink R_law 205 yX12_count ∈ lw_w := lw_m (lt9 (List.mem_of_getElem? (i := 163) rfl)) rfl
theorem ml_L_206 : Cond.methodLink R_law 206 yX11_image ∈ lw_w := lw_m (lt6 (List.mem_of_getElem? (i := 102) rfl)) rfl
theorem ml_L_209 : Cond.methodLink R_law 209 yX12_image ∈ lw_w := lw_m (lt7 (List.mem_of_getElem? (i := 48) rfl)) rfl
theorem ml_L_210 : Cond.methodLink R_law 210 yX11_back ∈ lw_w := lw_m (lt6 (List.mem_of_getElem? (i := 109) rfl)) rfl
theorem ml_L_213 : Cond.methodLink R_law 213 yX12_back ∈ lw_w := lw_m (lt7 (List.mem_of_getElem? (i := 56) rfl)) rfl
theorem ml_L_214 : Cond.methodLink R_law 214 yX11_row ∈ lw_w := lw_m (lt6 (List.mem_of_getElem? (i := 113) rfl)) rfl
theorem ml_L_217 : Cond.methodLink R_law 217 yX12_row ∈ lw_w := lw_m (lt9 (List.mem_of_getElem? (i := 171) rfl)) rfl
theorem ml_L_22 : Cond.methodLink R_law 22 yX12_end ∈ lw_w := lw_m (lt7 (List.mem_of_getElem? (i := 64) rfl)) rfl
theorem ml_L_220 : Cond.methodLink R_law 220 yX11_write ∈ lw_w := lw_m (lt6 (List.mem_of_getElem? (i := 124) rfl)) rfl
theorem ml_L_224 : Cond.methodLink R_law 224 yX12_write ∈ lw_w := lw_m (lt9 (List.mem_of_getElem? (i := 175) rfl)) rfl
theorem ml_L_225 : Cond.methodLink R_law 225 yX11_paste ∈ lw_w := lw_m (lt6 (List.mem_of_getElem? (i := 132) rfl)) rfl
theorem ml_L_228 : Cond.methodLink R_law 228 yX12_paste ∈ lw_w := lw_m (lt9 (List.mem_of_getElem? (i := 182) rfl)) rfl
theorem ml_L_23 : Cond.methodLink R_law 23 yX11_river ∈ lw_w := lw_m (lt3 (List.mem_of_getElem? (i := 31) rfl)) rfl
theorem ml_L_27 : Cond.methodLink R_law 27 yX12_river ∈ lw_w := lw_m (lt7 (List.mem_of_getElem? (i := 72) rfl)) rfl
theorem ml_L_28 : Cond.methodLink R_law 28 yX11_fault ∈ lw_w := lw_m (lt3 (List.mem_of_getElem? (i := 200) rfl)) rfl
theorem ml_L_31 : Cond.methodLink R_law 31 yX12_fault ∈ lw_w := lw_m (lt7 (List.mem_of_getElem? (i := 68) rfl)) rfl
theorem ml_L_32 : Cond.methodLink R_law 32 yX11_stone ∈ lw_w := lw_m (lt3 (List.mem_of_getElem? (i := 204) rfl)) rfl
theorem ml_L_36 : Cond.methodLink R_law 36 yX12_stone ∈ lw_w := lw_m (lt7 (List.mem_of_getElem? (i := 156) rfl)) rfl
theorem ml_L_37 : Cond.methodLink R_law 37 yX11_person ∈ lw_w := lw_m (lt3 (List.mem_of_getElem? (i := 224) rfl)) rfl
theorem ml_L_40 : Cond.methodLink R_law 40 yX12_person ∈ lw_w := lw_m (lt8 (List.mem_of_getElem? (i := 78) rfl)) rfl
theorem ml_L_41 : Cond.methodLink R_law 41 yX11_may ∈ lw_w := lw_m (lt3 (List.mem_of_getElem? (i := 237) rfl)) rfl
theorem ml_L_45 : Cond.methodLink R_law 45 yX12_may ∈ lw_w := lw_m (lt7 (List.mem_of_getElem? (i := 182) rfl)) rfl
theorem ml_L_46 : Cond.methodLink R_law 46 yX11_reach ∈ lw_w := lw_m (lt4 (List.mem_of_getElem? (i := 18) rfl)) rfl
theorem ml_L_49 : Cond.methodLink R_law 49 yX12_reach ∈ lw_w := lw_m (lt7 (List.mem_of_getElem? (i := 210) rfl)) rfl
theorem ml_L_50 : Cond.methodLink R_law 50 yX11_hour ∈ lw_w := lw_m (lt4 (List.mem_of_getElem? (i := 35) rfl)) rfl
theorem ml_L_53 : Cond.methodLink R_law 53 yX12_hour ∈ lw_w := lw_m (lt7 (List.mem_of_getElem? (i := 218) rfl)) rfl
theorem ml_L_54 : Cond.methodLink R_law 54 yX11_fresh ∈ lw_w := lw_m (lt4 (List.mem_of_getElem? (i := 43) rfl)) rfl
theorem ml_L_57 : Cond.methodLink R_law 57 yX12_fresh ∈ lw_w := lw_m (lt7 (List.mem_of_getElem? (i := 223) rfl)) rfl
theorem ml_L_58 : Cond.methodLink R_law 58 yX11_length ∈ lw_w := lw_m (lt4 (List.mem_of_getElem? (i := 51) rfl)) rfl
theorem ml_L_61 : Cond.methodLink R_law 61 yX12_length ∈ lw_w := lw_m (lt7 (List.mem_of_getElem? (i := 239) rfl)) rfl
theorem ml_L_62 : Cond.methodLink R_law 62 yX11_path ∈ lw_w := lw_m (lt4 (List.mem_of_getElem? (i := 97) rfl)) rfl
theorem ml_L_66 : Cond.methodLink R_law 66 yX12_path ∈ lw_w := lw_m (lt8 (List.mem_of_getElem? (i := 29) rfl)) rfl
theorem ml_L_67 : Cond.methodLink R_law 67 yX11_step ∈ lw_w := lw_m (lt4 (List.mem_of_getElem? (i := 101) rfl)) rfl
theorem ml_L_70 : Cond.methodLink R_law 70 yX12_step ∈ lw_w := lw_m (lt8 (List.mem_of_getElem? (i := 33) rfl)) rfl
theorem ml_L_71 : Cond.methodLink R_law 71 yX11_judge ∈ lw_w := lw_m (lt4 (List.mem_of_getElem? (i := 110) rfl)) rfl
theorem ml_L_74 : Cond.methodLink R_law 74 yX12_judge ∈ lw_w := lw_m (lt8 (List.mem_of_getElem? (i := 53) rfl)) rfl
theorem ml_L_75 : Cond.methodLink R_law 75 yX11_ends ∈ lw_w := lw_m (lt4 (List.mem_of_getElem? (i := 131) rfl)) rfl
theorem ml_L_78 : Cond.methodLink R_law 78 yX12_ends ∈ lw_w := lw_m (lt8 (List.mem_of_getElem? (i := 74) rfl)) rfl
theorem ml_L_79 : Cond.methodLink R_law 79 yX11_go ∈ lw_w := lw_m (lt4 (List.mem_of_getElem? (i := 135) rfl)) rfl
theorem ml_L_82 : Cond.methodLink R_law 82 yX12_go ∈ lw_w := lw_m (lt8 (List.mem_of_getElem? (i := 86) rfl)) rfl
theorem ml_L_83 : Cond.methodLink R_law 83 yX11_over ∈ lw_w := lw_m (lt4 (List.mem_of_getElem? (i := 168) rfl)) rfl
theorem ml_L_86 : Cond.methodLink R_law 86 yX12_over ∈ lw_w := lw_m (lt8 (List.mem_of_getElem? (i := 118) rfl)) rfl
theorem ml_L_87 : Cond.methodLink R_law 87 yX11_all ∈ lw_w := lw_m (lt4 (List.mem_of_getElem? (i := 207) rfl)) rfl
theorem ml_L_90 : Cond.methodLink R_law 90 yX12_all ∈ lw_w := lw_m (lt8 (List.mem_of_getElem? (i := 150) rfl)) rfl
theorem ml_L_91 : Cond.methodLink R_law 91 yX11_order ∈ lw_w := lw_m (lt4 (List.mem_of_getElem? (i := 211) rfl)) rfl
theorem ml_L_94 : Cond.methodLink R_law 94 yX12_order ∈ lw_w := lw_m (lt8 (List.mem_of_getElem? (i := 154) rfl)) rfl
theorem ml_L_95 : Cond.methodLink R_law 95 yX11_gap ∈ lw_w := lw_m (lt5 (List.mem_of_getElem? (i := 21) rfl)) rfl
theorem ml_L_98 : Cond.methodLink R_law 98 yX12_gap ∈ lw_w := lw_m (lt8 (List.mem_of_getElem? (i := 175) rfl)) rfl
theorem ml_L_99 : Cond.methodLink R_law 99 yX11_home ∈ lw_w := lw_m (lt5 (List.mem_of_getElem? (i := 26) rfl)) rfl
theorem sw51_out {x : Int32} (h0 : ¬ x = (0 : Int32)) (h1 : ¬ x = (1 : Int32)) (h2 : ¬ x = (2 : Int32)) (h3 : ¬ x = (3 : Int32)) (h4 : ¬ x = (4 : Int32)) (h5 : ¬ x = (5 : Int32)) (h6 : ¬ x = (6 : Int32)) (h7 : ¬ x = (7 : Int32)) (h8 : ¬ x = (8 : Int32)) (h9 : ¬ x = (9 : Int32)) (h10 : ¬ x = (10 : Int32)) (h11 : ¬ x = (11 : Int32)) (h12 : ¬ x = (12 : Int32)) (h13 : ¬ x = (13 : Int32)) (h14 : ¬ x = (14 : Int32)) (h15 : ¬ x = (15 : Int32)) (h16 : ¬ x = (16 : Int32)) (h17 : ¬ x = (17 : Int32)) (h18 : ¬ x = (18 : Int32)) (h19 : ¬ x = (19 : Int32)) (h20 : ¬ x = (20 : Int32)) (h21 : ¬ x = (21 : Int32)) (h22 : ¬ x = (22 : Int32)) (h23 : ¬ x = (23 : Int32)) (h24 : ¬ x = (24 : Int32)) (h25 : ¬ x = (25 : Int32)) (h26 : ¬ x = (26 : Int32)) (h27 : ¬ x = (27 : Int32)) (h28 : ¬ x = (28 : Int32)) (h29 : ¬ x = (29 : Int32)) (h30 : ¬ x = (30 : Int32)) (h31 : ¬ x = (31 : Int32)) (h32 : ¬ x = (32 : Int32)) (h33 : ¬ x = (33 : Int32)) (h34 : ¬ x = (34 : Int32)) (h35 : ¬ x = (35 : Int32)) (h36 : ¬ x = (36 : Int32)) (h37 : ¬ x = (37 : Int32)) (h38 : ¬ x = (38 : Int32)) (h39 : ¬ x = (39 : Int32)) (h40 : ¬ x = (40 : Int32)) (h41 : ¬ x = (41 : Int32)) (h42 : ¬ x = (42 : Int32)) (h43 : ¬ x = (43 : Int32)) (h44 : ¬ x = (44 : Int32)) (h45 : ¬ x = (45 : Int32)) (h46 : ¬ x = (46 : Int32)) (h47 : ¬ x = (47 : Int32)) (h48 : ¬ x = (48 : Int32)) (h49 : ¬ x = (49 : Int32)) (h50 : ¬ x = (50 : Int32)) : x.toInt < 0 ∨ 50 < x.toInt := by
  have e : ∀ k : Int32, ¬ x = k → ¬ x.toInt = k.toInt := fun k h z => h (Int32.toInt_inj.mp z)
  have g0 := e _ h0
  rw [show (0 : Int32).toInt = (0 : Int) from by decide] at g0
  have g1 := e _ h1
  rw [show (1 : Int32).toInt = (1 : Int) from by decide] at g1
  have g2 := e _ h2
  rw [show (2 : Int32).toInt = (2 : Int) from by decide] at g2
  have g3 := e _ h3
  rw [show (3 : Int32).toInt = (3 : Int) from by decide] at g3
  have g4 := e _ h4
  rw [show (4 : Int32).toInt = (4 : Int) from by decide] at g4
  have g5 := e _ h5
  rw [show (5 : Int32).toInt = (5 : Int) from by decide] at g5
  have g6 := e _ h6
  rw [show (6 : Int32).toInt = (6 : Int) from by decide] at g6
  have g7 := e _ h7
  rw [show (7 : Int32).toInt = (7 : Int) from by decide] at g7
  have g8 := e _ h8
  rw [show (8 : Int32).toInt = (8 : Int) from by decide] at g8
  have g9 := e _ h9
  rw [show (9 : Int32).toInt = (9 : Int) from by decide] at g9
  have g10 := e _ h10
  rw [show (10 : Int32).toInt = (10 : Int) from by decide] at g10
  have g11 := e _ h11
  rw [show (11 : Int32).toInt = (11 : Int) from by decide] at g11
  have g12 := e _ h12
  rw [show (12 : Int32).toInt = (12 : Int) from by decide] at g12
  have g13 := e _ h13
  rw [show (13 : Int32).toInt = (13 : Int) from by decide] at g13
  have g14 := e _ h14
  rw [show (14 : Int32).toInt = (14 : Int) from by decide] at g14
  have g15 := e _ h15
  rw [show (15 : Int32).toInt = (15 : Int) from by decide] at g15
  have g16 := e _ h16
  rw [show (16 : Int32).toInt = (16 : Int) from by decide] at g16
  have g17 := e _ h17
  rw [show (17 : Int32).toInt = (17 : Int) from by decide] at g17
  have g18 := e _ h18
  rw [show (18 : Int32).toInt = (18 : Int) from by decide] at g18
  have g19 := e _ h19
  rw [show (19 : Int32).toInt = (19 : Int) from by decide] at g19
  have g20 := e _ h20
  rw [show (20 : Int32).toInt = (20 : Int) from by decide] at g20
  have g21 := e _ h21
  rw [show (21 : Int32).toInt = (21 : Int) from by decide] at g21
  have g22 := e _ h22
  rw [show (22 : Int32).toInt = (22 : Int) from by decide] at g22
  have g23 := e _ h23
  rw [show (23 : Int32).toInt = (23 : Int) from by decide] at g23
  have g24 := e _ h24
  rw [show (24 : Int32).toInt = (24 : Int) from by decide] at g24
  have g25 := e _ h25
  rw [show (25 : Int32).toInt = (25 : Int) from by decide] at g25
  have g26 := e _ h26
  rw [show (26 : Int32).toInt = (26 : Int) from by decide] at g26
  have g27 := e _ h27
  rw [show (27 : Int32).toInt = (27 : Int) from by decide] at g27
  have g28 := e _ h28
  rw [show (28 : Int32).toInt = (28 : Int) from by decide] at g28
  have g29 := e _ h29
  rw [show (29 : Int32).toInt = (29 : Int) from by decide] at g29
  have g30 := e _ h30
  rw [show (30 : Int32).toInt = (30 : Int) from by decide] at g30
  have g31 := e _ h31
  rw [show (31 : Int32).toInt = (31 : Int) from by decide] at g31
  have g32 := e _ h32
  rw [show (32 : Int32).toInt = (32 : Int) from by decide] at g32
  have g33 := e _ h33
  rw [show (33 : Int32).toInt = (33 : Int) from by decide] at g33
  have g34 := e _ h34
  rw [show (34 : Int32).toInt = (34 : Int) from by decide] at g34
  have g35 := e _ h35
  rw [show (35 : Int32).toInt = (35 : Int) from by decide] at g35
  have g36 := e _ h36
  rw [show (36 : Int32).toInt = (36 : Int) from by decide] at g36
  have g37 := e _ h37
  rw [show (37 : Int32).toInt = (37 : Int) from by decide] at g37
  have g38 := e _ h38
  rw [show (38 : Int32).toInt = (38 : Int) from by decide] at g38
  have g39 := e _ h39
  rw [show (39 : Int32).toInt = (39 : Int) from by decide] at g39
  have g40 := e _ h40
  rw [show (40 : Int32).toInt = (40 : Int) from by decide] at g40
  have g41 := e _ h41
  rw [show (41 : Int32).toInt = (41 : Int) from by decide] at g41
  have g42 := e _ h42
  rw [show (42 : Int32).toInt = (42 : Int) from by decide] at g42
  have g43 := e _ h43
  rw [show (43 : Int32).toInt = (43 : Int) from by decide] at g43
  have g44 := e _ h44
  rw [show (44 : Int32).toInt = (44 : Int) from by decide] at g44
  have g45 := e _ h45
  rw [show (45 : Int32).toInt = (45 : Int) from by decide] at g45
  have g46 := e _ h46
  rw [show (46 : Int32).toInt = (46 : Int) from by decide] at g46
  have g47 := e _ h47
  rw [show (47 : Int32).toInt = (47 : Int) from by decide] at g47
  have g48 := e _ h48
  rw [show (48 : Int32).toInt = (48 : Int) from by decide] at g48
  have g49 := e _ h49
  rw [show (49 : Int32).toInt = (49 : Int) from by decide] at g49
  have g50 := e _ h50
  rw [show (50 : Int32).toInt = (50 : Int) from by decide] at g50
  omega
def fnL_law_J2013 (sx : Nat → Int32) (Ln : Nat) (k18 : Nat → Nat → Int32 → sm_M Bool) (v1 : Nat) (v2 : Nat) (v3 : Int32) : sm_M Bool := k18 v1 v2 (v3 + (6 : Int32))
set_option maxHeartbeats 4000000 in
set_option maxRecDepth 100000 in
theorem slL_law_J2013 {κ : sm_X} (C : sm_C κ R_law cL_law 4 16) {sx : Nat → Int32} {Ln b : Nat} (HX : va_X b Ln sx (xs κ) (xs κ).heap) (Hb : b < (xs κ).heap.size) (HbA : ¬ sm_A (xo κ) b) {k18 : Nat → Nat → Int32 → sm_M Bool} (K18 : ∀ (v1 : Nat) (v2 : Nat) (v3 : Int32) (hv1 : kd v1 = 11) (hv2 : kd v2 = 12), sm_S κ (fun r : Bool => .inr (some (.int (bI r)))) (.inl (18, [some (.ref b), some (xad κ v1), some (xad κ v2), some (.int v3)], [])) (k18 v1 v2 v3)) (v1 : Nat) (v2 : Nat) (v3 : Int32) (hv1 : kd v1 = 11) (hv2 : kd v2 = 12) : sm_S κ (fun r : Bool => .inr (some (.int (bI r)))) (.inl (2013, [some (.ref b), some (xad κ v1), some (xad κ v2), some (.int v3)], [])) (fnL_law_J2013 sx Ln k18 v1 v2 v3) := by
  unfold fnL_law_J2013
  refine sr_iinc (v := v3 + (6 : Int32)) (L' := [some (.ref b), some (xad κ v1), some (xad κ v2), some (.int (v3 + (6 : Int32)))]) (q := 2016) C (show decode cL_law 2013 = .ok (.iinc 3 6, 3) from by decide +kernel) rfl rfl (by decide) rfl rfl ?_
  refine sr_goto (q := 18) C (show decode cL_law 2016 = .ok (.goto (-1998), 3) from by decide +kernel) (by decide) ?_
  exact K18 v1 v2 (v3 + (6 : Int32)) hv1 hv2
def fnL_law_J252 (sx : Nat → Int32) (Ln : Nat) (k18 : Nat → Nat → Int32 → sm_M Bool) (v1 : Nat) (v2 : Nat) (v3 : Int32) : sm_M Bool := m_gd (¬ ((v3 + (1 : Int32)) < 0 ∨ Ln ≤ (v3 + (1 : Int32)).toNatClampNeg)) <| m_gd (¬ ((v3 + (2 : Int32)) < 0 ∨ Ln ≤ (v3 + (2 : Int32)).toNatClampNeg)) <| m_gd (¬ ((v3 + (3 : Int32)) < 0 ∨ Ln ≤ (v3 + (3 : Int32)).toNatClampNeg)) <| m_gd (¬ ((v3 + (4 : Int32)) < 0 ∨ Ln ≤ (v3 + (4 : Int32)).toNatClampNeg)) <| m_gd (¬ ((v3 + (5 : Int32)) < 0 ∨ Ln ≤ (v3 + (5 : Int32)).toNatClampNeg)) <| m_bnd (fnX11_feed v1 (sx (v3 + (1 : Int32)).toNatClampNeg) (sx (v3 + (2 : Int32)).toNatClampNeg) (sx (v3 + (3 : Int32)).toNatClampNeg) (sx (v3 + (4 : Int32)).toNatClampNeg) (sx (v3 + (5 : Int32)).toNatClampNeg)) fun x278 => m_gd (¬ ((v3 + (1 : Int32)) < 0 ∨ Ln ≤ (v3 + (1 : Int32)).toNatClampNeg)) <| m_gd (¬ ((v3 + (2 : Int32)) < 0 ∨ Ln ≤ (v3 + (2 : Int32)).toNatClampNeg)) <| m_gd (¬ ((v3 + (3 : Int32)) < 0 ∨ Ln ≤ (v3 + (3 : Int32)).toNatClampNeg)) <| m_gd (¬ ((v3 + (4 : Int32)) < 0 ∨ Ln ≤ (v3 + (4 : Int32)).toNatClampNeg)) <| m_gd (¬ ((v3 + (5 : Int32)) < 0 ∨ Ln ≤ (v3 + (5 : Int32)).toNatClampNeg)) <| m_bnd (fnX12_feed v2 (sx (v3 + (1 : Int32)).toNatClampNeg) (sx (v3 + (2 : Int32)).toNatClampNeg) (sx (v3 + (3 : Int32)).toNatClampNeg) (sx (v3 + (4 : Int32)).toNatClampNeg) (sx (v3 + (5 : Int32)).toNatClampNeg)) fun x307 => m_br (x278 = x307)
    (fnL_law_J2013 sx Ln k18 v1 v2 v3)
    (m_ret false)
set_option maxHeartbeats 4000000 in
set_option maxRecDepth 100000 in
theorem slL_law_J252 {κ : sm_X} (C : sm_C κ R_law cL_law 4 16) {sx : Nat → Int32} {Ln b : Nat} (HX : va_X b Ln sx (xs κ) (xs κ).heap) (Hb : b < (xs κ).heap.size) (HbA : ¬ sm_A (xo κ) b) {k18 : Nat → Nat → Int32 → sm_M Bool} (K18 : ∀ (v1 : Nat) (v2 : Nat) (v3 : Int32) (hv1 : kd v1 = 11) (hv2 : kd v2 = 12), sm_S κ (fun r : Bool => .inr (some (.int (bI r)))) (.inl (18, [some (.ref b), some (xad κ v1), some (xad κ v2), some (.int v3)], [])) (k18 v1 v2 v3)) (v1 : Nat) (v2 : Nat) (v3 : Int32) (hv1 : kd v1 = 11) (hv2 : kd v2 = 12) : sm_S κ (fun r : Bool => .inr (some (.int (bI r)))) (.inl (252, [some (.ref b), some (xad κ v1), some (xad κ v2), some (.int v3)], [])) (fnL_law_J252 sx Ln k18 v1 v2 v3) := by
  unfold fnL_law_J252
  refine sr_aload_n (i := 1) (q := 253) C (show decode cL_law 252 = .ok (.aload_n 1, 1) from by decide +kernel) rfl rfl rfl ?_
  refine sr_aload_n (i := 0) (q := 254) C (show decode cL_law 253 = .ok (.aload_n 0, 1) from by decide +kernel) rfl rfl rfl ?_
  refine sr_iload_n (i := 3) (q := 255) C (show decode cL_law 254 = .ok (.iload_n 3, 1) from by decide +kernel) rfl rfl rfl ?_
  refine sr_iconst (v := (1 : Int32)) (q := 256) C (show decode cL_law 255 = .ok (.iconst 1, 1) from by decide +kernel) (by decide) rfl ?_
  refine sr_iadd (q := 257) C (show decode cL_law 256 = .ok (.iadd, 1) from by decide +kernel) rfl ?_
  refine sr_sld (q := 258) C HX Hb HbA (show decode cL_law 257 = .ok (.iaload, 1) from by decide +kernel) rfl ?_
  refine sr_aload_n (i := 0) (q := 259) C (show decode cL_law 258 = .ok (.aload_n 0, 1) from by decide +kernel) rfl rfl rfl ?_
  refine sr_iload_n (i := 3) (q := 260) C (show decode cL_law 259 = .ok (.iload_n 3, 1) from by decide +kernel) rfl rfl rfl ?_
  refine sr_iconst (v := (2 : Int32)) (q := 261) C (show decode cL_law 260 = .ok (.iconst 2, 1) from by decide +kernel) (by decide) rfl ?_
  refine sr_iadd (q := 262) C (show decode cL_law 261 = .ok (.iadd, 1) from by decide +kernel) rfl ?_
  refine sr_sld (q := 263) C HX Hb HbA (show decode cL_law 262 = .ok (.iaload, 1) from by decide +kernel) rfl ?_
  refine sr_aload_n (i := 0) (q := 264) C (show decode cL_law 263 = .ok (.aload_n 0, 1) from by decide +kernel) rfl rfl rfl ?_
  refine sr_iload_n (i := 3) (q := 265) C (show decode cL_law 264 = .ok (.iload_n 3, 1) from by decide +kernel) rfl rfl rfl ?_
  refine sr_iconst (v := (3 : Int32)) (q := 266) C (show decode cL_law 265 = .ok (.iconst 3, 1) from by decide +kernel) (by decide) rfl ?_
  refine sr_iadd (q := 267) C (show decode cL_law 266 = .ok (.iadd, 1) from by decide +kernel) rfl ?_
  refine sr_sld (q := 268) C HX Hb HbA (show decode cL_law 267 = .ok (.iaload, 1) from by decide +kernel) rfl ?_
  refine sr_aload_n (i := 0) (q := 269) C (show decode cL_law 268 = .ok (.aload_n 0, 1) from by decide +kernel) rfl rfl rfl ?_
  refine sr_iload_n (i := 3) (q := 270) C (show decode cL_law 269 = .ok (.iload_n 3, 1) from by decide +kernel) rfl rfl rfl ?_
  refine sr_iconst (v := (4 : Int32)) (q := 271) C (show decode cL_law 270 = .ok (.iconst 4, 1) from by decide +kernel) (by decide) rfl ?_
  refine sr_iadd (q := 272) C (show decode cL_law 271 = .ok (.iadd, 1) from by decide +kernel) rfl ?_
  refine sr_sld (q := 273) C HX Hb HbA (show decode cL_law 272 = .ok (.iaload, 1) from by decide +kernel) rfl ?_
  refine sr_aload_n (i := 0) (q := 274) C (show decode cL_law 273 = .ok (.aload_n 0, 1) from by decide +kernel) rfl rfl rfl ?_
  refine sr_iload_n (i := 3) (q := 275) C (show decode cL_law 274 = .ok (.iload_n 3, 1) from by decide +kernel) rfl rfl rfl ?_
  refine sr_iconst (v := (5 : Int32)) (q := 276) C (show decode cL_law 275 = .ok (.iconst 5, 1) from by decide +kernel) (by decide) rfl ?_
  refine sr_iadd (q := 277) C (show decode cL_law 276 = .ok (.iadd, 1) from by decide +kernel) rfl ?_
  refine sr_sld (q := 278) C HX Hb HbA (show decode cL_law 277 = .ok (.iaload, 1) from by decide +kernel) rfl ?_
  refine sr_cVi (As := [.int (sx (v3 + (1 : Int32)).toNatClampNeg), .int (sx (v3 + (2 : Int32)).toNatClampNeg), .int (sx (v3 + (3 : Int32)).toNatClampNeg), .int (sx (v3 + (4 : Int32)).toNatClampNeg), .int (sx (v3 + (5 : Int32)).toNatClampNeg)]) (st := []) (b := v1) (q := 281) C yvX11_feed ml_L_13 (cnX11_feed (xo κ) v1 (sx (v3 + (1 : Int32)).toNatClampNeg) (sx (v3 + (2 : Int32)).toNatClampNeg) (sx (v3 + (3 : Int32)).toNatClampNeg) (sx (v3 + (4 : Int32)).toNatClampNeg) (sx (v3 + (5 : Int32)).toNatClampNeg) hv1) hv1 (by decide) rfl rfl rfl (by decide) (by decide) (Nat.le_of_ble_eq_true rfl) rfl (show decode cL_law 278 = .ok (.invokevirtual 13, 3) from by decide +kernel) rfl (fun x278 => ?_)
  refine sr_aload_n (i := 2) (q := 282) C (show decode cL_law 281 = .ok (.aload_n 2, 1) from by decide +kernel) rfl rfl rfl ?_
  refine sr_aload_n (i := 0) (q := 283) C (show decode cL_law 282 = .ok (.aload_n 0, 1) from by decide +kernel) rfl rfl rfl ?_
  refine sr_iload_n (i := 3) (q := 284) C (show decode cL_law 283 = .ok (.iload_n 3, 1) from by decide +kernel) rfl rfl rfl ?_
  refine sr_iconst (v := (1 : Int32)) (q := 285) C (show decode cL_law 284 = .ok (.iconst 1, 1) from by decide +kernel) (by decide) rfl ?_
  refine sr_iadd (q := 286) C (show decode cL_law 285 = .ok (.iadd, 1) from by decide +kernel) rfl ?_
  refine sr_sld (q := 287) C HX Hb HbA (show decode cL_law 286 = .ok (.iaload, 1) from by decide +kernel) rfl ?_
  refine sr_aload_n (i := 0) (q := 288) C (show decode cL_law 287 = .ok (.aload_n 0, 1) from by decide +kernel) rfl rfl rfl ?_
  refine sr_iload_n (i := 3) (q := 289) C (show decode cL_law 288 = .ok (.iload_n 3, 1) from by decide +kernel) rfl rfl rfl ?_
  refine sr_iconst (v := (2 : Int32)) (q := 290) C (show decode cL_law 289 = .ok (.iconst 2, 1) from by decide +kernel) (by decide) rfl ?_
  refine sr_iadd (q := 291) C (show decode cL_law 290 = .ok (.iadd, 1) from by decide +kernel) rfl ?_
  refine sr_sld (q := 292) C HX Hb HbA (show decode cL_law 291 = .ok (.iaload, 1) from by decide +kernel) rfl ?_
  refine sr_aload_n (i := 0) (q := 293) C (show decode cL_law 292 = .ok (.aload_n 0, 1) from by decide +kernel) rfl rfl rfl ?_
  refine sr_iload_n (i := 3) (q := 294) C (show decode cL_law 293 = .ok (.iload_n 3, 1) from by decide +kernel) rfl rfl rfl ?_
  refine sr_iconst (v := (3 : Int32)) (q := 295) C (show decode cL_law 294 = .ok (.iconst 3, 1) from by decide +kernel) (by decide) rfl ?_
  refine sr_iadd (q := 296) C (show decode cL_law 295 = .ok (.iadd, 1) from by decide +kernel) rfl ?_
  refine sr_sld (q := 297) C HX Hb HbA (show decode cL_law 296 = .ok (.iaload, 1) from by decide +kernel) rfl ?_
  refine sr_aload_n (i := 0) (q := 298) C (show decode cL_law 297 = .ok (.aload_n 0, 1) from by decide +kernel) rfl rfl rfl ?_
  refine sr_iload_n (i := 3) (q := 299) C (show decode cL_law 298 = .ok (.iload_n 3, 1) from by decide +kernel) rfl rfl rfl ?_
  refine sr_iconst (v := (4 : Int32)) (q := 300) C (show decode cL_law 299 = .ok (.iconst 4, 1) from by decide +kernel) (by decide) rfl ?_
  refine sr_iadd (q := 301) C (show decode cL_law 300 = .ok (.iadd, 1) from by decide +kernel) rfl ?_
  refine sr_sld (q := 302) C HX Hb HbA (show decode cL_law 301 = .ok (.iaload, 1) from by decide +kernel) rfl ?_
  refine sr_aload_n (i := 0) (q := 303) C (show decode cL_law 302 = .ok (.aload_n 0, 1) from by decide +kernel) rfl rfl rfl ?_
  refine sr_iload_n (i := 3) (q := 304) C (show decode cL_law 303 = .ok (.iload_n 3, 1) from by decide +kernel) rfl rfl rfl ?_
  refine sr_iconst (v := (5 : Int32)) (q := 305) C (show decode cL_law 304 = .ok (.iconst 5, 1) from by decide +kernel) (by decide) rfl ?_
  refine sr_iadd (q := 306) C (show decode cL_law 305 = .ok (.iadd, 1) from by decide +kernel) rfl ?_
  refine sr_sld (q := 307) C HX Hb HbA (show decode cL_law 306 = .ok (.iaload, 1) from by decide +kernel) rfl ?_
  refine sr_cVi (As := [.int (sx (v3 + (1 : Int32)).toNatClampNeg), .int (sx (v3 + (2 : Int32)).toNatClampNeg), .int (sx (v3 + (3 : Int32)).toNatClampNeg), .int (sx (v3 + (4 : Int32)).toNatClampNeg), .int (sx (v3 + (5 : Int32)).toNatClampNeg)]) (st := [.int x278]) (b := v2) (q := 310) C yvX12_feed ml_L_17 (cnX12_feed (xo κ) v2 (sx (v3 + (1 : Int32)).toNatClampNeg) (sx (v3 + (2 : Int32)).toNatClampNeg) (sx (v3 + (3 : Int32)).toNatClampNeg) (sx (v3 + (4 : Int32)).toNatClampNeg) (sx (v3 + (5 : Int32)).toNatClampNeg) hv2) hv2 (by decide) rfl rfl rfl (by decide) (by decide) (Nat.le_of_ble_eq_true rfl) rfl (show decode cL_law 307 = .ok (.invokevirtual 17, 3) from by decide +kernel) rfl (fun x307 => ?_)
  refine sr_icmp_eq (q := 313) C 2013 (show decode cL_law 310 = .ok (.if_icmp .eq 1703, 3) from by decide +kernel) (by decide) rfl ?_ ?_
  · exact slL_law_J2013 C HX Hb HbA K18 v1 v2 v3 hv1 hv2
  · refine sr_iconst (v := (0 : Int32)) (q := 314) C (show decode cL_law 313 = .ok (.iconst 0, 1) from by decide +kernel) (by decide) rfl ?_
    exact sr_ireturn C false rfl (show decode cL_law 314 = .ok (.ireturn, 1) from by decide +kernel)
def fnL_law_J315 (sx : Nat → Int32) (Ln : Nat) (k18 : Nat → Nat → Int32 → sm_M Bool) (v1 : Nat) (v2 : Nat) (v3 : Int32) : sm_M Bool := m_gd (¬ ((v3 + (1 : Int32)) < 0 ∨ Ln ≤ (v3 + (1 : Int32)).toNatClampNeg)) <| m_bnd (fnX11_end v1 (sx (v3 + (1 : Int32)).toNatClampNeg)) fun x321 => m_gd (¬ ((v3 + (1 : Int32)) < 0 ∨ Ln ≤ (v3 + (1 : Int32)).toNatClampNeg)) <| m_bnd (fnX12_end v2 (sx (v3 + (1 : Int32)).toNatClampNeg)) fun x330 => m_br (x321 = x330)
    (fnL_law_J2013 sx Ln k18 v1 v2 v3)
    (m_ret false)
set_option maxHeartbeats 4000000 in
set_option maxRecDepth 100000 in
theorem slL_law_J315 {κ : sm_X} (C : sm_C κ R_law cL_law 4 16) {sx : Nat → Int32} {Ln b : Nat} (HX : va_X b Ln sx (xs κ) (xs κ).heap) (Hb : b < (xs κ).heap.size) (HbA : ¬ sm_A (xo κ) b) {k18 : Nat → Nat → Int32 → sm_M Bool} (K18 : ∀ (v1 : Nat) (v2 : Nat) (v3 : Int32) (hv1 : kd v1 = 11) (hv2 : kd v2 = 12), sm_S κ (fun r : Bool => .inr (some (.int (bI r)))) (.inl (18, [some (.ref b), some (xad κ v1), some (xad κ v2), some (.int v3)], [])) (k18 v1 v2 v3)) (v1 : Nat) (v2 : Nat) (v3 : Int32) (hv1 : kd v1 = 11) (hv2 : kd v2 = 12) : sm_S κ (fun r : Bool => .inr (some (.int (bI r)))) (.inl (315, [some (.ref b), some (xad κ v1), some (xad κ v2), some (.int v3)], [])) (fnL_law_J315 sx Ln k18 v1 v2 v3) := by
  unfold fnL_law_J315
  refine sr_aload_n (i := 1) (q := 316) C (show decode cL_law 315 = .ok (.aload_n 1, 1) from by decide +kernel) rfl rfl rfl ?_
  refine sr_aload_n (i := 0) (q := 317) C (show decode cL_law 316 = .ok (.aload_n 0, 1) from by decide +kernel) rfl rfl rfl ?_
  refine sr_iload_n (i := 3) (q := 318) C (show decode cL_law 317 = .ok (.iload_n 3, 1) from by decide +kernel) rfl rfl rfl ?_
  refine sr_iconst (v := (1 : Int32)) (q := 319) C (show decode cL_law 318 = .ok (.iconst 1, 1) from by decide +kernel) (by decide) rfl ?_
  refine sr_iadd (q := 320) C (show decode cL_law 319 = .ok (.iadd, 1) from by decide +kernel) rfl ?_
  refine sr_sld (q := 321) C HX Hb HbA (show decode cL_law 320 = .ok (.iaload, 1) from by decide +kernel) rfl ?_
  refine sr_cVi (As := [.int (sx (v3 + (1 : Int32)).toNatClampNeg)]) (st := []) (b := v1) (q := 324) C yvX11_end ml_L_18 (cnX11_end (xo κ) v1 (sx (v3 + (1 : Int32)).toNatClampNeg) hv1) hv1 (by decide) rfl rfl rfl (by decide) (by decide) (Nat.le_of_ble_eq_true rfl) rfl (show decode cL_law 321 = .ok (.invokevirtual 18, 3) from by decide +kernel) rfl (fun x321 => ?_)
  refine sr_aload_n (i := 2) (q := 325) C (show decode cL_law 324 = .ok (.aload_n 2, 1) from by decide +kernel) rfl rfl rfl ?_
  refine sr_aload_n (i := 0) (q := 326) C (show decode cL_law 325 = .ok (.aload_n 0, 1) from by decide +kernel) rfl rfl rfl ?_
  refine sr_iload_n (i := 3) (q := 327) C (show decode cL_law 326 = .ok (.iload_n 3, 1) from by decide +kernel) rfl rfl rfl ?_
  refine sr_iconst (v := (1 : Int32)) (q := 328) C (show decode cL_law 327 = .ok (.iconst 1, 1) from by decide +kernel) (by decide) rfl ?_
  refine sr_iadd (q := 329) C (show decode cL_law 328 = .ok (.iadd, 1) from by decide +kernel) rfl ?_
  refine sr_sld (q := 330) C HX Hb HbA (show decode cL_law 329 = .ok (.iaload, 1) from by decide +kernel) rfl ?_
  refine sr_cVi (As := [.int (sx (v3 + (1 : Int32)).toNatClampNeg)]) (st := [.int x321]) (b := v2) (q := 333) C yvX12_end ml_L_22 (cnX12_end (xo κ) v2 (sx (v3 + (1 : Int32)).toNatClampNeg) hv2) hv2 (by decide) rfl rfl rfl (by decide) (by decide) (Nat.le_of_ble_eq_true rfl) rfl (show decode cL_law 330 = .ok (.invokevirtual 22, 3) from by decide +kernel) rfl (fun x330 => ?_)
  refine sr_icmp_eq (q := 336) C 2013 (show decode cL_law 333 = .ok (.if_icmp .eq 1680, 3) from by decide +kernel) (by decide) rfl ?_ ?_
  · exact slL_law_J2013 C HX Hb HbA K18 v1 v2 v3 hv1 hv2
  · refine sr_iconst (v := (0 : Int32)) (q := 337) C (show decode cL_law 336 = .ok (.iconst 0, 1) from by decide +kernel) (by decide) rfl ?_
    exact sr_ireturn C false rfl (show decode cL_law 337 = .ok (.ireturn, 1) from by decide +kernel)
def fnL_law_J338 (sx : Nat → Int32) (Ln : Nat) (k18 : Nat → Nat → Int32 → sm_M Bool) (v1 : Nat) (v2 : Nat) (v3 : Int32) : sm_M Bool := m_bnd (fnX11_river v1) fun x339 => m_bnd (fnX12_river v2) fun x343 => m_br (x339 = x343)
    (fnL_law_J2013 sx Ln k18 v1 v2 v3)
    (m_ret false)
set_option maxHeartbeats 4000000 in
set_option maxRecDepth 100000 in
theorem slL_law_J338 {κ : sm_X} (C : sm_C κ R_law cL_law 4 16) {sx : Nat → Int32} {Ln b : Nat} (HX : va_X b Ln sx (xs κ) (xs κ).heap) (Hb : b < (xs κ).heap.size) (HbA : ¬ sm_A (xo κ) b) {k18 : Nat → Nat → Int32 → sm_M Bool} (K18 : ∀ (v1 : Nat) (v2 : Nat) (v3 : Int32) (hv1 : kd v1 = 11) (hv2 : kd v2 = 12), sm_S κ (fun r : Bool => .inr (some (.int (bI r)))) (.inl (18, [some (.ref b), some (xad κ v1), some (xad κ v2), some (.int v3)], [])) (k18 v1 v2 v3)) (v1 : Nat) (v2 : Nat) (v3 : Int32) (hv1 : kd v1 = 11) (hv2 : kd v2 = 12) : sm_S κ (fun r : Bool => .inr (some (.int (bI r)))) (.inl (338, [some (.ref b), some (xad κ v1), some (xad κ v2), some (.int v3)], [])) (fnL_law_J338 sx Ln k18 v1 v2 v3) := by
  unfold fnL_law_J338
  refine sr_aload_n (i := 1) (q := 339) C (show decode cL_law 338 = .ok (.aload_n 1, 1) from by decide +kernel) rfl rfl rfl ?_
  refine sr_cVi (As := []) (st := []) (b := v1) (q := 342) C yvX11_river ml_L_23 (cnX11_river (xo κ) v1 hv1) hv1 (by decide) rfl rfl rfl (by decide) (by decide) (Nat.le_of_ble_eq_true rfl) rfl (show decode cL_law 339 = .ok (.invokevirtual 23, 3) from by decide +kernel) rfl (fun x339 => ?_)
  refine sr_aload_n (i := 2) (q := 343) C (show decode cL_law 342 = .ok (.aload_n 2, 1) from by decide +kernel) rfl rfl rfl ?_
  refine sr_cVi (As := []) (st := [.int x339]) (b := v2) (q := 346) C yvX12_river ml_L_27 (cnX12_river (xo κ) v2 hv2) hv2 (by decide) rfl rfl rfl (by decide) (by decide) (Nat.le_of_ble_eq_true rfl) rfl (show decode cL_law 343 = .ok (.invokevirtual 27, 3) from by decide +kernel) rfl (fun x343 => ?_)
  refine sr_icmp_eq (q := 349) C 2013 (show decode cL_law 346 = .ok (.if_icmp .eq 1667, 3) from by decide +kernel) (by decide) rfl ?_ ?_
  · exact slL_law_J2013 C HX Hb HbA K18 v1 v2 v3 hv1 hv2
  · refine sr_iconst (v := (0 : Int32)) (q := 350) C (show decode cL_law 349 = .ok (.iconst 0, 1) from by decide +kernel) (by decide) rfl ?_
    exact sr_ireturn C false rfl (show decode cL_law 350 = .ok (.ireturn, 1) from by decide +kernel)
def fnL_law_J351 (sx : Nat → Int32) (Ln : Nat) (k18 : Nat → Nat → Int32 → sm_M Bool) (v1 : Nat) (v2 : Nat) (v3 : Int32) : sm_M Bool := m_gd (¬ ((v3 + (1 : Int32)) < 0 ∨ Ln ≤ (v3 + (1 : Int32)).toNatClampNeg)) <| m_bnd (fnX11_fault v1 (sx (v3 + (1 : Int32)).toNatClampNeg)) fun x357 => m_gd (¬ ((v3 + (1 : Int32)) < 0 ∨ Ln ≤ (v3 + (1 : Int32)).toNatClampNeg)) <| m_bnd (fnX12_fault v2 (sx (v3 + (1 : Int32)).toNatClampNeg)) fun x366 => m_br (x357 = x366)
    (fnL_law_J2013 sx Ln k18 v1 v2 v3)
    (m_ret false)
set_option maxHeartbeats 4000000 in
set_option maxRecDepth 100000 in
theorem slL_law_J351 {κ : sm_X} (C : sm_C κ R_law cL_law 4 16) {sx : Nat → Int32} {Ln b : Nat} (HX : va_X b Ln sx (xs κ) (xs κ).heap) (Hb : b < (xs κ).heap.size) (HbA : ¬ sm_A (xo κ) b) {k18 : Nat → Nat → Int32 → sm_M Bool} (K18 : ∀ (v1 : Nat) (v2 : Nat) (v3 : Int32) (hv1 : kd v1 = 11) (hv2 : kd v2 = 12), sm_S κ (fun r : Bool => .inr (some (.int (bI r)))) (.inl (18, [some (.ref b), some (xad κ v1), some (xad κ v2), some (.int v3)], [])) (k18 v1 v2 v3)) (v1 : Nat) (v2 : Nat) (v3 : Int32) (hv1 : kd v1 = 11) (hv2 : kd v2 = 12) : sm_S κ (fun r : Bool => .inr (some (.int (bI r)))) (.inl (351, [some (.ref b), some (xad κ v1), some (xad κ v2), some (.int v3)], [])) (fnL_law_J351 sx Ln k18 v1 v2 v3) := by
  unfold fnL_law_J351
  refine sr_aload_n (i := 1) (q := 352) C (show decode cL_law 351 = .ok (.aload_n 1, 1) from by decide +kernel) rfl rfl rfl ?_
  refine sr_aload_n (i := 0) (q := 353) C (show decode cL_law 352 = .ok (.aload_n 0, 1) from by decide +kernel) rfl rfl rfl ?_
  refine sr_iload_n (i := 3) (q := 354) C (show decode cL_law 353 = .ok (.iload_n 3, 1) from by decide +kernel) rfl rfl rfl ?_
  refine sr_iconst (v := (1 : Int32)) (q := 355) C (show decode cL_law 354 = .ok (.iconst 1, 1) from by decide +kernel) (by decide) rfl ?_
  refine sr_iadd (q := 356) C (show decode cL_law 355 = .ok (.iadd, 1) from by decide +kernel) rfl ?_
  refine sr_sld (q := 357) C HX Hb HbA (show decode cL_law 356 = .ok (.iaload, 1) from by decide +kernel) rfl ?_
  refine sr_cVi (As := [.int (sx (v3 + (1 : Int32)).toNatClampNeg)]) (st := []) (b := v1) (q := 360) C yvX11_fault ml_L_28 (cnX11_fault (xo κ) v1 (sx (v3 + (1 : Int32)).toNatClampNeg) hv1) hv1 (by decide) rfl rfl rfl (by decide) (by decide) (Nat.le_of_ble_eq_true rfl) rfl (show decode cL_law 357 = .ok (.invokevirtual 28, 3) from by decide +kernel) rfl (fun x357 => ?_)
  refine sr_aload_n (i := 2) (q := 361) C (show decode cL_law 360 = .ok (.aload_n 2, 1) from by decide +kernel) rfl rfl rfl ?_
  refine sr_aload_n (i := 0) (q := 362) C (show decode cL_law 361 = .ok (.aload_n 0, 1) from by decide +kernel) rfl rfl rfl ?_
  refine sr_iload_n (i := 3) (q := 363) C (show decode cL_law 362 = .ok (.iload_n 3, 1) from by decide +kernel) rfl rfl rfl ?_
  refine sr_iconst (v := (1 : Int32)) (q := 364) C (show decode cL_law 363 = .ok (.iconst 1, 1) from by decide +kernel) (by decide) rfl ?_
  refine sr_iadd (q := 365) C (show decode cL_law 364 = .ok (.iadd, 1) from by decide +kernel) rfl ?_
  refine sr_sld (q := 366) C HX Hb HbA (show decode cL_law 365 = .ok (.iaload, 1) from by decide +kernel) rfl ?_
  refine sr_cVi (As := [.int (sx (v3 + (1 : Int32)).toNatClampNeg)]) (st := [.int x357]) (b := v2) (q := 369) C yvX12_fault ml_L_31 (cnX12_fault (xo κ) v2 (sx (v3 + (1 : Int32)).toNatClampNeg) hv2) hv2 (by decide) rfl rfl rfl (by decide) (by decide) (Nat.le_of_ble_eq_true rfl) rfl (show decode cL_law 366 = .ok (.invokevirtual 31, 3) from by decide +kernel) rfl (fun x366 => ?_)
  refine sr_icmp_eq (q := 372) C 2013 (show decode cL_law 369 = .ok (.if_icmp .eq 1644, 3) from by decide +kernel) (by decide) rfl ?_ ?_
  · exact slL_law_J2013 C HX Hb HbA K18 v1 v2 v3 hv1 hv2
  · refine sr_iconst (v := (0 : Int32)) (q := 373) C (show decode cL_law 372 = .ok (.iconst 0, 1) from by decide +kernel) (by decide) rfl ?_
    exact sr_ireturn C false rfl (show decode cL_law 373 = .ok (.ireturn, 1) from by decide +kernel)
def fnL_law_J374 (sx : Nat → Int32) (Ln : Nat) (k18 : Nat → Nat → Int32 → sm_M Bool) (v1 : Nat) (v2 : Nat) (v3 : Int32) : sm_M Bool := m_gd (¬ ((v3 + (1 : Int32)) < 0 ∨ Ln ≤ (v3 + (1 : Int32)).toNatClampNeg)) <| m_gd (¬ ((v3 + (2 : Int32)) < 0 ∨ Ln ≤ (v3 + (2 : Int32)).toNatClampNeg)) <| m_bnd (fnX11_stone v1 (sx (v3 + (1 : Int32)).toNatClampNeg) (sx (v3 + (2 : Int32)).toNatClampNeg)) fun x385 => m_gd (¬ ((v3 + (1 : Int32)) < 0 ∨ Ln ≤ (v3 + (1 : Int32)).toNatClampNeg)) <| m_gd (¬ ((v3 + (2 : Int32)) < 0 ∨ Ln ≤ (v3 + (2 : Int32)).toNatClampNeg)) <| m_bnd (fnX12_stone v2 (sx (v3 + (1 : Int32)).toNatClampNeg) (sx (v3 + (2 : Int32)).toNatClampNeg)) fun x399 => m_br (x385 = x399)
    (fnL_law_J2013 sx Ln k18 v1 v2 v3)
    (m_ret false)
set_option maxHeartbeats 4000000 in
set_option maxRecDepth 100000 in
theorem slL_law_J374 {κ : sm_X} (C : sm_C κ R_law cL_law 4 16) {sx : Nat → Int32} {Ln b : Nat} (HX : va_X b Ln sx (xs κ) (xs κ).heap) (Hb : b < (xs κ).heap.size) (HbA : ¬ sm_A (xo κ) b) {k18 : Nat → Nat → Int32 → sm_M Bool} (K18 : ∀ (v1 : Nat) (v2 : Nat) (v3 : Int32) (hv1 : kd v1 = 11) (hv2 : kd v2 = 12), sm_S κ (fun r : Bool => .inr (some (.int (bI r)))) (.inl (18, [some (.ref b), some (xad κ v1), some (xad κ v2), some (.int v3)], [])) (k18 v1 v2 v3)) (v1 : Nat) (v2 : Nat) (v3 : Int32) (hv1 : kd v1 = 11) (hv2 : kd v2 = 12) : sm_S κ (fun r : Bool => .inr (some (.int (bI r)))) (.inl (374, [some (.ref b), some (xad κ v1), some (xad κ v2), some (.int v3)], [])) (fnL_law_J374 sx Ln k18 v1 v2 v3) := by
  unfold fnL_law_J374
  refine sr_aload_n (i := 1) (q := 375) C (show decode cL_law 374 = .ok (.aload_n 1, 1) from by decide +kernel) rfl rfl rfl ?_
  refine sr_aload_n (i := 0) (q := 376) C (show decode cL_law 375 = .ok (.aload_n 0, 1) from by decide +kernel) rfl rfl rfl ?_
  refine sr_iload_n (i := 3) (q := 377) C (show decode cL_law 376 = .ok (.iload_n 3, 1) from by decide +kernel) rfl rfl rfl ?_
  refine sr_iconst (v := (1 : Int32)) (q := 378) C (show decode cL_law 377 = .ok (.iconst 1, 1) from by decide +kernel) (by decide) rfl ?_
  refine sr_iadd (q := 379) C (show decode cL_law 378 = .ok (.iadd, 1) from by decide +kernel) rfl ?_
  refine sr_sld (q := 380) C HX Hb HbA (show decode cL_law 379 = .ok (.iaload, 1) from by decide +kernel) rfl ?_
  refine sr_aload_n (i := 0) (q := 381) C (show decode cL_law 380 = .ok (.aload_n 0, 1) from by decide +kernel) rfl rfl rfl ?_
  refine sr_iload_n (i := 3) (q := 382) C (show decode cL_law 381 = .ok (.iload_n 3, 1) from by decide +kernel) rfl rfl rfl ?_
  refine sr_iconst (v := (2 : Int32)) (q := 383) C (show decode cL_law 382 = .ok (.iconst 2, 1) from by decide +kernel) (by decide) rfl ?_
  refine sr_iadd (q := 384) C (show decode cL_law 383 = .ok (.iadd, 1) from by decide +kernel) rfl ?_
  refine sr_sld (q := 385) C HX Hb HbA (show decode cL_law 384 = .ok (.iaload, 1) from by decide +kernel) rfl ?_
  refine sr_cVi (As := [.int (sx (v3 + (1 : Int32)).toNatClampNeg), .int (sx (v3 + (2 : Int32)).toNatClampNeg)]) (st := []) (b := v1) (q := 388) C yvX11_stone ml_L_32 (cnX11_stone (xo κ) v1 (sx (v3 + (1 : Int32)).toNatClampNeg) (sx (v3 + (2 : Int32)).toNatClampNeg) hv1) hv1 (by decide) rfl rfl rfl (by decide) (by decide) (Nat.le_of_ble_eq_true rfl) rfl (show decode cL_law 385 = .ok (.invokevirtual 32, 3) from by decide +kernel) rfl (fun x385 => ?_)
  refine sr_aload_n (i := 2) (q := 389) C (show decode cL_law 388 = .ok (.aload_n 2, 1) from by decide +kernel) rfl rfl rfl ?_
  refine sr_aload_n (i := 0) (q := 390) C (show decode cL_law 389 = .ok (.aload_n 0, 1) from by decide +kernel) rfl rfl rfl ?_
  refine sr_iload_n (i := 3) (q := 391) C (show decode cL_law 390 = .ok (.iload_n 3, 1) from by decide +kernel) rfl rfl rfl ?_
  refine sr_iconst (v := (1 : Int32)) (q := 392) C (show decode cL_law 391 = .ok (.iconst 1, 1) from by decide +kernel) (by decide) rfl ?_
  refine sr_iadd (q := 393) C (show decode cL_law 392 = .ok (.iadd, 1) from by decide +kernel) rfl ?_
  refine sr_sld (q := 394) C HX Hb HbA (show decode cL_law 393 = .ok (.iaload, 1) from by decide +kernel) rfl ?_
  refine sr_aload_n (i := 0) (q := 395) C (show decode cL_law 394 = .ok (.aload_n 0, 1) from by decide +kernel) rfl rfl rfl ?_
  refine sr_iload_n (i := 3) (q := 396) C (show decode cL_law 395 = .ok (.iload_n 3, 1) from by decide +kernel) rfl rfl rfl ?_
  refine sr_iconst (v := (2 : Int32)) (q := 397) C (show decode cL_law 396 = .ok (.iconst 2, 1) from by decide +kernel) (by decide) rfl ?_
  refine sr_iadd (q := 398) C (show decode cL_law 397 = .ok (.iadd, 1) from by decide +kernel) rfl ?_
  refine sr_sld (q := 399) C HX Hb HbA (show decode cL_law 398 = .ok (.iaload, 1) from by decide +kernel) rfl ?_
  refine sr_cVi (As := [.int (sx (v3 + (1 : Int32)).toNatClampNeg), .int (sx (v3 + (2 : Int32)).toNatClampNeg)]) (st := [.int x385]) (b := v2) (q := 402) C yvX12_stone ml_L_36 (cnX12_stone (xo κ) v2 (sx (v3 + (1 : Int32)).toNatClampNeg) (sx (v3 + (2 : Int32)).toNatClampNeg) hv2) hv2 (by decide) rfl rfl rfl (by decide) (by decide) (Nat.le_of_ble_eq_true rfl) rfl (show decode cL_law 399 = .ok (.invokevirtual 36, 3) from by decide +kernel) rfl (fun x399 => ?_)
  refine sr_icmp_eq (q := 405) C 2013 (show decode cL_law 402 = .ok (.if_icmp .eq 1611, 3) from by decide +kernel) (by decide) rfl ?_ ?_
  · exact slL_law_J2013 C HX Hb HbA K18 v1 v2 v3 hv1 hv2
  · refine sr_iconst (v := (0 : Int32)) (q := 406) C (show decode cL_law 405 = .ok (.iconst 0, 1) from by decide +kernel) (by decide) rfl ?_
    exact sr_ireturn C false rfl (show decode cL_law 406 = .ok (.ireturn, 1) from by decide +kernel)
def fnL_law_J407 (sx : Nat → Int32) (Ln : Nat) (k18 : Nat → Nat → Int32 → sm_M Bool) (v1 : Nat) (v2 : Nat) (v3 : Int32) : sm_M Bool := m_gd (¬ ((v3 + (1 : Int32)) < 0 ∨ Ln ≤ (v3 + (1 : Int32)).toNatClampNeg)) <| m_gd (¬ ((v3 + (2 : Int32)) < 0 ∨ Ln ≤ (v3 + (2 : Int32)).toNatClampNeg)) <| m_bnd (fnX11_person v1 (sx (v3 + (1 : Int32)).toNatClampNeg) (sx (v3 + (2 : Int32)).toNatClampNeg)) fun x418 => m_gd (¬ ((v3 + (1 : Int32)) < 0 ∨ Ln ≤ (v3 + (1 : Int32)).toNatClampNeg)) <| m_gd (¬ ((v3 + (2 : Int32)) < 0 ∨ Ln ≤ (v3 + (2 : Int32)).toNatClampNeg)) <| m_bnd (fnX12_person v2 (sx (v3 + (1 : Int32)).toNatClampNeg) (sx (v3 + (2 : Int32)).toNatClampNeg)) fun x432 => m_br (x418 = x432)
    (fnL_law_J2013 sx Ln k18 v1 v2 v3)
    (m_ret false)
set_option maxHeartbeats 4000000 in
set_option maxRecDepth 100000 in
theorem slL_law_J407 {κ : sm_X} (C : sm_C κ R_law cL_law 4 16) {sx : Nat → Int32} {Ln b : Nat} (HX : va_X b Ln sx (xs κ) (xs κ).heap) (Hb : b < (xs κ).heap.size) (HbA : ¬ sm_A (xo κ) b) {k18 : Nat → Nat → Int32 → sm_M Bool} (K18 : ∀ (v1 : Nat) (v2 : Nat) (v3 : Int32) (hv1 : kd v1 = 11) (hv2 : kd v2 = 12), sm_S κ (fun r : Bool => .inr (some (.int (bI r)))) (.inl (18, [some (.ref b), some (xad κ v1), some (xad κ v2), some (.int v3)], [])) (k18 v1 v2 v3)) (v1 : Nat) (v2 : Nat) (v3 : Int32) (hv1 : kd v1 = 11) (hv2 : kd v2 = 12) : sm_S κ (fun r : Bool => .inr (some (.int (bI r)))) (.inl (407, [some (.ref b), some (xad κ v1), some (xad κ v2), some (.int v3)], [])) (fnL_law_J407 sx Ln k18 v1 v2 v3) := by
  unfold fnL_law_J407
  refine sr_aload_n (i := 1) (q := 408) C (show decode cL_law 407 = .ok (.aload_n 1, 1) from by decide +kernel) rfl rfl rfl ?_
  refine sr_aload_n (i := 0) (q := 409) C (show decode cL_law 408 = .ok (.aload_n 0, 1) from by decide +kernel) rfl rfl rfl ?_
  refine sr_iload_n (i := 3) (q := 410) C (show decode cL_law 409 = .ok (.iload_n 3, 1) from by decide +kernel) rfl rfl rfl ?_
  refine sr_iconst (v := (1 : Int32)) (q := 411) C (show decode cL_law 410 = .ok (.iconst 1, 1) from by decide +kernel) (by decide) rfl ?_
  refine sr_iadd (q := 412) C (show decode cL_law 411 = .ok (.iadd, 1) from by decide +kernel) rfl ?_
  refine sr_sld (q := 413) C HX Hb HbA (show decode cL_law 412 = .ok (.iaload, 1) from by decide +kernel) rfl ?_
  refine sr_aload_n (i := 0) (q := 414) C (show decode cL_law 413 = .ok (.aload_n 0, 1) from by decide +kernel) rfl rfl rfl ?_
  refine sr_iload_n (i := 3) (q := 415) C (show decode cL_law 414 = .ok (.iload_n 3, 1) from by decide +kernel) rfl rfl rfl ?_
  refine sr_iconst (v := (2 : Int32)) (q := 416) C (show decode cL_law 415 = .ok (.iconst 2, 1) from by decide +kernel) (by decide) rfl ?_
  refine sr_iadd (q := 417) C (show decode cL_law 416 = .ok (.iadd, 1) from by decide +kernel) rfl ?_
  refine sr_sld (q := 418) C HX Hb HbA (show decode cL_law 417 = .ok (.iaload, 1) from by decide +kernel) rfl ?_
  refine sr_cVi (As := [.int (sx (v3 + (1 : Int32)).toNatClampNeg), .int (sx (v3 + (2 : Int32)).toNatClampNeg)]) (st := []) (b := v1) (q := 421) C yvX11_person ml_L_37 (cnX11_person (xo κ) v1 (sx (v3 + (1 : Int32)).toNatClampNeg) (sx (v3 + (2 : Int32)).toNatClampNeg) hv1) hv1 (by decide) rfl rfl rfl (by decide) (by decide) (Nat.le_of_ble_eq_true rfl) rfl (show decode cL_law 418 = .ok (.invokevirtual 37, 3) from by decide +kernel) rfl (fun x418 => ?_)
  refine sr_aload_n (i := 2) (q := 422) C (show decode cL_law 421 = .ok (.aload_n 2, 1) from by decide +kernel) rfl rfl rfl ?_
  refine sr_aload_n (i := 0) (q := 423) C (show decode cL_law 422 = .ok (.aload_n 0, 1) from by decide +kernel) rfl rfl rfl ?_
  refine sr_iload_n (i := 3) (q := 424) C (show decode cL_law 423 = .ok (.iload_n 3, 1) from by decide +kernel) rfl rfl rfl ?_
  refine sr_iconst (v := (1 : Int32)) (q := 425) C (show decode cL_law 424 = .ok (.iconst 1, 1) from by decide +kernel) (by decide) rfl ?_
  refine sr_iadd (q := 426) C (show decode cL_law 425 = .ok (.iadd, 1) from by decide +kernel) rfl ?_
  refine sr_sld (q := 427) C HX Hb HbA (show decode cL_law 426 = .ok (.iaload, 1) from by decide +kernel) rfl ?_
  refine sr_aload_n (i := 0) (q := 428) C (show decode cL_law 427 = .ok (.aload_n 0, 1) from by decide +kernel) rfl rfl rfl ?_
  refine sr_iload_n (i := 3) (q := 429) C (show decode cL_law 428 = .ok (.iload_n 3, 1) from by decide +kernel) rfl rfl rfl ?_
  refine sr_iconst (v := (2 : Int32)) (q := 430) C (show decode cL_law 429 = .ok (.iconst 2, 1) from by decide +kernel) (by decide) rfl ?_
  refine sr_iadd (q := 431) C (show decode cL_law 430 = .ok (.iadd, 1) from by decide +kernel) rfl ?_
  refine sr_sld (q := 432) C HX Hb HbA (show decode cL_law 431 = .ok (.iaload, 1) from by decide +kernel) rfl ?_
  refine sr_cVi (As := [.int (sx (v3 + (1 : Int32)).toNatClampNeg), .int (sx (v3 + (2 : Int32)).toNatClampNeg)]) (st := [.int x418]) (b := v2) (q := 435) C yvX12_person ml_L_40 (cnX12_person (xo κ) v2 (sx (v3 + (1 : Int32)).toNatClampNeg) (sx (v3 + (2 : Int32)).toNatClampNeg) hv2) hv2 (by decide) rfl rfl rfl (by decide) (by decide) (Nat.le_of_ble_eq_true rfl) rfl (show decode cL_law 432 = .ok (.invokevirtual 40, 3) from by decide +kernel) rfl (fun x432 => ?_)
  refine sr_icmp_eq (q := 438) C 2013 (show decode cL_law 435 = .ok (.if_icmp .eq 1578, 3) from by decide +kernel) (by decide) rfl ?_ ?_
  · exact slL_law_J2013 C HX Hb HbA K18 v1 v2 v3 hv1 hv2
  · refine sr_iconst (v := (0 : Int32)) (q := 439) C (show decode cL_law 438 = .ok (.iconst 0, 1) from by decide +kernel) (by decide) rfl ?_
    exact sr_ireturn C false rfl (show decode cL_law 439 = .ok (.ireturn, 1) from by decide +kernel)
def fnL_law_J440 (sx : Nat → Int32) (Ln : Nat) (k18 : Nat → Nat → Int32 → sm_M Bool) (v1 : Nat) (v2 : Nat) (v3 : Int32) : sm_M Bool := m_gd (¬ ((v3 + (1 : Int32)) < 0 ∨ Ln ≤ (v3 + (1 : Int32)).toNatClampNeg)) <| m_gd (¬ ((v3 + (2 : Int32)) < 0 ∨ Ln ≤ (v3 + (2 : Int32)).toNatClampNeg)) <| m_gd (¬ ((v3 + (3 : Int32)) < 0 ∨ Ln ≤ (v3 + (3 : Int32)).toNatClampNeg)) <| m_bnd (fnX11_may v1 (sx (v3 + (1 : Int32)).toNatClampNeg) (sx (v3 + (2 : Int32)).toNatClampNeg) (sx (v3 + (3 : Int32)).toNatClampNeg)) fun x456 => m_gd (¬ ((v3 + (1 : Int32)) < 0 ∨ Ln ≤ (v3 + (1 : Int32)).toNatClampNeg)) <| m_gd (¬ ((v3 + (2 : Int32)) < 0 ∨ Ln ≤ (v3 + (2 : Int32)).toNatClampNeg)) <| m_gd (¬ ((v3 + (3 : Int32)) < 0 ∨ Ln ≤ (v3 + (3 : Int32)).toNatClampNeg)) <| m_bnd (fnX12_may v2 (sx (v3 + (1 : Int32)).toNatClampNeg) (sx (v3 + (2 : Int32)).toNatClampNeg) (sx (v3 + (3 : Int32)).toNatClampNeg)) fun x475 => m_br (x456 = x475)
    (fnL_law_J2013 sx Ln k18 v1 v2 v3)
    (m_ret false)
set_option maxHeartbeats 4000000 in
set_option maxRecDepth 100000 in
theorem slL_law_J440 {κ : sm_X} (C : sm_C κ R_law cL_law 4 16) {sx : Nat → Int32} {Ln b : Nat} (HX : va_X b Ln sx (xs κ) (xs κ).heap) (Hb : b < (xs κ).heap.size) (HbA : ¬ sm_A (xo κ) b) {k18 : Nat → Nat → Int32 → sm_M Bool} (K18 : ∀ (v1 : Nat) (v2 : Nat) (v3 : Int32) (hv1 : kd v1 = 11) (hv2 : kd v2 = 12), sm_S κ (fun r : Bool => .inr (some (.int (bI r)))) (.inl (18, [some (.ref b), some (xad κ v1), some (xad κ v2), some (.int v3)], [])) (k18 v1 v2 v3)) (v1 : Nat) (v2 : Nat) (v3 : Int32) (hv1 : kd v1 = 11) (hv2 : kd v2 = 12) : sm_S κ (fun r : Bool => .inr (some (.int (bI r)))) (.inl (440, [some (.ref b), some (xad κ v1), some (xad κ v2), some (.int v3)], [])) (fnL_law_J440 sx Ln k18 v1 v2 v3) := by
  unfold fnL_law_J440
  refine sr_aload_n (i := 1) (q := 441) C (show decode cL_law 440 = .ok (.aload_n 1, 1) from by decide +kernel) rfl rfl rfl ?_
  refine sr_aload_n (i := 0) (q := 442) C (show decode cL_law 441 = .ok (.aload_n 0, 1) from by decide +kernel) rfl rfl rfl ?_
  refine sr_iload_n (i := 3) (q := 443) C (show decode cL_law 442 = .ok (.iload_n 3, 1) from by decide +kernel) rfl rfl rfl ?_
  refine sr_iconst (v := (1 : Int32)) (q := 444) C (show decode cL_law 443 = .ok (.iconst 1, 1) from by decide +kernel) (by decide) rfl ?_
  refine sr_iadd (q := 445) C (show decode cL_law 444 = .ok (.iadd, 1) from by decide +kernel) rfl ?_
  refine sr_sld (q := 446) C HX Hb HbA (show decode cL_law 445 = .ok (.iaload, 1) from by decide +kernel) rfl ?_
  refine sr_aload_n (i := 0) (q := 447) C (show decode cL_law 446 = .ok (.aload_n 0, 1) from by decide +kernel) rfl rfl rfl ?_
  refine sr_iload_n (i := 3) (q := 448) C (show decode cL_law 447 = .ok (.iload_n 3, 1) from by decide +kernel) rfl rfl rfl ?_
  refine sr_iconst (v := (2 : Int32)) (q := 449) C (show decode cL_law 448 = .ok (.iconst 2, 1) from by decide +kernel) (by decide) rfl ?_
  refine sr_iadd (q := 450) C (show decode cL_law 449 = .ok (.iadd, 1) from by decide +kernel) rfl ?_
  refine sr_sld (q := 451) C HX Hb HbA (show decode cL_law 450 = .ok (.iaload, 1) from by decide +kernel) rfl ?_
  refine sr_aload_n (i := 0) (q := 452) C (show decode cL_law 451 = .ok (.aload_n 0, 1) from by decide +kernel) rfl rfl rfl ?_
  refine sr_iload_n (i := 3) (q := 453) C (show decode cL_law 452 = .ok (.iload_n 3, 1) from by decide +kernel) rfl rfl rfl ?_
  refine sr_iconst (v := (3 : Int32)) (q := 454) C (show decode cL_law 453 = .ok (.iconst 3, 1) from by decide +kernel) (by decide) rfl ?_
  refine sr_iadd (q := 455) C (show decode cL_law 454 = .ok (.iadd, 1) from by decide +kernel) rfl ?_
  refine sr_sld (q := 456) C HX Hb HbA (show decode cL_law 455 = .ok (.iaload, 1) from by decide +kernel) rfl ?_
  refine sr_cVi (As := [.int (sx (v3 + (1 : Int32)).toNatClampNeg), .int (sx (v3 + (2 : Int32)).toNatClampNeg), .int (sx (v3 + (3 : Int32)).toNatClampNeg)]) (st := []) (b := v1) (q := 459) C yvX11_may ml_L_41 (cnX11_may (xo κ) v1 (sx (v3 + (1 : Int32)).toNatClampNeg) (sx (v3 + (2 : Int32)).toNatClampNeg) (sx (v3 + (3 : Int32)).toNatClampNeg) hv1) hv1 (by decide) rfl rfl rfl (by decide) (by decide) (Nat.le_of_ble_eq_true rfl) rfl (show decode cL_law 456 = .ok (.invokevirtual 41, 3) from by decide +kernel) rfl (fun x456 => ?_)
  refine sr_aload_n (i := 2) (q := 460) C (show decode cL_law 459 = .ok (.aload_n 2, 1) from by decide +kernel) rfl rfl rfl ?_
  refine sr_aload_n (i := 0) (q := 461) C (show decode cL_law 460 = .ok (.aload_n 0, 1) from by decide +kernel) rfl rfl rfl ?_
  refine sr_iload_n (i := 3) (q := 462) C (show decode cL_law 461 = .ok (.iload_n 3, 1) from by decide +kernel) rfl rfl rfl ?_
  refine sr_iconst (v := (1 : Int32)) (q := 463) C (show decode cL_law 462 = .ok (.iconst 1, 1) from by decide +kernel) (by decide) rfl ?_
  refine sr_iadd (q := 464) C (show decode cL_law 463 = .ok (.iadd, 1) from by decide +kernel) rfl ?_
  refine sr_sld (q := 465) C HX Hb HbA (show decode cL_law 464 = .ok (.iaload, 1) from by decide +kernel) rfl ?_
  refine sr_aload_n (i := 0) (q := 466) C (show decode cL_law 465 = .ok (.aload_n 0, 1) from by decide +kernel) rfl rfl rfl ?_
  refine sr_iload_n (i := 3) (q := 467) C (show decode cL_law 466 = .ok (.iload_n 3, 1) from by decide +kernel) rfl rfl rfl ?_
  refine sr_iconst (v := (2 : Int32)) (q := 468) C (show decode cL_law 467 = .ok (.iconst 2, 1) from by decide +kernel) (by decide) rfl ?_
  refine sr_iadd (q := 469) C (show decode cL_law 468 = .ok (.iadd, 1) from by decide +kernel) rfl ?_
  refine sr_sld (q := 470) C HX Hb HbA (show decode cL_law 469 = .ok (.iaload, 1) from by decide +kernel) rfl ?_
  refine sr_aload_n (i := 0) (q := 471) C (show decode cL_law 470 = .ok (.aload_n 0, 1) from by decide +kernel) rfl rfl rfl ?_
  refine sr_iload_n (i := 3) (q := 472) C (show decode cL_law 471 = .ok (.iload_n 3, 1) from by decide +kernel) rfl rfl rfl ?_
  refine sr_iconst (v := (3 : Int32)) (q := 473) C (show decode cL_law 472 = .ok (.iconst 3, 1) from by decide +kernel) (by decide) rfl ?_
  refine sr_iadd (q := 474) C (show decode cL_law 473 = .ok (.iadd, 1) from by decide +kernel) rfl ?_
  refine sr_sld (q := 475) C HX Hb HbA (show decode cL_law 474 = .ok (.iaload, 1) from by decide +kernel) rfl ?_
  refine sr_cVi (As := [.int (sx (v3 + (1 : Int32)).toNatClampNeg), .int (sx (v3 + (2 : Int32)).toNatClampNeg), .int (sx (v3 + (3 : Int32)).toNatClampNeg)]) (st := [.int x456]) (b := v2) (q := 478) C yvX12_may ml_L_45 (cnX12_may (xo κ) v2 (sx (v3 + (1 : Int32)).toNatClampNeg) (sx (v3 + (2 : Int32)).toNatClampNeg) (sx (v3 + (3 : Int32)).toNatClampNeg) hv2) hv2 (by decide) rfl rfl rfl (by decide) (by decide) (Nat.le_of_ble_eq_true rfl) rfl (show decode cL_law 475 = .ok (.invokevirtual 45, 3) from by decide +kernel) rfl (fun x475 => ?_)
  refine sr_icmp_eq (q := 481) C 2013 (show decode cL_law 478 = .ok (.if_icmp .eq 1535, 3) from by decide +kernel) (by decide) rfl ?_ ?_
  · exact slL_law_J2013 C HX Hb HbA K18 v1 v2 v3 hv1 hv2
  · refine sr_iconst (v := (0 : Int32)) (q := 482) C (show decode cL_law 481 = .ok (.iconst 0, 1) from by decide +kernel) (by decide) rfl ?_
    exact sr_ireturn C false rfl (show decode cL_law 482 = .ok (.ireturn, 1) from by decide +kernel)
def fnL_law_J483 (sx : Nat → Int32) (Ln : Nat) (k18 : Nat → Nat → Int32 → sm_M Bool) (v1 : Nat) (v2 : Nat) (v3 : Int32) : sm_M Bool := m_gd (¬ ((v3 + (1 : Int32)) < 0 ∨ Ln ≤ (v3 + (1 : Int32)).toNatClampNeg)) <| m_bnd (fnX11_reach v1 (sx (v3 + (1 : Int32)).toNatClampNeg)) fun x489 => m_gd (¬ ((v3 + (1 : Int32)) < 0 ∨ Ln ≤ (v3 + (1 : Int32)).toNatClampNeg)) <| m_bnd (fnX12_reach v2 (sx (v3 + (1 : Int32)).toNatClampNeg)) fun x498 => m_br (x489 = x498)
    (fnL_law_J2013 sx Ln k18 v1 v2 v3)
    (m_ret false)
set_option maxHeartbeats 4000000 in
set_option maxRecDepth 100000 in
theorem slL_law_J483 {κ : sm_X} (C : sm_C κ R_law cL_law 4 16) {sx : Nat → Int32} {Ln b : Nat} (HX : va_X b Ln sx (xs κ) (xs κ).heap) (Hb : b < (xs κ).heap.size) (HbA : ¬ sm_A (xo κ) b) {k18 : Nat → Nat → Int32 → sm_M Bool} (K18 : ∀ (v1 : Nat) (v2 : Nat) (v3 : Int32) (hv1 : kd v1 = 11) (hv2 : kd v2 = 12), sm_S κ (fun r : Bool => .inr (some (.int (bI r)))) (.inl (18, [some (.ref b), some (xad κ v1), some (xad κ v2), some (.int v3)], [])) (k18 v1 v2 v3)) (v1 : Nat) (v2 : Nat) (v3 : Int32) (hv1 : kd v1 = 11) (hv2 : kd v2 = 12) : sm_S κ (fun r : Bool => .inr (some (.int (bI r)))) (.inl (483, [some (.ref b), some (xad κ v1), some (xad κ v2), some (.int v3)], [])) (fnL_law_J483 sx Ln k18 v1 v2 v3) := by
  unfold fnL_law_J483
  refine sr_aload_n (i := 1) (q := 484) C (show decode cL_law 483 = .ok (.aload_n 1, 1) from by decide +kernel) rfl rfl rfl ?_
  refine sr_aload_n (i := 0) (q := 485) C (show decode cL_law 484 = .ok (.aload_n 0, 1) from by decide +kernel) rfl rfl rfl ?_
  refine sr_iload_n (i := 3) (q := 486) C (show decode cL_law 485 = .ok (.iload_n 3, 1) from by decide +kernel) rfl rfl rfl ?_
  refine sr_iconst (v := (1 : Int32)) (q := 487) C (show decode cL_law 486 = .ok (.iconst 1, 1) from by decide +kernel) (by decide) rfl ?_
  refine sr_iadd (q := 488) C (show decode cL_law 487 = .ok (.iadd, 1) from by decide +kernel) rfl ?_
  refine sr_sld (q := 489) C HX Hb HbA (show decode cL_law 488 = .ok (.iaload, 1) from by decide +kernel) rfl ?_
  refine sr_cVi (As := [.int (sx (v3 + (1 : Int32)).toNatClampNeg)]) (st := []) (b := v1) (q := 492) C yvX11_reach ml_L_46 (cnX11_reach (xo κ) v1 (sx (v3 + (1 : Int32)).toNatClampNeg) hv1) hv1 (by decide) rfl rfl rfl (by decide) (by decide) (Nat.le_of_ble_eq_true rfl) rfl (show decode cL_law 489 = .ok (.invokevirtual 46, 3) from by decide +kernel) rfl (fun x489 => ?_)
  refine sr_aload_n (i := 2) (q := 493) C (show decode cL_law 492 = .ok (.aload_n 2, 1) from by decide +kernel) rfl rfl rfl ?_
  refine sr_aload_n (i := 0) (q := 494) C (show decode cL_law 493 = .ok (.aload_n 0, 1) from by decide +kernel) rfl rfl rfl ?_
  refine sr_iload_n (i := 3) (q := 495) C (show decode cL_law 494 = .ok (.iload_n 3, 1) from by decide +kernel) rfl rfl rfl ?_
  refine sr_iconst (v := (1 : Int32)) (q := 496) C (show decode cL_law 495 = .ok (.iconst 1, 1) from by decide +kernel) (by decide) rfl ?_
  refine sr_iadd (q := 497) C (show decode cL_law 496 = .ok (.iadd, 1) from by decide +kernel) rfl ?_
  refine sr_sld (q := 498) C HX Hb HbA (show decode cL_law 497 = .ok (.iaload, 1) from by decide +kernel) rfl ?_
  refine sr_cVi (As := [.int (sx (v3 + (1 : Int32)).toNatClampNeg)]) (st := [.int x489]) (b := v2) (q := 501) C yvX12_reach ml_L_49 (cnX12_reach (xo κ) v2 (sx (v3 + (1 : Int32)).toNatClampNeg) hv2) hv2 (by decide) rfl rfl rfl (by decide) (by decide) (Nat.le_of_ble_eq_true rfl) rfl (show decode cL_law 498 = .ok (.invokevirtual 49, 3) from by decide +kernel) rfl (fun x498 => ?_)
  refine sr_icmp_eq (q := 504) C 2013 (show decode cL_law 501 = .ok (.if_icmp .eq 1512, 3) from by decide +kernel) (by decide) rfl ?_ ?_
  · exact slL_law_J2013 C HX Hb HbA K18 v1 v2 v3 hv1 hv2
  · refine sr_iconst (v := (0 : Int32)) (q := 505) C (show decode cL_law 504 = .ok (.iconst 0, 1) from by decide +kernel) (by decide) rfl ?_
    exact sr_ireturn C false rfl (show decode cL_law 505 = .ok (.ireturn, 1) from by decide +kernel)
def fnL_law_J506 (sx : Nat → Int32) (Ln : Nat) (k18 : Nat → Nat → Int32 → sm_M Bool) (v1 : Nat) (v2 : Nat) (v3 : Int32) : sm_M Bool := m_gd (¬ ((v3 + (1 : Int32)) < 0 ∨ Ln ≤ (v3 + (1 : Int32)).toNatClampNeg)) <| m_bnd (fnX11_hour v1 (sx (v3 + (1 : Int32)).toNatClampNeg)) fun x512 => m_gd (¬ ((v3 + (1 : Int32)) < 0 ∨ Ln ≤ (v3 + (1 : Int32)).toNatClampNeg)) <| m_bnd (fnX12_hour v2 (sx (v3 + (1 : Int32)).toNatClampNeg)) fun x521 => m_br (x512 = x521)
    (fnL_law_J2013 sx Ln k18 v1 v2 v3)
    (m_ret false)
set_option maxHeartbeats 4000000 in
set_option maxRecDepth 100000 in
theorem slL_law_J506 {κ : sm_X} (C : sm_C κ R_law cL_law 4 16) {sx : Nat → Int32} {Ln b : Nat} (HX : va_X b Ln sx (xs κ) (xs κ).heap) (Hb : b < (xs κ).heap.size) (HbA : ¬ sm_A (xo κ) b) {k18 : Nat → Nat → Int32 → sm_M Bool} (K18 : ∀ (v1 : Nat) (v2 : Nat) (v3 : Int32) (hv1 : kd v1 = 11) (hv2 : kd v2 = 12), sm_S κ (fun r : Bool => .inr (some (.int (bI r)))) (.inl (18, [some (.ref b), some (xad κ v1), some (xad κ v2), some (.int v3)], [])) (k18 v1 v2 v3)) (v1 : Nat) (v2 : Nat) (v3 : Int32) (hv1 : kd v1 = 11) (hv2 : kd v2 = 12) : sm_S κ (fun r : Bool => .inr (some (.int (bI r)))) (.inl (506, [some (.ref b), some (xad κ v1), some (xad κ v2), some (.int v3)], [])) (fnL_law_J506 sx Ln k18 v1 v2 v3) := by
  unfold fnL_law_J506
  refine sr_aload_n (i := 1) (q := 507) C (show decode cL_law 506 = .ok (.aload_n 1, 1) from by decide +kernel) rfl rfl rfl ?_
  refine sr_aload_n (i := 0) (q := 508) C (show decode cL_law 507 = .ok (.aload_n 0, 1) from by decide +kernel) rfl rfl rfl ?_
  refine sr_iload_n (i := 3) (q := 509) C (show decode cL_law 508 = .ok (.iload_n 3, 1) from by decide +kernel) rfl rfl rfl ?_
  refine sr_iconst (v := (1 : Int32)) (q := 510) C (show decode cL_law 509 = .ok (.iconst 1, 1) from by decide +kernel) (by decide) rfl ?_
  refine sr_iadd (q := 511) C (show decode cL_law 510 = .ok (.iadd, 1) from by decide +kernel) rfl ?_
  refine sr_sld (q := 512) C HX Hb HbA (show decode cL_law 511 = .ok (.iaload, 1) from by decide +kernel) rfl ?_
  refine sr_cVi (As := [.int (sx (v3 + (1 : Int32)).toNatClampNeg)]) (st := []) (b := v1) (q := 515) C yvX11_hour ml_L_50 (cnX11_hour (xo κ) v1 (sx (v3 + (1 : Int32)).toNatClampNeg) hv1) hv1 (by decide) rfl rfl rfl (by decide) (by decide) (Nat.le_of_ble_eq_true rfl) rfl (show decode cL_law 512 = .ok (.invokevirtual 50, 3) from by decide +kernel) rfl (fun x512 => ?_)
  refine sr_aload_n (i := 2) (q := 516) C (show decode cL_law 515 = .ok (.aload_n 2, 1) from by decide +kernel) rfl rfl rfl ?_
  refine sr_aload_n (i := 0) (q := 517) C (show decode cL_law 516 = .ok (.aload_n 0, 1) from by decide +kernel) rfl rfl rfl ?_
  refine sr_iload_n (i := 3) (q := 518) C (show decode cL_law 517 = .ok (.iload_n 3, 1) from by decide +kernel) rfl rfl rfl ?_
  refine sr_iconst (v := (1 : Int32)) (q := 519) C (show decode cL_law 518 = .ok (.iconst 1, 1) from by decide +kernel) (by decide) rfl ?_
  refine sr_iadd (q := 520) C (show decode cL_law 519 = .ok (.iadd, 1) from by decide +kernel) rfl ?_
  refine sr_sld (q := 521) C HX Hb HbA (show decode cL_law 520 = .ok (.iaload, 1) from by decide +kernel) rfl ?_
  refine sr_cVi (As := [.int (sx (v3 + (1 : Int32)).toNatClampNeg)]) (st := [.int x512]) (b := v2) (q := 524) C yvX12_hour ml_L_53 (cnX12_hour (xo κ) v2 (sx (v3 + (1 : Int32)).toNatClampNeg) hv2) hv2 (by decide) rfl rfl rfl (by decide) (by decide) (Nat.le_of_ble_eq_true rfl) rfl (show decode cL_law 521 = .ok (.invokevirtual 53, 3) from by decide +kernel) rfl (fun x521 => ?_)
  refine sr_icmp_eq (q := 527) C 2013 (show decode cL_law 524 = .ok (.if_icmp .eq 1489, 3) from by decide +kernel) (by decide) rfl ?_ ?_
  · exact slL_law_J2013 C HX Hb HbA K18 v1 v2 v3 hv1 hv2
  · refine sr_iconst (v := (0 : Int32)) (q := 528) C (show decode cL_law 527 = .ok (.iconst 0, 1) from by decide +kernel) (by decide) rfl ?_
    exact sr_ireturn C false rfl (show decode cL_law 528 = .ok (.ireturn, 1) from by decide +kernel)
def fnL_law_J529 (sx : Nat → Int32) (Ln : Nat) (k18 : Nat → Nat → Int32 → sm_M Bool) (v1 : Nat) (v2 : Nat) (v3 : Int32) : sm_M Bool := m_bnd (fnX11_fresh v1) fun x530 => m_bnd (fnX12_fresh v2) fun x534 => m_br (x530 = x534)
    (fnL_law_J2013 sx Ln k18 v1 v2 v3)
    (m_ret false)
set_option maxHeartbeats 4000000 in
set_option maxRecDepth 100000 in
theorem slL_law_J529 {κ : sm_X} (C : sm_C κ R_law cL_law 4 16) {sx : Nat → Int32} {Ln b : Nat} (HX : va_X b Ln sx (xs κ) (xs κ).heap) (Hb : b < (xs κ).heap.size) (HbA : ¬ sm_A (xo κ) b) {k18 : Nat → Nat → Int32 → sm_M Bool} (K18 : ∀ (v1 : Nat) (v2 : Nat) (v3 : Int32) (hv1 : kd v1 = 11) (hv2 : kd v2 = 12), sm_S κ (fun r : Bool => .inr (some (.int (bI r)))) (.inl (18, [some (.ref b), some (xad κ v1), some (xad κ v2), some (.int v3)], [])) (k18 v1 v2 v3)) (v1 : Nat) (v2 : Nat) (v3 : Int32) (hv1 : kd v1 = 11) (hv2 : kd v2 = 12) : sm_S κ (fun r : Bool => .inr (some (.int (bI r)))) (.inl (529, [some (.ref b), some (xad κ v1), some (xad κ v2), some (.int v3)], [])) (fnL_law_J529 sx Ln k18 v1 v2 v3) := by
  unfold fnL_law_J529
  refine sr_aload_n (i := 1) (q := 530) C (show decode cL_law 529 = .ok (.aload_n 1, 1) from by decide +kernel) rfl rfl rfl ?_
  refine sr_cVi (As := []) (st := []) (b := v1) (q := 533) C yvX11_fresh ml_L_54 (cnX11_fresh (xo κ) v1 hv1) hv1 (by decide) rfl rfl rfl (by decide) (by decide) (Nat.le_of_ble_eq_true rfl) rfl (show decode cL_law 530 = .ok (.invokevirtual 54, 3) from by decide +kernel) rfl (fun x530 => ?_)
  refine sr_aload_n (i := 2) (q := 534) C (show decode cL_law 533 = .ok (.aload_n 2, 1) from by decide +kernel) rfl rfl rfl ?_
  refine sr_cVi (As := []) (st := [.int x530]) (b := v2) (q := 537) C yvX12_fresh ml_L_57 (cnX12_fresh (xo κ) v2 hv2) hv2 (by decide) rfl rfl rfl (by decide) (by decide) (Nat.le_of_ble_eq_true rfl) rfl (show decode cL_law 534 = .ok (.invokevirtual 57, 3) from by decide +kernel) rfl (fun x534 => ?_)
  refine sr_icmp_eq (q := 540) C 2013 (show decode cL_law 537 = .ok (.if_icmp .eq 1476, 3) from by decide +kernel) (by decide) rfl ?_ ?_
  · exact slL_law_J2013 C HX Hb HbA K18 v1 v2 v3 hv1 hv2
  · refine sr_iconst (v := (0 : Int32)) (q := 541) C (show decode cL_law 540 = .ok (.iconst 0, 1) from by decide +kernel) (by decide) rfl ?_
    exact sr_ireturn C false rfl (show decode cL_law 541 = .ok (.ireturn, 1) from by decide +kernel)
def fnL_law_J542 (sx : Nat → Int32) (Ln : Nat) (k18 : Nat → Nat → Int32 → sm_M Bool) (v1 : Nat) (v2 : Nat) (v3 : Int32) : sm_M Bool := m_gd (¬ ((v3 + (1 : Int32)) < 0 ∨ Ln ≤ (v3 + (1 : Int32)).toNatClampNeg)) <| m_gd (¬ ((v3 + (2 : Int32)) < 0 ∨ Ln ≤ (v3 + (2 : Int32)).toNatClampNeg)) <| m_gd (¬ ((v3 + (3 : Int32)) < 0 ∨ Ln ≤ (v3 + (3 : Int32)).toNatClampNeg)) <| m_bnd (fnX11_length v1 (sx (v3 + (1 : Int32)).toNatClampNeg) (sx (v3 + (2 : Int32)).toNatClampNeg) (sx (v3 + (3 : Int32)).toNatClampNeg)) fun x558 => m_gd (¬ ((v3 + (1 : Int32)) < 0 ∨ Ln ≤ (v3 + (1 : Int32)).toNatClampNeg)) <| m_gd (¬ ((v3 + (2 : Int32)) < 0 ∨ Ln ≤ (v3 + (2 : Int32)).toNatClampNeg)) <| m_gd (¬ ((v3 + (3 : Int32)) < 0 ∨ Ln ≤ (v3 + (3 : Int32)).toNatClampNeg)) <| m_bnd (fnX12_length v2 (sx (v3 + (1 : Int32)).toNatClampNeg) (sx (v3 + (2 : Int32)).toNatClampNeg) (sx (v3 + (3 : Int32)).toNatClampNeg)) fun x577 => m_br (x558 = x577)
    (fnL_law_J2013 sx Ln k18 v1 v2 v3)
    (m_ret false)
set_option maxHeartbeats 4000000 in
set_option maxRecDepth 100000 in
theorem slL_law_J542 {κ : sm_X} (C : sm_C κ R_law cL_law 4 16) {sx : Nat → Int32} {Ln b : Nat} (HX : va_X b Ln sx (xs κ) (xs κ).heap) (Hb : b < (xs κ).heap.size) (HbA : ¬ sm_A (xo κ) b) {k18 : Nat → Nat → Int32 → sm_M Bool} (K18 : ∀ (v1 : Nat) (v2 : Nat) (v3 : Int32) (hv1 : kd v1 = 11) (hv2 : kd v2 = 12), sm_S κ (fun r : Bool => .inr (some (.int (bI r)))) (.inl (18, [some (.ref b), some (xad κ v1), some (xad κ v2), some (.int v3)], [])) (k18 v1 v2 v3)) (v1 : Nat) (v2 : Nat) (v3 : Int32) (hv1 : kd v1 = 11) (hv2 : kd v2 = 12) : sm_S κ (fun r : Bool => .inr (some (.int (bI r)))) (.inl (542, [some (.ref b), some (xad κ v1), some (xad κ v2), some (.int v3)], [])) (fnL_law_J542 sx Ln k18 v1 v2 v3) := by
  unfold fnL_law_J542
  refine sr_aload_n (i := 1) (q := 543) C (show decode cL_law 542 = .ok (.aload_n 1, 1) from by decide +kernel) rfl rfl rfl ?_
  refine sr_aload_n (i := 0) (q := 544) C (show decode cL_law 543 = .ok (.aload_n 0, 1) from by decide +kernel) rfl rfl rfl ?_
  refine sr_iload_n (i := 3) (q := 545) C (show decode cL_law 544 = .ok (.iload_n 3, 1) from by decide +kernel) rfl rfl rfl ?_
  refine sr_iconst (v := (1 : Int32)) (q := 546) C (show decode cL_law 545 = .ok (.iconst 1, 1) from by decide +kernel) (by decide) rfl ?_
  refine sr_iadd (q := 547) C (show decode cL_law 546 = .ok (.iadd, 1) from by decide +kernel) rfl ?_
  refine sr_sld (q := 548) C HX Hb HbA (show decode cL_law 547 = .ok (.iaload, 1) from by decide +kernel) rfl ?_
  refine sr_aload_n (i := 0) (q := 549) C (show decode cL_law 548 = .ok (.aload_n 0, 1) from by decide +kernel) rfl rfl rfl ?_
  refine sr_iload_n (i := 3) (q := 550) C (show decode cL_law 549 = .ok (.iload_n 3, 1) from by decide +kernel) rfl rfl rfl ?_
  refine sr_iconst (v := (2 : Int32)) (q := 551) C (show decode cL_law 550 = .ok (.iconst 2, 1) from by decide +kernel) (by decide) rfl ?_
  refine sr_iadd (q := 552) C (show decode cL_law 551 = .ok (.iadd, 1) from by decide +kernel) rfl ?_
  refine sr_sld (q := 553) C HX Hb HbA (show decode cL_law 552 = .ok (.iaload, 1) from by decide +kernel) rfl ?_
  refine sr_aload_n (i := 0) (q := 554) C (show decode cL_law 553 = .ok (.aload_n 0, 1) from by decide +kernel) rfl rfl rfl ?_
  refine sr_iload_n (i := 3) (q := 555) C (show decode cL_law 554 = .ok (.iload_n 3, 1) from by decide +kernel) rfl rfl rfl ?_
  refine sr_iconst (v := (3 : Int32)) (q := 556) C (show decode cL_law 555 = .ok (.iconst 3, 1) from by decide +kernel) (by decide) rfl ?_
  refine sr_iadd (q := 557) C (show decode cL_law 556 = .ok (.iadd, 1) from by decide +kernel) rfl ?_
  refine sr_sld (q := 558) C HX Hb HbA (show decode cL_law 557 = .ok (.iaload, 1) from by decide +kernel) rfl ?_
  refine sr_cVi (As := [.int (sx (v3 + (1 : Int32)).toNatClampNeg), .int (sx (v3 + (2 : Int32)).toNatClampNeg), .int (sx (v3 + (3 : Int32)).toNatClampNeg)]) (st := []) (b := v1) (q := 561) C yvX11_length ml_L_58 (cnX11_length (xo κ) v1 (sx (v3 + (1 : Int32)).toNatClampNeg) (sx (v3 + (2 : Int32)).toNatClampNeg) (sx (v3 + (3 : Int32)).toNatClampNeg) hv1) hv1 (by decide) rfl rfl rfl (by decide) (by decide) (Nat.le_of_ble_eq_true rfl) rfl (show decode cL_law 558 = .ok (.invokevirtual 58, 3) from by decide +kernel) rfl (fun x558 => ?_)
  refine sr_aload_n (i := 2) (q := 562) C (show decode cL_law 561 = .ok (.aload_n 2, 1) from by decide +kernel) rfl rfl rfl ?_
  refine sr_aload_n (i := 0) (q := 563) C (show decode cL_law 562 = .ok (.aload_n 0, 1) from by decide +kernel) rfl rfl rfl ?_
  refine sr_iload_n (i := 3) (q := 564) C (show decode cL_law 563 = .ok (.iload_n 3, 1) from by decide +kernel) rfl rfl rfl ?_
  refine sr_iconst (v := (1 : Int32)) (q := 565) C (show decode cL_law 564 = .ok (.iconst 1, 1) from by decide +kernel) (by decide) rfl ?_
  refine sr_iadd (q := 566) C (show decode cL_law 565 = .ok (.iadd, 1) from by decide +kernel) rfl ?_
  refine sr_sld (q := 567) C HX Hb HbA (show decode cL_law 566 = .ok (.iaload, 1) from by decide +kernel) rfl ?_
  refine sr_aload_n (i := 0) (q := 568) C (show decode cL_law 567 = .ok (.aload_n 0, 1) from by decide +kernel) rfl rfl rfl ?_
  refine sr_iload_n (i := 3) (q := 569) C (show decode cL_law 568 = .ok (.iload_n 3, 1) from by decide +kernel) rfl rfl rfl ?_
  refine sr_iconst (v := (2 : Int32)) (q := 570) C (show decode cL_law 569 = .ok (.iconst 2, 1) from by decide +kernel) (by decide) rfl ?_
  refine sr_iadd (q := 571) C (show decode cL_law 570 = .ok (.iadd, 1) from by decide +kernel) rfl ?_
  refine sr_sld (q := 572) C HX Hb HbA (show decode cL_law 571 = .ok (.iaload, 1) from by decide +kernel) rfl ?_
  refine sr_aload_n (i := 0) (q := 573) C (show decode cL_law 572 = .ok (.aload_n 0, 1) from by decide +kernel) rfl rfl rfl ?_
  refine sr_iload_n (i := 3) (q := 574) C (show decode cL_law 573 = .ok (.iload_n 3, 1) from by decide +kernel) rfl rfl rfl ?_
  refine sr_iconst (v := (3 : Int32)) (q := 575) C (show decode cL_law 574 = .ok (.iconst 3, 1) from by decide +kernel) (by decide) rfl ?_
  refine sr_iadd (q := 576) C (show decode cL_law 575 = .ok (.iadd, 1) from by decide +kernel) rfl ?_
  refine sr_sld (q := 577) C HX Hb HbA (show decode cL_law 576 = .ok (.iaload, 1) from by decide +kernel) rfl ?_
  refine sr_cVi (As := [.int (sx (v3 + (1 : Int32)).toNatClampNeg), .int (sx (v3 + (2 : Int32)).toNatClampNeg), .int (sx (v3 + (3 : Int32)).toNatClampNeg)]) (st := [.int x558]) (b := v2) (q := 580) C yvX12_length ml_L_61 (cnX12_length (xo κ) v2 (sx (v3 + (1 : Int32)).toNatClampNeg) (sx (v3 + (2 : Int32)).toNatClampNeg) (sx (v3 + (3 : Int32)).toNatClampNeg) hv2) hv2 (by decide) rfl rfl rfl (by decide) (by decide) (Nat.le_of_ble_eq_true rfl) rfl (show decode cL_law 577 = .ok (.invokevirtual 61, 3) from by decide +kernel) rfl (fun x577 => ?_)
  refine sr_icmp_eq (q := 583) C 2013 (show decode cL_law 580 = .ok (.if_icmp .eq 1433, 3) from by decide +kernel) (by decide) rfl ?_ ?_
  · exact slL_law_J2013 C HX Hb HbA K18 v1 v2 v3 hv1 hv2
  · refine sr_iconst (v := (0 : Int32)) (q := 584) C (show decode cL_law 583 = .ok (.iconst 0, 1) from by decide +kernel) (by decide) rfl ?_
    exact sr_ireturn C false rfl (show decode cL_law 584 = .ok (.ireturn, 1) from by decide +kernel)
def fnL_law_J585 (sx : Nat → Int32) (Ln : Nat) (k18 : Nat → Nat → Int32 → sm_M Bool) (v1 : Nat) (v2 : Nat) (v3 : Int32) : sm_M Bool := m_gd (¬ ((v3 + (1 : Int32)) < 0 ∨ Ln ≤ (v3 + (1 : Int32)).toNatClampNeg)) <| m_gd (¬ ((v3 + (2 : Int32)) < 0 ∨ Ln ≤ (v3 + (2 : Int32)).toNatClampNeg)) <| m_gd (¬ ((v3 + (3 : Int32)) < 0 ∨ Ln ≤ (v3 + (3 : Int32)).toNatClampNeg)) <| m_gd (¬ ((v3 + (4 : Int32)) < 0 ∨ Ln ≤ (v3 + (4 : Int32)).toNatClampNeg)) <| m_bnd (fnX11_path v1 (sx (v3 + (1 : Int32)).toNatClampNeg) (sx (v3 + (2 : Int32)).toNatClampNeg) (sx (v3 + (3 : Int32)).toNatClampNeg) (sx (v3 + (4 : Int32)).toNatClampNeg)) fun x606 => m_gd (¬ ((v3 + (1 : Int32)) < 0 ∨ Ln ≤ (v3 + (1 : Int32)).toNatClampNeg)) <| m_gd (¬ ((v3 + (2 : Int32)) < 0 ∨ Ln ≤ (v3 + (2 : Int32)).toNatClampNeg)) <| m_gd (¬ ((v3 + (3 : Int32)) < 0 ∨ Ln ≤ (v3 + (3 : Int32)).toNatClampNeg)) <| m_gd (¬ ((v3 + (4 : Int32)) < 0 ∨ Ln ≤ (v3 + (4 : Int32)).toNatClampNeg)) <| m_bnd (fnX12_path v2 (sx (v3 + (1 : Int32)).toNatClampNeg) (sx (v3 + (2 : Int32)).toNatClampNeg) (sx (v3 + (3 : Int32)).toNatClampNeg) (sx (v3 + (4 : Int32)).toNatClampNeg)) fun x630 => m_br (x606 = x630)
    (fnL_law_J2013 sx Ln k18 v1 v2 v3)
    (m_ret false)
set_option maxHeartbeats 4000000 in
set_option maxRecDepth 100000 in
theorem slL_law_J585 {κ : sm_X} (C : sm_C κ R_law cL_law 4 16) {sx : Nat → Int32} {Ln b : Nat} (HX : va_X b Ln sx (xs κ) (xs κ).heap) (Hb : b < (xs κ).heap.size) (HbA : ¬ sm_A (xo κ) b) {k18 : Nat → Nat → Int32 → sm_M Bool} (K18 : ∀ (v1 : Nat) (v2 : Nat) (v3 : Int32) (hv1 : kd v1 = 11) (hv2 : kd v2 = 12), sm_S κ (fun r : Bool => .inr (some (.int (bI r)))) (.inl (18, [some (.ref b), some (xad κ v1), some (xad κ v2), some (.int v3)], [])) (k18 v1 v2 v3)) (v1 : Nat) (v2 : Nat) (v3 : Int32) (hv1 : kd v1 = 11) (hv2 : kd v2 = 12) : sm_S κ (fun r : Bool => .inr (some (.int (bI r)))) (.inl (585, [some (.ref b), some (xad κ v1), some (xad κ v2), some (.int v3)], [])) (fnL_law_J585 sx Ln k18 v1 v2 v3) := by
  unfold fnL_law_J585
  refine sr_aload_n (i := 1) (q := 586) C (show decode cL_law 585 = .ok (.aload_n 1, 1) from by decide +kernel) rfl rfl rfl ?_
  refine sr_aload_n (i := 0) (q := 587) C (show decode cL_law 586 = .ok (.aload_n 0, 1) from by decide +kernel) rfl rfl rfl ?_
  refine sr_iload_n (i := 3) (q := 588) C (show decode cL_law 587 = .ok (.iload_n 3, 1) from by decide +kernel) rfl rfl rfl ?_
  refine sr_iconst (v := (1 : Int32)) (q := 589) C (show decode cL_law 588 = .ok (.iconst 1, 1) from by decide +kernel) (by decide) rfl ?_
  refine sr_iadd (q := 590) C (show decode cL_law 589 = .ok (.iadd, 1) from by decide +kernel) rfl ?_
  refine sr_sld (q := 591) C HX Hb HbA (show decode cL_law 590 = .ok (.iaload, 1) from by decide +kernel) rfl ?_
  refine sr_aload_n (i := 0) (q := 592) C (show decode cL_law 591 = .ok (.aload_n 0, 1) from by decide +kernel) rfl rfl rfl ?_
  refine sr_iload_n (i := 3) (q := 593) C (show decode cL_law 592 = .ok (.iload_n 3, 1) from by decide +kernel) rfl rfl rfl ?_
  refine sr_iconst (v := (2 : Int32)) (q := 594) C (show decode cL_law 593 = .ok (.iconst 2, 1) from by decide +kernel) (by decide) rfl ?_
  refine sr_iadd (q := 595) C (show decode cL_law 594 = .ok (.iadd, 1) from by decide +kernel) rfl ?_
  refine sr_sld (q := 596) C HX Hb HbA (show decode cL_law 595 = .ok (.iaload, 1) from by decide +kernel) rfl ?_
  refine sr_aload_n (i := 0) (q := 597) C (show decode cL_law 596 = .ok (.aload_n 0, 1) from by decide +kernel) rfl rfl rfl ?_
  refine sr_iload_n (i := 3) (q := 598) C (show decode cL_law 597 = .ok (.iload_n 3, 1) from by decide +kernel) rfl rfl rfl ?_
  refine sr_iconst (v := (3 : Int32)) (q := 599) C (show decode cL_law 598 = .ok (.iconst 3, 1) from by decide +kernel) (by decide) rfl ?_
  refine sr_iadd (q := 600) C (show decode cL_law 599 = .ok (.iadd, 1) from by decide +kernel) rfl ?_
  refine sr_sld (q := 601) C HX Hb HbA (show decode cL_law 600 = .ok (.iaload, 1) from by decide +kernel) rfl ?_
  refine sr_aload_n (i := 0) (q := 602) C (show decode cL_law 601 = .ok (.aload_n 0, 1) from by decide +kernel) rfl rfl rfl ?_
  refine sr_iload_n (i := 3) (q := 603) C (show decode cL_law 602 = .ok (.iload_n 3, 1) from by decide +kernel) rfl rfl rfl ?_
  refine sr_iconst (v := (4 : Int32)) (q := 604) C (show decode cL_law 603 = .ok (.iconst 4, 1) from by decide +kernel) (by decide) rfl ?_
  refine sr_iadd (q := 605) C (show decode cL_law 604 = .ok (.iadd, 1) from by decide +kernel) rfl ?_
  refine sr_sld (q := 606) C HX Hb HbA (show decode cL_law 605 = .ok (.iaload, 1) from by decide +kernel) rfl ?_
  refine sr_cVi (As := [.int (sx (v3 + (1 : Int32)).toNatClampNeg), .int (sx (v3 + (2 : Int32)).toNatClampNeg), .int (sx (v3 + (3 : Int32)).toNatClampNeg), .int (sx (v3 + (4 : Int32)).toNatClampNeg)]) (st := []) (b := v1) (q := 609) C yvX11_path ml_L_62 (cnX11_path (xo κ) v1 (sx (v3 + (1 : Int32)).toNatClampNeg) (sx (v3 + (2 : Int32)).toNatClampNeg) (sx (v3 + (3 : Int32)).toNatClampNeg) (sx (v3 + (4 : Int32)).toNatClampNeg) hv1) hv1 (by decide) rfl rfl rfl (by decide) (by decide) (Nat.le_of_ble_eq_true rfl) rfl (show decode cL_law 606 = .ok (.invokevirtual 62, 3) from by decide +kernel) rfl (fun x606 => ?_)
  refine sr_aload_n (i := 2) (q := 610) C (show decode cL_law 609 = .ok (.aload_n 2, 1) from by decide +kernel) rfl rfl rfl ?_
  refine sr_aload_n (i := 0) (q := 611) C (show decode cL_law 610 = .ok (.aload_n 0, 1) from by decide +kernel) rfl rfl rfl ?_
  refine sr_iload_n (i := 3) (q := 612) C (show decode cL_law 611 = .ok (.iload_n 3, 1) from by decide +kernel) rfl rfl rfl ?_
  refine sr_iconst (v := (1 : Int32)) (q := 613) C (show decode cL_law 612 = .ok (.iconst 1, 1) from by decide +kernel) (by decide) rfl ?_
  refine sr_iadd (q := 614) C (show decode cL_law 613 = .ok (.iadd, 1) from by decide +kernel) rfl ?_
  refine sr_sld (q := 615) C HX Hb HbA (show decode cL_law 614 = .ok (.iaload, 1) from by decide +kernel) rfl ?_
  refine sr_aload_n (i := 0) (q := 616) C (show decode cL_law 615 = .ok (.aload_n 0, 1) from by decide +kernel) rfl rfl rfl ?_
  refine sr_iload_n (i := 3) (q := 617) C (show decode cL_law 616 = .ok (.iload_n 3, 1) from by decide +kernel) rfl rfl rfl ?_
  refine sr_iconst (v := (2 : Int32)) (q := 618) C (show decode cL_law 617 = .ok (.iconst 2, 1) from by decide +kernel) (by decide) rfl ?_
  refine sr_iadd (q := 619) C (show decode cL_law 618 = .ok (.iadd, 1) from by decide +kernel) rfl ?_
  refine sr_sld (q := 620) C HX Hb HbA (show decode cL_law 619 = .ok (.iaload, 1) from by decide +kernel) rfl ?_
  refine sr_aload_n (i := 0) (q := 621) C (show decode cL_law 620 = .ok (.aload_n 0, 1) from by decide +kernel) rfl rfl rfl ?_
  refine sr_iload_n (i := 3) (q := 622) C (show decode cL_law 621 = .ok (.iload_n 3, 1) from by decide +kernel) rfl rfl rfl ?_
  refine sr_iconst (v := (3 : Int32)) (q := 623) C (show decode cL_law 622 = .ok (.iconst 3, 1) from by decide +kernel) (by decide) rfl ?_
  refine sr_iadd (q := 624) C (show decode cL_law 623 = .ok (.iadd, 1) from by decide +kernel) rfl ?_
  refine sr_sld (q := 625) C HX Hb HbA (show decode cL_law 624 = .ok (.iaload, 1) from by decide +kernel) rfl ?_
  refine sr_aload_n (i := 0) (q := 626) C (show decode cL_law 625 = .ok (.aload_n 0, 1) from by decide +kernel) rfl rfl rfl ?_
  refine sr_iload_n (i := 3) (q := 627) C (show decode cL_law 626 = .ok (.iload_n 3, 1) from by decide +kernel) rfl rfl rfl ?_
  refine sr_iconst (v := (4 : Int32)) (q := 628) C (show decode cL_law 627 = .ok (.iconst 4, 1) from by decide +kernel) (by decide) rfl ?_
  refine sr_iadd (q := 629) C (show decode cL_law 628 = .ok (.iadd, 1) from by decide +kernel) rfl ?_
  refine sr_sld (q := 630) C HX Hb HbA (show decode cL_law 629 = .ok (.iaload, 1) from by decide +kernel) rfl ?_
  refine sr_cVi (As := [.int (sx (v3 + (1 : Int32)).toNatClampNeg), .int (sx (v3 + (2 : Int32)).toNatClampNeg), .int (sx (v3 + (3 : Int32)).toNatClampNeg), .int (sx (v3 + (4 : Int32)).toNatClampNeg)]) (st := [.int x606]) (b := v2) (q := 633) C yvX12_path ml_L_66 (cnX12_path (xo κ) v2 (sx (v3 + (1 : Int32)).toNatClampNeg) (sx (v3 + (2 : Int32)).toNatClampNeg) (sx (v3 + (3 : Int32)).toNatClampNeg) (sx (v3 + (4 : Int32)).toNatClampNeg) hv2) hv2 (by decide) rfl rfl rfl (by decide) (by decide) (Nat.le_of_ble_eq_true rfl) rfl (show decode cL_law 630 = .ok (.invokevirtual 66, 3) from by decide +kernel) rfl (fun x630 => ?_)
  refine sr_icmp_eq (q := 636) C 2013 (show decode cL_law 633 = .ok (.if_icmp .eq 1380, 3) from by decide +kernel) (by decide) rfl ?_ ?_
  · exact slL_law_J2013 C HX Hb HbA K18 v1 v2 v3 hv1 hv2
  · refine sr_iconst (v := (0 : Int32)) (q := 637) C (show decode cL_law 636 = .ok (.iconst 0, 1) from by decide +kernel) (by decide) rfl ?_
    exact sr_ireturn C false rfl (show decode cL_law 637 = .ok (.ireturn, 1) from by decide +kernel)
def fnL_law_J638 (sx : Nat → Int32) (Ln : Nat) (k18 : Nat → Nat → Int32 → sm_M Bool) (v1 : Nat) (v2 : Nat) (v3 : Int32) : sm_M Bool := m_gd (¬ ((v3 + (1 : Int32)) < 0 ∨ Ln ≤ (v3 + (1 : Int32)).toNatClampNeg)) <| m_gd (¬ ((v3 + (2 : Int32)) < 0 ∨ Ln ≤ (v3 + (2 : Int32)).toNatClampNeg)) <| m_bnd (fnX11_step v1 (sx (v3 + (1 : Int32)).toNatClampNeg) (sx (v3 + (2 : Int32)).toNatClampNeg)) fun x649 => m_gd (¬ ((v3 + (1 : Int32)) < 0 ∨ Ln ≤ (v3 + (1 : Int32)).toNatClampNeg)) <| m_gd (¬ ((v3 + (2 : Int32)) < 0 ∨ Ln ≤ (v3 + (2 : Int32)).toNatClampNeg)) <| m_bnd (fnX12_step v2 (sx (v3 + (1 : Int32)).toNatClampNeg) (sx (v3 + (2 : Int32)).toNatClampNeg)) fun x663 => m_br (x649 = x663)
    (fnL_law_J2013 sx Ln k18 v1 v2 v3)
    (m_ret false)
set_option maxHeartbeats 4000000 in
set_option maxRecDepth 100000 in
theorem slL_law_J638 {κ : sm_X} (C : sm_C κ R_law cL_law 4 16) {sx : Nat → Int32} {Ln b : Nat} (HX : va_X b Ln sx (xs κ) (xs κ).heap) (Hb : b < (xs κ).heap.size) (HbA : ¬ sm_A (xo κ) b) {k18 : Nat → Nat → Int32 → sm_M Bool} (K18 : ∀ (v1 : Nat) (v2 : Nat) (v3 : Int32) (hv1 : kd v1 = 11) (hv2 : kd v2 = 12), sm_S κ (fun r : Bool => .inr (some (.int (bI r)))) (.inl (18, [some (.ref b), some (xad κ v1), some (xad κ v2), some (.int v3)], [])) (k18 v1 v2 v3)) (v1 : Nat) (v2 : Nat) (v3 : Int32) (hv1 : kd v1 = 11) (hv2 : kd v2 = 12) : sm_S κ (fun r : Bool => .inr (some (.int (bI r)))) (.inl (638, [some (.ref b), some (xad κ v1), some (xad κ v2), some (.int v3)], [])) (fnL_law_J638 sx Ln k18 v1 v2 v3) := by
  unfold fnL_law_J638
  refine sr_aload_n (i := 1) (q := 639) C (show decode cL_law 638 = .ok (.aload_n 1, 1) from by decide +kernel) rfl rfl rfl ?_
  refine sr_aload_n (i := 0) (q := 640) C (show decode cL_law 639 = .ok (.aload_n 0, 1) from by decide +kernel) rfl rfl rfl ?_
  refine sr_iload_n (i := 3) (q := 641) C (show decode cL_law 640 = .ok (.iload_n 3, 1) from by decide +kernel) rfl rfl rfl ?_
  refine sr_iconst (v := (1 : Int32)) (q := 642) C (show decode cL_law 641 = .ok (.iconst 1, 1) from by decide +kernel) (by decide) rfl ?_
  refine sr_iadd (q := 643) C (show decode cL_law 642 = .ok (.iadd, 1) from by decide +kernel) rfl ?_
  refine sr_sld (q := 644) C HX Hb HbA (show decode cL_law 643 = .ok (.iaload, 1) from by decide +kernel) rfl ?_
  refine sr_aload_n (i := 0) (q := 645) C (show decode cL_law 644 = .ok (.aload_n 0, 1) from by decide +kernel) rfl rfl rfl ?_
  refine sr_iload_n (i := 3) (q := 646) C (show decode cL_law 645 = .ok (.iload_n 3, 1) from by decide +kernel) rfl rfl rfl ?_
  refine sr_iconst (v := (2 : Int32)) (q := 647) C (show decode cL_law 646 = .ok (.iconst 2, 1) from by decide +kernel) (by decide) rfl ?_
  refine sr_iadd (q := 648) C (show decode cL_law 647 = .ok (.iadd, 1) from by decide +kernel) rfl ?_
  refine sr_sld (q := 649) C HX Hb HbA (show decode cL_law 648 = .ok (.iaload, 1) from by decide +kernel) rfl ?_
  refine sr_cVi (As := [.int (sx (v3 + (1 : Int32)).toNatClampNeg), .int (sx (v3 + (2 : Int32)).toNatClampNeg)]) (st := []) (b := v1) (q := 652) C yvX11_step ml_L_67 (cnX11_step (xo κ) v1 (sx (v3 + (1 : Int32)).toNatClampNeg) (sx (v3 + (2 : Int32)).toNatClampNeg) hv1) hv1 (by decide) rfl rfl rfl (by decide) (by decide) (Nat.le_of_ble_eq_true rfl) rfl (show decode cL_law 649 = .ok (.invokevirtual 67, 3) from by decide +kernel) rfl (fun x649 => ?_)
  refine sr_aload_n (i := 2) (q := 653) C (show decode cL_law 652 = .ok (.aload_n 2, 1) from by decide +kernel) rfl rfl rfl ?_
  refine sr_aload_n (i := 0) (q := 654) C (show decode cL_law 653 = .ok (.aload_n 0, 1) from by decide +kernel) rfl rfl rfl ?_
  refine sr_iload_n (i := 3) (q := 655) C (show decode cL_law 654 = .ok (.iload_n 3, 1) from by decide +kernel) rfl rfl rfl ?_
  refine sr_iconst (v := (1 : Int32)) (q := 656) C (show decode cL_law 655 = .ok (.iconst 1, 1) from by decide +kernel) (by decide) rfl ?_
  refine sr_iadd (q := 657) C (show decode cL_law 656 = .ok (.iadd, 1) from by decide +kernel) rfl ?_
  refine sr_sld (q := 658) C HX Hb HbA (show decode cL_law 657 = .ok (.iaload, 1) from by decide +kernel) rfl ?_
  refine sr_aload_n (i := 0) (q := 659) C (show decode cL_law 658 = .ok (.aload_n 0, 1) from by decide +kernel) rfl rfl rfl ?_
  refine sr_iload_n (i := 3) (q := 660) C (show decode cL_law 659 = .ok (.iload_n 3, 1) from by decide +kernel) rfl rfl rfl ?_
  refine sr_iconst (v := (2 : Int32)) (q := 661) C (show decode cL_law 660 = .ok (.iconst 2, 1) from by decide +kernel) (by decide) rfl ?_
  refine sr_iadd (q := 662) C (show decode cL_law 661 = .ok (.iadd, 1) from by decide +kernel) rfl ?_
  refine sr_sld (q := 663) C HX Hb HbA (show decode cL_law 662 = .ok (.iaload, 1) from by decide +kernel) rfl ?_
  refine sr_cVi (As := [.int (sx (v3 + (1 : Int32)).toNatClampNeg), .int (sx (v3 + (2 : Int32)).toNatClampNeg)]) (st := [.int x649]) (b := v2) (q := 666) C yvX12_step ml_L_70 (cnX12_step (xo κ) v2 (sx (v3 + (1 : Int32)).toNatClampNeg) (sx (v3 + (2 : Int32)).toNatClampNeg) hv2) hv2 (by decide) rfl rfl rfl (by decide) (by decide) (Nat.le_of_ble_eq_true rfl) rfl (show decode cL_law 663 = .ok (.invokevirtual 70, 3) from by decide +kernel) rfl (fun x663 => ?_)
  refine sr_icmp_eq (q := 669) C 2013 (show decode cL_law 666 = .ok (.if_icmp .eq 1347, 3) from by decide +kernel) (by decide) rfl ?_ ?_
  · exact slL_law_J2013 C HX Hb HbA K18 v1 v2 v3 hv1 hv2
  · refine sr_iconst (v := (0 : Int32)) (q := 670) C (show decode cL_law 669 = .ok (.iconst 0, 1) from by decide +kernel) (by decide) rfl ?_
    exact sr_ireturn C false rfl (show decode cL_law 670 = .ok (.ireturn, 1) from by decide +kernel)
def fnL_law_J671 (sx : Nat → Int32) (Ln : Nat) (k18 : Nat → Nat → Int32 → sm_M Bool) (v1 : Nat) (v2 : Nat) (v3 : Int32) : sm_M Bool := m_gd (¬ ((v3 + (1 : Int32)) < 0 ∨ Ln ≤ (v3 + (1 : Int32)).toNatClampNeg)) <| m_bnd (fnX11_judge v1 (sx (v3 + (1 : Int32)).toNatClampNeg)) fun x677 => m_gd (¬ ((v3 + (1 : Int32)) < 0 ∨ Ln ≤ (v3 + (1 : Int32)).toNatClampNeg)) <| m_bnd (fnX12_judge v2 (sx (v3 + (1 : Int32)).toNatClampNeg)) fun x686 => m_br (x677 = x686)
    (fnL_law_J2013 sx Ln k18 v1 v2 v3)
    (m_ret false)
set_option maxHeartbeats 4000000 in
set_option maxRecDepth 100000 in
theorem slL_law_J671 {κ : sm_X} (C : sm_C κ R_law cL_law 4 16) {sx : Nat → Int32} {Ln b : Nat} (HX : va_X b Ln sx (xs κ) (xs κ).heap) (Hb : b < (xs κ).heap.size) (HbA : ¬ sm_A (xo κ) b) {k18 : Nat → Nat → Int32 → sm_M Bool} (K18 : ∀ (v1 : Nat) (v2 : Nat) (v3 : Int32) (hv1 : kd v1 = 11) (hv2 : kd v2 = 12), sm_S κ (fun r : Bool => .inr (some (.int (bI r)))) (.inl (18, [some (.ref b), some (xad κ v1), some (xad κ v2), some (.int v3)], [])) (k18 v1 v2 v3)) (v1 : Nat) (v2 : Nat) (v3 : Int32) (hv1 : kd v1 = 11) (hv2 : kd v2 = 12) : sm_S κ (fun r : Bool => .inr (some (.int (bI r)))) (.inl (671, [some (.ref b), some (xad κ v1), some (xad κ v2), some (.int v3)], [])) (fnL_law_J671 sx Ln k18 v1 v2 v3) := by
  unfold fnL_law_J671
  refine sr_aload_n (i := 1) (q := 672) C (show decode cL_law 671 = .ok (.aload_n 1, 1) from by decide +kernel) rfl rfl rfl ?_
  refine sr_aload_n (i := 0) (q := 673) C (show decode cL_law 672 = .ok (.aload_n 0, 1) from by decide +kernel) rfl rfl rfl ?_
  refine sr_iload_n (i := 3) (q := 674) C (show decode cL_law 673 = .ok (.iload_n 3, 1) from by decide +kernel) rfl rfl rfl ?_
  refine sr_iconst (v := (1 : Int32)) (q := 675) C (show decode cL_law 674 = .ok (.iconst 1, 1) from by decide +kernel) (by decide) rfl ?_
  refine sr_iadd (q := 676) C (show decode cL_law 675 = .ok (.iadd, 1) from by decide +kernel) rfl ?_
  refine sr_sld (q := 677) C HX Hb HbA (show decode cL_law 676 = .ok (.iaload, 1) from by decide +kernel) rfl ?_
  refine sr_cVi (As := [.int (sx (v3 + (1 : Int32)).toNatClampNeg)]) (st := []) (b := v1) (q := 680) C yvX11_judge ml_L_71 (cnX11_judge (xo κ) v1 (sx (v3 + (1 : Int32)).toNatClampNeg) hv1) hv1 (by decide) rfl rfl rfl (by decide) (by decide) (Nat.le_of_ble_eq_true rfl) rfl (show decode cL_law 677 = .ok (.invokevirtual 71, 3) from by decide +kernel) rfl (fun x677 => ?_)
  refine sr_aload_n (i := 2) (q := 681) C (show decode cL_law 680 = .ok (.aload_n 2, 1) from by decide +kernel) rfl rfl rfl ?_
  refine sr_aload_n (i := 0) (q := 682) C (show decode cL_law 681 = .ok (.aload_n 0, 1) from by decide +kernel) rfl rfl rfl ?_
  refine sr_iload_n (i := 3) (q := 683) C (show decode cL_law 682 = .ok (.iload_n 3, 1) from by decide +kernel) rfl rfl rfl ?_
  refine sr_iconst (v := (1 : Int32)) (q := 684) C (show decode cL_law 683 = .ok (.iconst 1, 1) from by decide +kernel) (by decide) rfl ?_
  refine sr_iadd (q := 685) C (show decode cL_law 684 = .ok (.iadd, 1) from by decide +kernel) rfl ?_
  refine sr_sld (q := 686) C HX Hb HbA (show decode cL_law 685 = .ok (.iaload, 1) from by decide +kernel) rfl ?_
  refine sr_cVi (As := [.int (sx (v3 + (1 : Int32)).toNatClampNeg)]) (st := [.int x677]) (b := v2) (q := 689) C yvX12_judge ml_L_74 (cnX12_judge (xo κ) v2 (sx (v3 + (1 : Int32)).toNatClampNeg) hv2) hv2 (by decide) rfl rfl rfl (by decide) (by decide) (Nat.le_of_ble_eq_true rfl) rfl (show decode cL_law 686 = .ok (.invokevirtual 74, 3) from by decide +kernel) rfl (fun x686 => ?_)
  refine sr_icmp_eq (q := 692) C 2013 (show decode cL_law 689 = .ok (.if_icmp .eq 1324, 3) from by decide +kernel) (by decide) rfl ?_ ?_
  · exact slL_law_J2013 C HX Hb HbA K18 v1 v2 v3 hv1 hv2
  · refine sr_iconst (v := (0 : Int32)) (q := 693) C (show decode cL_law 692 = .ok (.iconst 0, 1) from by decide +kernel) (by decide) rfl ?_
    exact sr_ireturn C false rfl (show decode cL_law 693 = .ok (.ireturn, 1) from by decide +kernel)
def fnL_law_J694 (sx : Nat → Int32) (Ln : Nat) (k18 : Nat → Nat → Int32 → sm_M Bool) (v1 : Nat) (v2 : Nat) (v3 : Int32) : sm_M Bool := m_gd (¬ ((v3 + (1 : Int32)) < 0 ∨ Ln ≤ (v3 + (1 : Int32)).toNatClampNeg)) <| m_gd (¬ ((v3 + (2 : Int32)) < 0 ∨ Ln ≤ (v3 + (2 : Int32)).toNatClampNeg)) <| m_bnd (fnX11_ends v1 (sx (v3 + (1 : Int32)).toNatClampNeg) (sx (v3 + (2 : Int32)).toNatClampNeg)) fun x705 => m_gd (¬ ((v3 + (1 : Int32)) < 0 ∨ Ln ≤ (v3 + (1 : Int32)).toNatClampNeg)) <| m_gd (¬ ((v3 + (2 : Int32)) < 0 ∨ Ln ≤ (v3 + (2 : Int32)).toNatClampNeg)) <| m_bnd (fnX12_ends v2 (sx (v3 + (1 : Int32)).toNatClampNeg) (sx (v3 + (2 : Int32)).toNatClampNeg)) fun x719 => m_br (x705 = x719)
    (fnL_law_J2013 sx Ln k18 v1 v2 v3)
    (m_ret false)
set_option maxHeartbeats 4000000 in
set_option maxRecDepth 100000 in
theorem slL_law_J694 {κ : sm_X} (C : sm_C κ R_law cL_law 4 16) {sx : Nat → Int32} {Ln b : Nat} (HX : va_X b Ln sx (xs κ) (xs κ).heap) (Hb : b < (xs κ).heap.size) (HbA : ¬ sm_A (xo κ) b) {k18 : Nat → Nat → Int32 → sm_M Bool} (K18 : ∀ (v1 : Nat) (v2 : Nat) (v3 : Int32) (hv1 : kd v1 = 11) (hv2 : kd v2 = 12), sm_S κ (fun r : Bool => .inr (some (.int (bI r)))) (.inl (18, [some (.ref b), some (xad κ v1), some (xad κ v2), some (.int v3)], [])) (k18 v1 v2 v3)) (v1 : Nat) (v2 : Nat) (v3 : Int32) (hv1 : kd v1 = 11) (hv2 : kd v2 = 12) : sm_S κ (fun r : Bool => .inr (some (.int (bI r)))) (.inl (694, [some (.ref b), some (xad κ v1), some (xad κ v2), some (.int v3)], [])) (fnL_law_J694 sx Ln k18 v1 v2 v3) := by
  unfold fnL_law_J694
  refine sr_aload_n (i := 1) (q := 695) C (show decode cL_law 694 = .ok (.aload_n 1, 1) from by decide +kernel) rfl rfl rfl ?_
  refine sr_aload_n (i := 0) (q := 696) C (show decode cL_law 695 = .ok (.aload_n 0, 1) from by decide +kernel) rfl rfl rfl ?_
  refine sr_iload_n (i := 3) (q := 697) C (show decode cL_law 696 = .ok (.iload_n 3, 1) from by decide +kernel) rfl rfl rfl ?_
  refine sr_iconst (v := (1 : Int32)) (q := 698) C (show decode cL_law 697 = .ok (.iconst 1, 1) from by decide +kernel) (by decide) rfl ?_
  refine sr_iadd (q := 699) C (show decode cL_law 698 = .ok (.iadd, 1) from by decide +kernel) rfl ?_
  refine sr_sld (q := 700) C HX Hb HbA (show decode cL_law 699 = .ok (.iaload, 1) from by decide +kernel) rfl ?_
  refine sr_aload_n (i := 0) (q := 701) C (show decode cL_law 700 = .ok (.aload_n 0, 1) from by decide +kernel) rfl rfl rfl ?_
  refine sr_iload_n (i := 3) (q := 702) C (show decode cL_law 701 = .ok (.iload_n 3, 1) from by decide +kernel) rfl rfl rfl ?_
  refine sr_iconst (v := (2 : Int32)) (q := 703) C (show decode cL_law 702 = .ok (.iconst 2, 1) from by decide +kernel) (by decide) rfl ?_
  refine sr_iadd (q := 704) C (show decode cL_law 703 = .ok (.iadd, 1) from by decide +kernel) rfl ?_
  refine sr_sld (q := 705) C HX Hb HbA (show decode cL_law 704 = .ok (.iaload, 1) from by decide +kernel) rfl ?_
  refine sr_cVi (As := [.int (sx (v3 + (1 : Int32)).toNatClampNeg), .int (sx (v3 + (2 : Int32)).toNatClampNeg)]) (st := []) (b := v1) (q := 708) C yvX11_ends ml_L_75 (cnX11_ends (xo κ) v1 (sx (v3 + (1 : Int32)).toNatClampNeg) (sx (v3 + (2 : Int32)).toNatClampNeg) hv1) hv1 (by decide) rfl rfl rfl (by decide) (by decide) (Nat.le_of_ble_eq_true rfl) rfl (show decode cL_law 705 = .ok (.invokevirtual 75, 3) from by decide +kernel) rfl (fun x705 => ?_)
  refine sr_aload_n (i := 2) (q := 709) C (show decode cL_law 708 = .ok (.aload_n 2, 1) from by decide +kernel) rfl rfl rfl ?_
  refine sr_aload_n (i := 0) (q := 710) C (show decode cL_law 709 = .ok (.aload_n 0, 1) from by decide +kernel) rfl rfl rfl ?_
  refine sr_iload_n (i := 3) (q := 711) C (show decode cL_law 710 = .ok (.iload_n 3, 1) from by decide +kernel) rfl rfl rfl ?_
  refine sr_iconst (v := (1 : Int32)) (q := 712) C (show decode cL_law 711 = .ok (.iconst 1, 1) from by decide +kernel) (by decide) rfl ?_
  refine sr_iadd (q := 713) C (show decode cL_law 712 = .ok (.iadd, 1) from by decide +kernel) rfl ?_
  refine sr_sld (q := 714) C HX Hb HbA (show decode cL_law 713 = .ok (.iaload, 1) from by decide +kernel) rfl ?_
  refine sr_aload_n (i := 0) (q := 715) C (show decode cL_law 714 = .ok (.aload_n 0, 1) from by decide +kernel) rfl rfl rfl ?_
  refine sr_iload_n (i := 3) (q := 716) C (show decode cL_law 715 = .ok (.iload_n 3, 1) from by decide +kernel) rfl rfl rfl ?_
  refine sr_iconst (v := (2 : Int32)) (q := 717) C (show decode cL_law 716 = .ok (.iconst 2, 1) from by decide +kernel) (by decide) rfl ?_
  refine sr_iadd (q := 718) C (show decode cL_law 717 = .ok (.iadd, 1) from by decide +kernel) rfl ?_
  refine sr_sld (q := 719) C HX Hb HbA (show decode cL_law 718 = .ok (.iaload, 1) from by decide +kernel) rfl ?_
  refine sr_cVi (As := [.int (sx (v3 + (1 : Int32)).toNatClampNeg), .int (sx (v3 + (2 : Int32)).toNatClampNeg)]) (st := [.int x705]) (b := v2) (q := 722) C yvX12_ends ml_L_78 (cnX12_ends (xo κ) v2 (sx (v3 + (1 : Int32)).toNatClampNeg) (sx (v3 + (2 : Int32)).toNatClampNeg) hv2) hv2 (by decide) rfl rfl rfl (by decide) (by decide) (Nat.le_of_ble_eq_true rfl) rfl (show decode cL_law 719 = .ok (.invokevirtual 78, 3) from by decide +kernel) rfl (fun x719 => ?_)
  refine sr_icmp_eq (q := 725) C 2013 (show decode cL_law 722 = .ok (.if_icmp .eq 1291, 3) from by decide +kernel) (by decide) rfl ?_ ?_
  · exact slL_law_J2013 C HX Hb HbA K18 v1 v2 v3 hv1 hv2
  · refine sr_iconst (v := (0 : Int32)) (q := 726) C (show decode cL_law 725 = .ok (.iconst 0, 1) from by decide +kernel) (by decide) rfl ?_
    exact sr_ireturn C false rfl (show decode cL_law 726 = .ok (.ireturn, 1) from by decide +kernel)
def fnL_law_J727 (sx : Nat → Int32) (Ln : Nat) (k18 : Nat → Nat → Int32 → sm_M Bool) (v1 : Nat) (v2 : Nat) (v3 : Int32) : sm_M Bool := m_gd (¬ ((v3 + (1 : Int32)) < 0 ∨ Ln ≤ (v3 + (1 : Int32)).toNatClampNeg)) <| m_gd (¬ ((v3 + (2 : Int32)) < 0 ∨ Ln ≤ (v3 + (2 : Int32)).toNatClampNeg)) <| m_bnd (fnX11_go v1 (sx (v3 + (1 : Int32)).toNatClampNeg) (sx (v3 + (2 : Int32)).toNatClampNeg)) fun x738 => m_gd (¬ ((v3 + (1 : Int32)) < 0 ∨ Ln ≤ (v3 + (1 : Int32)).toNatClampNeg)) <| m_gd (¬ ((v3 + (2 : Int32)) < 0 ∨ Ln ≤ (v3 + (2 : Int32)).toNatClampNeg)) <| m_bnd (fnX12_go v2 (sx (v3 + (1 : Int32)).toNatClampNeg) (sx (v3 + (2 : Int32)).toNatClampNeg)) fun x752 => m_br (x738 = x752)
    (fnL_law_J2013 sx Ln k18 v1 v2 v3)
    (m_ret false)
set_option maxHeartbeats 4000000 in
set_option maxRecDepth 100000 in
theorem slL_law_J727 {κ : sm_X} (C : sm_C κ R_law cL_law 4 16) {sx : Nat → Int32} {Ln b : Nat} (HX : va_X b Ln sx (xs κ) (xs κ).heap) (Hb : b < (xs κ).heap.size) (HbA : ¬ sm_A (xo κ) b) {k18 : Nat → Nat → Int32 → sm_M Bool} (K18 : ∀ (v1 : Nat) (v2 : Nat) (v3 : Int32) (hv1 : kd v1 = 11) (hv2 : kd v2 = 12), sm_S κ (fun r : Bool => .inr (some (.int (bI r)))) (.inl (18, [some (.ref b), some (xad κ v1), some (xad κ v2), some (.int v3)], [])) (k18 v1 v2 v3)) (v1 : Nat) (v2 : Nat) (v3 : Int32) (hv1 : kd v1 = 11) (hv2 : kd v2 = 12) : sm_S κ (fun r : Bool => .inr (some (.int (bI r)))) (.inl (727, [some (.ref b), some (xad κ v1), some (xad κ v2), some (.int v3)], [])) (fnL_law_J727 sx Ln k18 v1 v2 v3) := by
  unfold fnL_law_J727
  refine sr_aload_n (i := 1) (q := 728) C (show decode cL_law 727 = .ok (.aload_n 1, 1) from by decide +kernel) rfl rfl rfl ?_
  refine sr_aload_n (i := 0) (q := 729) C (show decode cL_law 728 = .ok (.aload_n 0, 1) from by decide +kernel) rfl rfl rfl ?_
  refine sr_iload_n (i := 3) (q := 730) C (show decode cL_law 729 = .ok (.iload_n 3, 1) from by decide +kernel) rfl rfl rfl ?_
  refine sr_iconst (v := (1 : Int32)) (q := 731) C (show decode cL_law 730 = .ok (.iconst 1, 1) from by decide +kernel) (by decide) rfl ?_
  refine sr_iadd (q := 732) C (show decode cL_law 731 = .ok (.iadd, 1) from by decide +kernel) rfl ?_
  refine sr_sld (q := 733) C HX Hb HbA (show decode cL_law 732 = .ok (.iaload, 1) from by decide +kernel) rfl ?_
  refine sr_aload_n (i := 0) (q := 734) C (show decode cL_law 733 = .ok (.aload_n 0, 1) from by decide +kernel) rfl rfl rfl ?_
  refine sr_iload_n (i := 3) (q := 735) C (show decode cL_law 734 = .ok (.iload_n 3, 1) from by decide +kernel) rfl rfl rfl ?_
  refine sr_iconst (v := (2 : Int32)) (q := 736) C (show decode cL_law 735 = .ok (.iconst 2, 1) from by decide +kernel) (by decide) rfl ?_
  refine sr_iadd (q := 737) C (show decode cL_law 736 = .ok (.iadd, 1) from by decide +kernel) rfl ?_
  refine sr_sld (q := 738) C HX Hb HbA (show decode cL_law 737 = .ok (.iaload, 1) from by decide +kernel) rfl ?_
  refine sr_cVi (As := [.int (sx (v3 + (1 : Int32)).toNatClampNeg), .int (sx (v3 + (2 : Int32)).toNatClampNeg)]) (st := []) (b := v1) (q := 741) C yvX11_go ml_L_79 (cnX11_go (xo κ) v1 (sx (v3 + (1 : Int32)).toNatClampNeg) (sx (v3 + (2 : Int32)).toNatClampNeg) hv1) hv1 (by decide) rfl rfl rfl (by decide) (by decide) (Nat.le_of_ble_eq_true rfl) rfl (show decode cL_law 738 = .ok (.invokevirtual 79, 3) from by decide +kernel) rfl (fun x738 => ?_)
  refine sr_aload_n (i := 2) (q := 742) C (show decode cL_law 741 = .ok (.aload_n 2, 1) from by decide +kernel) rfl rfl rfl ?_
  refine sr_aload_n (i := 0) (q := 743) C (show decode cL_law 742 = .ok (.aload_n 0, 1) from by decide +kernel) rfl rfl rfl ?_
  refine sr_iload_n (i := 3) (q := 744) C (show decode cL_law 743 = .ok (.iload_n 3, 1) from by decide +kernel) rfl rfl rfl ?_
  refine sr_iconst (v := (1 : Int32)) (q := 745) C (show decode cL_law 744 = .ok (.iconst 1, 1) from by decide +kernel) (by decide) rfl ?_
  refine sr_iadd (q := 746) C (show decode cL_law 745 = .ok (.iadd, 1) from by decide +kernel) rfl ?_
  refine sr_sld (q := 747) C HX Hb HbA (show decode cL_law 746 = .ok (.iaload, 1) from by decide +kernel) rfl ?_
  refine sr_aload_n (i := 0) (q := 748) C (show decode cL_law 747 = .ok (.aload_n 0, 1) from by decide +kernel) rfl rfl rfl ?_
  refine sr_iload_n (i := 3) (q := 749) C (show decode cL_law 748 = .ok (.iload_n 3, 1) from by decide +kernel) rfl rfl rfl ?_
  refine sr_iconst (v := (2 : Int32)) (q := 750) C (show decode cL_law 749 = .ok (.iconst 2, 1) from by decide +kernel) (by decide) rfl ?_
  refine sr_iadd (q := 751) C (show decode cL_law 750 = .ok (.iadd, 1) from by decide +kernel) rfl ?_
  refine sr_sld (q := 752) C HX Hb HbA (show decode cL_law 751 = .ok (.iaload, 1) from by decide +kernel) rfl ?_
  refine sr_cVi (As := [.int (sx (v3 + (1 : Int32)).toNatClampNeg), .int (sx (v3 + (2 : Int32)).toNatClampNeg)]) (st := [.int x738]) (b := v2) (q := 755) C yvX12_go ml_L_82 (cnX12_go (xo κ) v2 (sx (v3 + (1 : Int32)).toNatClampNeg) (sx (v3 + (2 : Int32)).toNatClampNeg) hv2) hv2 (by decide) rfl rfl rfl (by decide) (by decide) (Nat.le_of_ble_eq_true rfl) rfl (show decode cL_law 752 = .ok (.invokevirtual 82, 3) from by decide +kernel) rfl (fun x752 => ?_)
  refine sr_icmp_eq (q := 758) C 2013 (show decode cL_law 755 = .ok (.if_icmp .eq 1258, 3) from by decide +kernel) (by decide) rfl ?_ ?_
  · exact slL_law_J2013 C HX Hb HbA K18 v1 v2 v3 hv1 hv2
  · refine sr_iconst (v := (0 : Int32)) (q := 759) C (show decode cL_law 758 = .ok (.iconst 0, 1) from by decide +kernel) (by decide) rfl ?_
    exact sr_ireturn C false rfl (show decode cL_law 759 = .ok (.ireturn, 1) from by decide +kernel)
def fnL_law_J760 (sx : Nat → Int32) (Ln : Nat) (k18 : Nat → Nat → Int32 → sm_M Bool) (v1 : Nat) (v2 : Nat) (v3 : Int32) : sm_M Bool := m_gd (¬ ((v3 + (1 : Int32)) < 0 ∨ Ln ≤ (v3 + (1 : Int32)).toNatClampNeg)) <| m_gd (¬ ((v3 + (2 : Int32)) < 0 ∨ Ln ≤ (v3 + (2 : Int32)).toNatClampNeg)) <| m_bnd (fnX11_over v1 (sx (v3 + (1 : Int32)).toNatClampNeg) (sx (v3 + (2 : Int32)).toNatClampNeg)) fun x771 => m_gd (¬ ((v3 + (1 : Int32)) < 0 ∨ Ln ≤ (v3 + (1 : Int32)).toNatClampNeg)) <| m_gd (¬ ((v3 + (2 : Int32)) < 0 ∨ Ln ≤ (v3 + (2 : Int32)).toNatClampNeg)) <| m_bnd (fnX12_over v2 (sx (v3 + (1 : Int32)).toNatClampNeg) (sx (v3 + (2 : Int32)).toNatClampNeg)) fun x785 => m_br (x771 = x785)
    (fnL_law_J2013 sx Ln k18 v1 v2 v3)
    (m_ret false)
set_option maxHeartbeats 4000000 in
set_option maxRecDepth 100000 in
theorem slL_law_J760 {κ : sm_X} (C : sm_C κ R_law cL_law 4 16) {sx : Nat → Int32} {Ln b : Nat} (HX : va_X b Ln sx (xs κ) (xs κ).heap) (Hb : b < (xs κ).heap.size) (HbA : ¬ sm_A (xo κ) b) {k18 : Nat → Nat → Int32 → sm_M Bool} (K18 : ∀ (v1 : Nat) (v2 : Nat) (v3 : Int32) (hv1 : kd v1 = 11) (hv2 : kd v2 = 12), sm_S κ (fun r : Bool => .inr (some (.int (bI r)))) (.inl (18, [some (.ref b), some (xad κ v1), some (xad κ v2), some (.int v3)], [])) (k18 v1 v2 v3)) (v1 : Nat) (v2 : Nat) (v3 : Int32) (hv1 : kd v1 = 11) (hv2 : kd v2 = 12) : sm_S κ (fun r : Bool => .inr (some (.int (bI r)))) (.inl (760, [some (.ref b), some (xad κ v1), some (xad κ v2), some (.int v3)], [])) (fnL_law_J760 sx Ln k18 v1 v2 v3) := by
  unfold fnL_law_J760
  refine sr_aload_n (i := 1) (q := 761) C (show decode cL_law 760 = .ok (.aload_n 1, 1) from by decide +kernel) rfl rfl rfl ?_
  refine sr_aload_n (i := 0) (q := 762) C (show decode cL_law 761 = .ok (.aload_n 0, 1) from by decide +kernel) rfl rfl rfl ?_
  refine sr_iload_n (i := 3) (q := 763) C (show decode cL_law 762 = .ok (.iload_n 3, 1) from by decide +kernel) rfl rfl rfl ?_
  refine sr_iconst (v := (1 : Int32)) (q := 764) C (show decode cL_law 763 = .ok (.iconst 1, 1) from by decide +kernel) (by decide) rfl ?_
  refine sr_iadd (q := 765) C (show decode cL_law 764 = .ok (.iadd, 1) from by decide +kernel) rfl ?_
  refine sr_sld (q := 766) C HX Hb HbA (show decode cL_law 765 = .ok (.iaload, 1) from by decide +kernel) rfl ?_
  refine sr_aload_n (i := 0) (q := 767) C (show decode cL_law 766 = .ok (.aload_n 0, 1) from by decide +kernel) rfl rfl rfl ?_
  refine sr_iload_n (i := 3) (q := 768) C (show decode cL_law 767 = .ok (.iload_n 3, 1) from by decide +kernel) rfl rfl rfl ?_
  refine sr_iconst (v := (2 : Int32)) (q := 769) C (show decode cL_law 768 = .ok (.iconst 2, 1) from by decide +kernel) (by decide) rfl ?_
  refine sr_iadd (q := 770) C (show decode cL_law 769 = .ok (.iadd, 1) from by decide +kernel) rfl ?_
  refine sr_sld (q := 771) C HX Hb HbA (show decode cL_law 770 = .ok (.iaload, 1) from by decide +kernel) rfl ?_
  refine sr_cVi (As := [.int (sx (v3 + (1 : Int32)).toNatClampNeg), .int (sx (v3 + (2 : Int32)).toNatClampNeg)]) (st := []) (b := v1) (q := 774) C yvX11_over ml_L_83 (cnX11_over (xo κ) v1 (sx (v3 + (1 : Int32)).toNatClampNeg) (sx (v3 + (2 : Int32)).toNatClampNeg) hv1) hv1 (by decide) rfl rfl rfl (by decide) (by decide) (Nat.le_of_ble_eq_true rfl) rfl (show decode cL_law 771 = .ok (.invokevirtual 83, 3) from by decide +kernel) rfl (fun x771 => ?_)
  refine sr_aload_n (i := 2) (q := 775) C (show decode cL_law 774 = .ok (.aload_n 2, 1) from by decide +kernel) rfl rfl rfl ?_
  refine sr_aload_n (i := 0) (q := 776) C (show decode cL_law 775 = .ok (.aload_n 0, 1) from by decide +kernel) rfl rfl rfl ?_
  refine sr_iload_n (i := 3) (q := 777) C (show decode cL_law 776 = .ok (.iload_n 3, 1) from by decide +kernel) rfl rfl rfl ?_
  refine sr_iconst (v := (1 : Int32)) (q := 778) C (show decode cL_law 777 = .ok (.iconst 1, 1) from by decide +kernel) (by decide) rfl ?_
  refine sr_iadd (q := 779) C (show decode cL_law 778 = .ok (.iadd, 1) from by decide +kernel) rfl ?_
  refine sr_sld (q := 780) C HX Hb HbA (show decode cL_law 779 = .ok (.iaload, 1) from by decide +kernel) rfl ?_
  refine sr_aload_n (i := 0) (q := 781) C (show decode cL_law 780 = .ok (.aload_n 0, 1) from by decide +kernel) rfl rfl rfl ?_
  refine sr_iload_n (i := 3) (q := 782) C (show decode cL_law 781 = .ok (.iload_n 3, 1) from by decide +kernel) rfl rfl rfl ?_
  refine sr_iconst (v := (2 : Int32)) (q := 783) C (show decode cL_law 782 = .ok (.iconst 2, 1) from by decide +kernel) (by decide) rfl ?_
  refine sr_iadd (q := 784) C (show decode cL_law 783 = .ok (.iadd, 1) from by decide +kernel) rfl ?_
  refine sr_sld (q := 785) C HX Hb HbA (show decode cL_law 784 = .ok (.iaload, 1) from by decide +kernel) rfl ?_
  refine sr_cVi (As := [.int (sx (v3 + (1 : Int32)).toNatClampNeg), .int (sx (v3 + (2 : Int32)).toNatClampNeg)]) (st := [.int x771]) (b := v2) (q := 788) C yvX12_over ml_L_86 (cnX12_over (xo κ) v2 (sx (v3 + (1 : Int32)).toNatClampNeg) (sx (v3 + (2 : Int32)).toNatClampNeg) hv2) hv2 (by decide) rfl rfl rfl (by decide) (by decide) (Nat.le_of_ble_eq_true rfl) rfl (show decode cL_law 785 = .ok (.invokevirtual 86, 3) from by decide +kernel) rfl (fun x785 => ?_)
  refine sr_icmp_eq (q := 791) C 2013 (show decode cL_law 788 = .ok (.if_icmp .eq 1225, 3) from by decide +kernel) (by decide) rfl ?_ ?_
  · exact slL_law_J2013 C HX Hb HbA K18 v1 v2 v3 hv1 hv2
  · refine sr_iconst (v := (0 : Int32)) (q := 792) C (show decode cL_law 791 = .ok (.iconst 0, 1) from by decide +kernel) (by decide) rfl ?_
    exact sr_ireturn C false rfl (show decode cL_law 792 = .ok (.ireturn, 1) from by decide +kernel)
def fnL_law_J793 (sx : Nat → Int32) (Ln : Nat) (k18 : Nat → Nat → Int32 → sm_M Bool) (v1 : Nat) (v2 : Nat) (v3 : Int32) : sm_M Bool := m_gd (¬ ((v3 + (1 : Int32)) < 0 ∨ Ln ≤ (v3 + (1 : Int32)).toNatClampNeg)) <| m_bnd (fnX11_all v1 (sx (v3 + (1 : Int32)).toNatClampNeg)) fun x799 => m_gd (¬ ((v3 + (1 : Int32)) < 0 ∨ Ln ≤ (v3 + (1 : Int32)).toNatClampNeg)) <| m_bnd (fnX12_all v2 (sx (v3 + (1 : Int32)).toNatClampNeg)) fun x808 => m_br (x799 = x808)
    (fnL_law_J2013 sx Ln k18 v1 v2 v3)
    (m_ret false)
set_option maxHeartbeats 4000000 in
set_option maxRecDepth 100000 in
theorem slL_law_J793 {κ : sm_X} (C : sm_C κ R_law cL_law 4 16) {sx : Nat → Int32} {Ln b : Nat} (HX : va_X b Ln sx (xs κ) (xs κ).heap) (Hb : b < (xs κ).heap.size) (HbA : ¬ sm_A (xo κ) b) {k18 : Nat → Nat → Int32 → sm_M Bool} (K18 : ∀ (v1 : Nat) (v2 : Nat) (v3 : Int32) (hv1 : kd v1 = 11) (hv2 : kd v2 = 12), sm_S κ (fun r : Bool => .inr (some (.int (bI r)))) (.inl (18, [some (.ref b), some (xad κ v1), some (xad κ v2), some (.int v3)], [])) (k18 v1 v2 v3)) (v1 : Nat) (v2 : Nat) (v3 : Int32) (hv1 : kd v1 = 11) (hv2 : kd v2 = 12) : sm_S κ (fun r : Bool => .inr (some (.int (bI r)))) (.inl (793, [some (.ref b), some (xad κ v1), some (xad κ v2), some (.int v3)], [])) (fnL_law_J793 sx Ln k18 v1 v2 v3) := by
  unfold fnL_law_J793
  refine sr_aload_n (i := 1) (q := 794) C (show decode cL_law 793 = .ok (.aload_n 1, 1) from by decide +kernel) rfl rfl rfl ?_
  refine sr_aload_n (i := 0) (q := 795) C (show decode cL_law 794 = .ok (.aload_n 0, 1) from by decide +kernel) rfl rfl rfl ?_
  refine sr_iload_n (i := 3) (q := 796) C (show decode cL_law 795 = .ok (.iload_n 3, 1) from by decide +kernel) rfl rfl rfl ?_
  refine sr_iconst (v := (1 : Int32)) (q := 797) C (show decode cL_law 796 = .ok (.iconst 1, 1) from by decide +kernel) (by decide) rfl ?_
  refine sr_iadd (q := 798) C (show decode cL_law 797 = .ok (.iadd, 1) from by decide +kernel) rfl ?_
  refine sr_sld (q := 799) C HX Hb HbA (show decode cL_law 798 = .ok (.iaload, 1) from by decide +kernel) rfl ?_
  refine sr_cVi (As := [.int (sx (v3 + (1 : Int32)).toNatClampNeg)]) (st := []) (b := v1) (q := 802) C yvX11_all ml_L_87 (cnX11_all (xo κ) v1 (sx (v3 + (1 : Int32)).toNatClampNeg) hv1) hv1 (by decide) rfl rfl rfl (by decide) (by decide) (Nat.le_of_ble_eq_true rfl) rfl (show decode cL_law 799 = .ok (.invokevirtual 87, 3) from by decide +kernel) rfl (fun x799 => ?_)
  refine sr_aload_n (i := 2) (q := 803) C (show decode cL_law 802 = .ok (.aload_n 2, 1) from by decide +kernel) rfl rfl rfl ?_
  refine sr_aload_n (i := 0) (q := 804) C (show decode cL_law 803 = .ok (.aload_n 0, 1) from by decide +kernel) rfl rfl rfl ?_
  refine sr_iload_n (i := 3) (q := 805) C (show decode cL_law 804 = .ok (.iload_n 3, 1) from by decide +kernel) rfl rfl rfl ?_
  refine sr_iconst (v := (1 : Int32)) (q := 806) C (show decode cL_law 805 = .ok (.iconst 1, 1) from by decide +kernel) (by decide) rfl ?_
  refine sr_iadd (q := 807) C (show decode cL_law 806 = .ok (.iadd, 1) from by decide +kernel) rfl ?_
  refine sr_sld (q := 808) C HX Hb HbA (show decode cL_law 807 = .ok (.iaload, 1) from by decide +kernel) rfl ?_
  refine sr_cVi (As := [.int (sx (v3 + (1 : Int32)).toNatClampNeg)]) (st := [.int x799]) (b := v2) (q := 811) C yvX12_all ml_L_90 (cnX12_all (xo κ) v2 (sx (v3 + (1 : Int32)).toNatClampNeg) hv2) hv2 (by decide) rfl rfl rfl (by decide) (by decide) (Nat.le_of_ble_eq_true rfl) rfl (show decode cL_law 808 = .ok (.invokevirtual 90, 3) from by decide +kernel) rfl (fun x808 => ?_)
  refine sr_icmp_eq (q := 814) C 2013 (show decode cL_law 811 = .ok (.if_icmp .eq 1202, 3) from by decide +kernel) (by decide) rfl ?_ ?_
  · exact slL_law_J2013 C HX Hb HbA K18 v1 v2 v3 hv1 hv2
  · refine sr_iconst (v := (0 : Int32)) (q := 815) C (show decode cL_law 814 = .ok (.iconst 0, 1) from by decide +kernel) (by decide) rfl ?_
    exact sr_ireturn C false rfl (show decode cL_law 815 = .ok (.ireturn, 1) from by decide +kernel)
def fnL_law_J816 (sx : Nat → Int32) (Ln : Nat) (k18 : Nat → Nat → Int32 → sm_M Bool) (v1 : Nat) (v2 : Nat) (v3 : Int32) : sm_M Bool := m_gd (¬ ((v3 + (1 : Int32)) < 0 ∨ Ln ≤ (v3 + (1 : Int32)).toNatClampNeg)) <| m_gd (¬ ((v3 + (2 : Int32)) < 0 ∨ Ln ≤ (v3 + (2 : Int32)).toNatClampNeg)) <| m_bnd (fnX11_order v1 (sx (v3 + (1 : Int32)).toNatClampNeg) (sx (v3 + (2 : Int32)).toNatClampNeg)) fun x827 => m_gd (¬ ((v3 + (1 : Int32)) < 0 ∨ Ln ≤ (v3 + (1 : Int32)).toNatClampNeg)) <| m_gd (¬ ((v3 + (2 : Int32)) < 0 ∨ Ln ≤ (v3 + (2 : Int32)).toNatClampNeg)) <| m_bnd (fnX12_order v2 (sx (v3 + (1 : Int32)).toNatClampNeg) (sx (v3 + (2 : Int32)).toNatClampNeg)) fun x841 => m_br (x827 = x841)
    (fnL_law_J2013 sx Ln k18 v1 v2 v3)
    (m_ret false)
set_option maxHeartbeats 4000000 in
set_option maxRecDepth 100000 in
theorem slL_law_J816 {κ : sm_X} (C : sm_C κ R_law cL_law 4 16) {sx : Nat → Int32} {Ln b : Nat} (HX : va_X b Ln sx (xs κ) (xs κ).heap) (Hb : b < (xs κ).heap.size) (HbA : ¬ sm_A (xo κ) b) {k18 : Nat → Nat → Int32 → sm_M Bool} (K18 : ∀ (v1 : Nat) (v2 : Nat) (v3 : Int32) (hv1 : kd v1 = 11) (hv2 : kd v2 = 12), sm_S κ (fun r : Bool => .inr (some (.int (bI r)))) (.inl (18, [some (.ref b), some (xad κ v1), some (xad κ v2), some (.int v3)], [])) (k18 v1 v2 v3)) (v1 : Nat) (v2 : Nat) (v3 : Int32) (hv1 : kd v1 = 11) (hv2 : kd v2 = 12) : sm_S κ (fun r : Bool => .inr (some (.int (bI r)))) (.inl (816, [some (.ref b), some (xad κ v1), some (xad κ v2), some (.int v3)], [])) (fnL_law_J816 sx Ln k18 v1 v2 v3) := by
  unfold fnL_law_J816
  refine sr_aload_n (i := 1) (q := 817) C (show decode cL_law 816 = .ok (.aload_n 1, 1) from by decide +kernel) rfl rfl rfl ?_
  refine sr_aload_n (i := 0) (q := 818) C (show decode cL_law 817 = .ok (.aload_n 0, 1) from by decide +kernel) rfl rfl rfl ?_
  refine sr_iload_n (i := 3) (q := 819) C (show decode cL_law 818 = .ok (.iload_n 3, 1) from by decide +kernel) rfl rfl rfl ?_
  refine sr_iconst (v := (1 : Int32)) (q := 820) C (show decode cL_law 819 = .ok (.iconst 1, 1) from by decide +kernel) (by decide) rfl ?_
  refine sr_iadd (q := 821) C (show decode cL_law 820 = .ok (.iadd, 1) from by decide +kernel) rfl ?_
  refine sr_sld (q := 822) C HX Hb HbA (show decode cL_law 821 = .ok (.iaload, 1) from by decide +kernel) rfl ?_
  refine sr_aload_n (i := 0) (q := 823) C (show decode cL_law 822 = .ok (.aload_n 0, 1) from by decide +kernel) rfl rfl rfl ?_
  refine sr_iload_n (i := 3) (q := 824) C (show decode cL_law 823 = .ok (.iload_n 3, 1) from by decide +kernel) rfl rfl rfl ?_
  refine sr_iconst (v := (2 : Int32)) (q := 825) C (show decode cL_law 824 = .ok (.iconst 2, 1) from by decide +kernel) (by decide) rfl ?_
  refine sr_iadd (q := 826) C (show decode cL_law 825 = .ok (.iadd, 1) from by decide +kernel) rfl ?_
  refine sr_sld (q := 827) C HX Hb HbA (show decode cL_law 826 = .ok (.iaload, 1) from by decide +kernel) rfl ?_
  refine sr_cVi (As := [.int (sx (v3 + (1 : Int32)).toNatClampNeg), .int (sx (v3 + (2 : Int32)).toNatClampNeg)]) (st := []) (b := v1) (q := 830) C yvX11_order ml_L_91 (cnX11_order (xo κ) v1 (sx (v3 + (1 : Int32)).toNatClampNeg) (sx (v3 + (2 : Int32)).toNatClampNeg) hv1) hv1 (by decide) rfl rfl rfl (by decide) (by decide) (Nat.le_of_ble_eq_true rfl) rfl (show decode cL_law 827 = .ok (.invokevirtual 91, 3) from by decide +kernel) rfl (fun x827 => ?_)
  refine sr_aload_n (i := 2) (q := 831) C (show decode cL_law 830 = .ok (.aload_n 2, 1) from by decide +kernel) rfl rfl rfl ?_
  refine sr_aload_n (i := 0) (q := 832) C (show decode cL_law 831 = .ok (.aload_n 0, 1) from by decide +kernel) rfl rfl rfl ?_
  refine sr_iload_n (i := 3) (q := 833) C (show decode cL_law 832 = .ok (.iload_n 3, 1) from by decide +kernel) rfl rfl rfl ?_
  refine sr_iconst (v := (1 : Int32)) (q := 834) C (show decode cL_law 833 = .ok (.iconst 1, 1) from by decide +kernel) (by decide) rfl ?_
  refine sr_iadd (q := 835) C (show decode cL_law 834 = .ok (.iadd, 1) from by decide +kernel) rfl ?_
  refine sr_sld (q := 836) C HX Hb HbA (show decode cL_law 835 = .ok (.iaload, 1) from by decide +kernel) rfl ?_
  refine sr_aload_n (i := 0) (q := 837) C (show decode cL_law 836 = .ok (.aload_n 0, 1) from by decide +kernel) rfl rfl rfl ?_
  refine sr_iload_n (i := 3) (q := 838) C (show decode cL_law 837 = .ok (.iload_n 3, 1) from by decide +kernel) rfl rfl rfl ?_
  refine sr_iconst (v := (2 : Int32)) (q := 839) C (show decode cL_law 838 = .ok (.iconst 2, 1) from by decide +kernel) (by decide) rfl ?_
  refine sr_iadd (q := 840) C (show decode cL_law 839 = .ok (.iadd, 1) from by decide +kernel) rfl ?_
  refine sr_sld (q := 841) C HX Hb HbA (show decode cL_law 840 = .ok (.iaload, 1) from by decide +kernel) rfl ?_
  refine sr_cVi (As := [.int (sx (v3 + (1 : Int32)).toNatClampNeg), .int (sx (v3 + (2 : Int32)).toNatClampNeg)]) (st := [.int x827]) (b := v2) (q := 844) C yvX12_order ml_L_94 (cnX12_order (xo κ) v2 (sx (v3 + (1 : Int32)).toNatClampNeg) (sx (v3 + (2 : Int32)).toNatClampNeg) hv2) hv2 (by decide) rfl rfl rfl (by decide) (by decide) (Nat.le_of_ble_eq_true rfl) rfl (show decode cL_law 841 = .ok (.invokevirtual 94, 3) from by decide +kernel) rfl (fun x841 => ?_)
  refine sr_icmp_eq (q := 847) C 2013 (show decode cL_law 844 = .ok (.if_icmp .eq 1169, 3) from by decide +kernel) (by decide) rfl ?_ ?_
  · exact slL_law_J2013 C HX Hb HbA K18 v1 v2 v3 hv1 hv2
  · refine sr_iconst (v := (0 : Int32)) (q := 848) C (show decode cL_law 847 = .ok (.iconst 0, 1) from by decide +kernel) (by decide) rfl ?_
    exact sr_ireturn C false rfl (show decode cL_law 848 = .ok (.ireturn, 1) from by decide +kernel)
def fnL_law_J849 (sx : Nat → Int32) (Ln : Nat) (k18 : Nat → Nat → Int32 → sm_M Bool) (v1 : Nat) (v2 : Nat) (v3 : Int32) : sm_M Bool := m_gd (¬ ((v3 + (1 : Int32)) < 0 ∨ Ln ≤ (v3 + (1 : Int32)).toNatClampNeg)) <| m_bnd (fnX11_gap v1 (sx (v3 + (1 : Int32)).toNatClampNeg)) fun x855 => m_gd (¬ ((v3 + (1 : Int32)) < 0 ∨ Ln ≤ (v3 + (1 : Int32)).toNatClampNeg)) <| m_bnd (fnX12_gap v2 (sx (v3 + (1 : Int32)).toNatClampNeg)) fun x864 => m_br (x855 = x864)
    (fnL_law_J2013 sx Ln k18 v1 v2 v3)
    (m_ret false)
set_option maxHeartbeats 4000000 in
set_option maxRecDepth 100000 in
theorem slL_law_J849 {κ : sm_X} (C : sm_C κ R_law cL_law 4 16) {sx : Nat → Int32} {Ln b : Nat} (HX : va_X b Ln sx (xs κ) (xs κ).heap) (Hb : b < (xs κ).heap.size) (HbA : ¬ sm_A (xo κ) b) {k18 : Nat → Nat → Int32 → sm_M Bool} (K18 : ∀ (v1 : Nat) (v2 : Nat) (v3 : Int32) (hv1 : kd v1 = 11) (hv2 : kd v2 = 12), sm_S κ (fun r : Bool => .inr (some (.int (bI r)))) (.inl (18, [some (.ref b), some (xad κ v1), some (xad κ v2), some (.int v3)], [])) (k18 v1 v2 v3)) (v1 : Nat) (v2 : Nat) (v3 : Int32) (hv1 : kd v1 = 11) (hv2 : kd v2 = 12) : sm_S κ (fun r : Bool => .inr (some (.int (bI r)))) (.inl (849, [some (.ref b), some (xad κ v1), some (xad κ v2), some (.int v3)], [])) (fnL_law_J849 sx Ln k18 v1 v2 v3) := by
  unfold fnL_law_J849
  refine sr_aload_n (i := 1) (q := 850) C (show decode cL_law 849 = .ok (.aload_n 1, 1) from by decide +kernel) rfl rfl rfl ?_
  refine sr_aload_n (i := 0) (q := 851) C (show decode cL_law 850 = .ok (.aload_n 0, 1) from by decide +kernel) rfl rfl rfl ?_
  refine sr_iload_n (i := 3) (q := 852) C (show decode cL_law 851 = .ok (.iload_n 3, 1) from by decide +kernel) rfl rfl rfl ?_
  refine sr_iconst (v := (1 : Int32)) (q := 853) C (show decode cL_law 852 = .ok (.iconst 1, 1) from by decide +kernel) (by decide) rfl ?_
  refine sr_iadd (q := 854) C (show decode cL_law 853 = .ok (.iadd, 1) from by decide +kernel) rfl ?_
  refine sr_sld (q := 855) C HX Hb HbA (show decode cL_law 854 = .ok (.iaload, 1) from by decide +kernel) rfl ?_
  refine sr_cVi (As := [.int (sx (v3 + (1 : Int32)).toNatClampNeg)]) (st := []) (b := v1) (q := 858) C yvX11_gap ml_L_95 (cnX11_gap (xo κ) v1 (sx (v3 + (1 : Int32)).toNatClampNeg) hv1) hv1 (by decide) rfl rfl rfl (by decide) (by decide) (Nat.le_of_ble_eq_true rfl) rfl (show decode cL_law 855 = .ok (.invokevirtual 95, 3) from by decide +kernel) rfl (fun x855 => ?_)
  refine sr_aload_n (i := 2) (q := 859) C (show decode cL_law 858 = .ok (.aload_n 2, 1) from by decide +kernel) rfl rfl rfl ?_
  refine sr_aload_n (i := 0) (q := 860) C (show decode cL_law 859 = .ok (.aload_n 0, 1) from by decide +kernel) rfl rfl rfl ?_
  refine sr_iload_n (i := 3) (q := 861) C (show decode cL_law 860 = .ok (.iload_n 3, 1) from by decide +kernel) rfl rfl rfl ?_
  refine sr_iconst (v := (1 : Int32)) (q := 862) C (show decode cL_law 861 = .ok (.iconst 1, 1) from by decide +kernel) (by decide) rfl ?_
  refine sr_iadd (q := 863) C (show decode cL_law 862 = .ok (.iadd, 1) from by decide +kernel) rfl ?_
  refine sr_sld (q := 864) C HX Hb HbA (show decode cL_law 863 = .ok (.iaload, 1) from by decide +kernel) rfl ?_
  refine sr_cVi (As := [.int (sx (v3 + (1 : Int32)).toNatClampNeg)]) (st := [.int x855]) (b := v2) (q := 867) C yvX12_gap ml_L_98 (cnX12_gap (xo κ) v2 (sx (v3 + (1 : Int32)).toNatClampNeg) hv2) hv2 (by decide) rfl rfl rfl (by decide) (by decide) (Nat.le_of_ble_eq_true rfl) rfl (show decode cL_law 864 = .ok (.invokevirtual 98, 3) from by decide +kernel) rfl (fun x864 => ?_)
  refine sr_icmp_eq (q := 870) C 2013 (show decode cL_law 867 = .ok (.if_icmp .eq 1146, 3) from by decide +kernel) (by decide) rfl ?_ ?_
  · exact slL_law_J2013 C HX Hb HbA K18 v1 v2 v3 hv1 hv2
  · refine sr_iconst (v := (0 : Int32)) (q := 871) C (show decode cL_law 870 = .ok (.iconst 0, 1) from by decide +kernel) (by decide) rfl ?_
    exact sr_ireturn C false rfl (show decode cL_law 871 = .ok (.ireturn, 1) from by decide +kernel)
def fnL_law_J872 (sx : Nat → Int32) (Ln : Nat) (k18 : Nat → Nat → Int32 → sm_M Bool) (v1 : Nat) (v2 : Nat) (v3 : Int32) : sm_M Bool := m_gd (¬ ((v3 + (1 : Int32)) < 0 ∨ Ln ≤ (v3 + (1 : Int32)).toNatClampNeg)) <| m_bnd (fnX11_home v1 (sx (v3 + (1 : Int32)).toNatClampNeg)) fun x878 => m_gd (¬ ((v3 + (1 : Int32)) < 0 ∨ Ln ≤ (v3 + (1 : Int32)).toNatClampNeg)) <| m_bnd (fnX12_home v2 (sx (v3 + (1 : Int32)).toNatClampNeg)) fun x887 => m_br (x878 = x887)
    (fnL_law_J2013 sx Ln k18 v1 v2 v3)
    (m_ret false)
set_option maxHeartbeats 4000000 in
set_option maxRecDepth 100000 in
theorem slL_law_J872 {κ : sm_X} (C : sm_C κ R_law cL_law 4 16) {sx : Nat → Int32} {Ln b : Nat} (HX : va_X b Ln sx (xs κ) (xs κ).heap) (Hb : b < (xs κ).heap.size) (HbA : ¬ sm_A (xo κ) b) {k18 : Nat → Nat → Int32 → sm_M Bool} (K18 : ∀ (v1 : Nat) (v2 : Nat) (v3 : Int32) (hv1 : kd v1 = 11) (hv2 : kd v2 = 12), sm_S κ (fun r : Bool => .inr (some (.int (bI r)))) (.inl (18, [some (.ref b), some (xad κ v1), some (xad κ v2), some (.int v3)], [])) (k18 v1 v2 v3)) (v1 : Nat) (v2 : Nat) (v3 : Int32) (hv1 : kd v1 = 11) (hv2 : kd v2 = 12) : sm_S κ (fun r : Bool => .inr (some (.int (bI r)))) (.inl (872, [some (.ref b), some (xad κ v1), some (xad κ v2), some (.int v3)], [])) (fnL_law_J872 sx Ln k18 v1 v2 v3) := by
  unfold fnL_law_J872
  refine sr_aload_n (i := 1) (q := 873) C (show decode cL_law 872 = .ok (.aload_n 1, 1) from by decide +kernel) rfl rfl rfl ?_
  refine sr_aload_n (i := 0) (q := 874) C (show decode cL_law 873 = .ok (.aload_n 0, 1) from by decide +kernel) rfl rfl rfl ?_
  refine sr_iload_n (i := 3) (q := 875) C (show decode cL_law 874 = .ok (.iload_n 3, 1) from by decide +kernel) rfl rfl rfl ?_
  refine sr_iconst (v := (1 : Int32)) (q := 876) C (show decode cL_law 875 = .ok (.iconst 1, 1) from by decide +kernel) (by decide) rfl ?_
  refine sr_iadd (q := 877) C (show decode cL_law 876 = .ok (.iadd, 1) from by decide +kernel) rfl ?_
  refine sr_sld (q := 878) C HX Hb HbA (show decode cL_law 877 = .ok (.iaload, 1) from by decide +kernel) rfl ?_
  refine sr_cVi (As := [.int (sx (v3 + (1 : Int32)).toNatClampNeg)]) (st := []) (b := v1) (q := 881) C yvX11_home ml_L_99 (cnX11_home (xo κ) v1 (sx (v3 + (1 : Int32)).toNatClampNeg) hv1) hv1 (by decide) rfl rfl rfl (by decide) (by decide) (Nat.le_of_ble_eq_true rfl) rfl (show decode cL_law 878 = .ok (.invokevirtual 99, 3) from by decide +kernel) rfl (fun x878 => ?_)
  refine sr_aload_n (i := 2) (q := 882) C (show decode cL_law 881 = .ok (.aload_n 2, 1) from by decide +kernel) rfl rfl rfl ?_
  refine sr_aload_n (i := 0) (q := 883) C (show decode cL_law 882 = .ok (.aload_n 0, 1) from by decide +kernel) rfl rfl rfl ?_
  refine sr_iload_n (i := 3) (q := 884) C (show decode cL_law 883 = .ok (.iload_n 3, 1) from by decide +kernel) rfl rfl rfl ?_
  refine sr_iconst (v := (1 : Int32)) (q := 885) C (show decode cL_law 884 = .ok (.iconst 1, 1) from by decide +kernel) (by decide) rfl ?_
  refine sr_iadd (q := 886) C (show decode cL_law 885 = .ok (.iadd, 1) from by decide +kernel) rfl ?_
  refine sr_sld (q := 887) C HX Hb HbA (show decode cL_law 886 = .ok (.iaload, 1) from by decide +kernel) rfl ?_
  refine sr_cVi (As := [.int (sx (v3 + (1 : Int32)).toNatClampNeg)]) (st := [.int x878]) (b := v2) (q := 890) C yvX12_home ml_L_102 (cnX12_home (xo κ) v2 (sx (v3 + (1 : Int32)).toNatClampNeg) hv2) hv2 (by decide) rfl rfl rfl (by decide) (by decide) (Nat.le_of_ble_eq_true rfl) rfl (show decode cL_law 887 = .ok (.invokevirtual 102, 3) from by decide +kernel) rfl (fun x887 => ?_)
  refine sr_icmp_eq (q := 893) C 2013 (show decode cL_law 890 = .ok (.if_icmp .eq 1123, 3) from by decide +kernel) (by decide) rfl ?_ ?_
  · exact slL_law_J2013 C HX Hb HbA K18 v1 v2 v3 hv1 hv2
  · refine sr_iconst (v := (0 : Int32)) (q := 894) C (show decode cL_law 893 = .ok (.iconst 0, 1) from by decide +kernel) (by decide) rfl ?_
    exact sr_ireturn C false rfl (show decode cL_law 894 = .ok (.ireturn, 1) from by decide +kernel)
def fnL_law_J895 (sx : Nat → Int32) (Ln : Nat) (k18 : Nat → Nat → Int32 → sm_M Bool) (v1 : Nat) (v2 : Nat) (v3 : Int32) : sm_M Bool := m_gd (¬ ((v3 + (1 : Int32)) < 0 ∨ Ln ≤ (v3 + (1 : Int32)).toNatClampNeg)) <| m_bnd (fnX11_days v1 (sx (v3 + (1 : Int32)).toNatClampNeg)) fun x901 => m_gd (¬ ((v3 + (1 : Int32)) < 0 ∨ Ln ≤ (v3 + (1 : Int32)).toNatClampNeg)) <| m_bnd (fnX12_days v2 (sx (v3 + (1 : Int32)).toNatClampNeg)) fun x910 => m_br (x901 = x910)
    (fnL_law_J2013 sx Ln k18 v1 v2 v3)
    (m_ret false)
set_option maxHeartbeats 4000000 in
set_option maxRecDepth 100000 in
theorem slL_law_J895 {κ : sm_X} (C : sm_C κ R_law cL_law 4 16) {sx : Nat → Int32} {Ln b : Nat} (HX : va_X b Ln sx (xs κ) (xs κ).heap) (Hb : b < (xs κ).heap.size) (HbA : ¬ sm_A (xo κ) b) {k18 : Nat → Nat → Int32 → sm_M Bool} (K18 : ∀ (v1 : Nat) (v2 : Nat) (v3 : Int32) (hv1 : kd v1 = 11) (hv2 : kd v2 = 12), sm_S κ (fun r : Bool => .inr (some (.int (bI r)))) (.inl (18, [some (.ref b), some (xad κ v1), some (xad κ v2), some (.int v3)], [])) (k18 v1 v2 v3)) (v1 : Nat) (v2 : Nat) (v3 : Int32) (hv1 : kd v1 = 11) (hv2 : kd v2 = 12) : sm_S κ (fun r : Bool => .inr (some (.int (bI r)))) (.inl (895, [some (.ref b), some (xad κ v1), some (xad κ v2), some (.int v3)], [])) (fnL_law_J895 sx Ln k18 v1 v2 v3) := by
  unfold fnL_law_J895
  refine sr_aload_n (i := 1) (q := 896) C (show decode cL_law 895 = .ok (.aload_n 1, 1) from by decide +kernel) rfl rfl rfl ?_
  refine sr_aload_n (i := 0) (q := 897) C (show decode cL_law 896 = .ok (.aload_n 0, 1) from by decide +kernel) rfl rfl rfl ?_
  refine sr_iload_n (i := 3) (q := 898) C (show decode cL_law 897 = .ok (.iload_n 3, 1) from by decide +kernel) rfl rfl rfl ?_
  refine sr_iconst (v := (1 : Int32)) (q := 899) C (show decode cL_law 898 = .ok (.iconst 1, 1) from by decide +kernel) (by decide) rfl ?_
  refine sr_iadd (q := 900) C (show decode cL_law 899 = .ok (.iadd, 1) from by decide +kernel) rfl ?_
  refine sr_sld (q := 901) C HX Hb HbA (show decode cL_law 900 = .ok (.iaload, 1) from by decide +kernel) rfl ?_
  refine sr_cVi (As := [.int (sx (v3 + (1 : Int32)).toNatClampNeg)]) (st := []) (b := v1) (q := 904) C yvX11_days ml_L_103 (cnX11_days (xo κ) v1 (sx (v3 + (1 : Int32)).toNatClampNeg) hv1) hv1 (by decide) rfl rfl rfl (by decide) (by decide) (Nat.le_of_ble_eq_true rfl) rfl (show decode cL_law 901 = .ok (.invokevirtual 103, 3) from by decide +kernel) rfl (fun x901 => ?_)
  refine sr_aload_n (i := 2) (q := 905) C (show decode cL_law 904 = .ok (.aload_n 2, 1) from by decide +kernel) rfl rfl rfl ?_
  refine sr_aload_n (i := 0) (q := 906) C (show decode cL_law 905 = .ok (.aload_n 0, 1) from by decide +kernel) rfl rfl rfl ?_
  refine sr_iload_n (i := 3) (q := 907) C (show decode cL_law 906 = .ok (.iload_n 3, 1) from by decide +kernel) rfl rfl rfl ?_
  refine sr_iconst (v := (1 : Int32)) (q := 908) C (show decode cL_law 907 = .ok (.iconst 1, 1) from by decide +kernel) (by decide) rfl ?_
  refine sr_iadd (q := 909) C (show decode cL_law 908 = .ok (.iadd, 1) from by decide +kernel) rfl ?_
  refine sr_sld (q := 910) C HX Hb HbA (show decode cL_law 909 = .ok (.iaload, 1) from by decide +kernel) rfl ?_
  refine sr_cVi (As := [.int (sx (v3 + (1 : Int32)).toNatClampNeg)]) (st := [.int x901]) (b := v2) (q := 913) C yvX12_days ml_L_106 (cnX12_days (xo κ) v2 (sx (v3 + (1 : Int32)).toNatClampNeg) hv2) hv2 (by decide) rfl rfl rfl (by decide) (by decide) (Nat.le_of_ble_eq_true rfl) rfl (show decode cL_law 910 = .ok (.invokevirtual 106, 3) from by decide +kernel) rfl (fun x910 => ?_)
  refine sr_icmp_eq (q := 916) C 2013 (show decode cL_law 913 = .ok (.if_icmp .eq 1100, 3) from by decide +kernel) (by decide) rfl ?_ ?_
  · exact slL_law_J2013 C HX Hb HbA K18 v1 v2 v3 hv1 hv2
  · refine sr_iconst (v := (0 : Int32)) (q := 917) C (show decode cL_law 916 = .ok (.iconst 0, 1) from by decide +kernel) (by decide) rfl ?_
    exact sr_ireturn C false rfl (show decode cL_law 917 = .ok (.ireturn, 1) from by decide +kernel)
def fnL_law_J918 (sx : Nat → Int32) (Ln : Nat) (k18 : Nat → Nat → Int32 → sm_M Bool) (v1 : Nat) (v2 : Nat) (v3 : Int32) : sm_M Bool := m_bnd (fnX11_best v1) fun x919 => m_bnd (fnX12_best v2) fun x923 => m_br (x919 = x923)
    (fnL_law_J2013 sx Ln k18 v1 v2 v3)
    (m_ret false)
set_option maxHeartbeats 4000000 in
set_option maxRecDepth 100000 in
theorem slL_law_J918 {κ : sm_X} (C : sm_C κ R_law cL_law 4 16) {sx : Nat → Int32} {Ln b : Nat} (HX : va_X b Ln sx (xs κ) (xs κ).heap) (Hb : b < (xs κ).heap.size) (HbA : ¬ sm_A (xo κ) b) {k18 : Nat → Nat → Int32 → sm_M Bool} (K18 : ∀ (v1 : Nat) (v2 : Nat) (v3 : Int32) (hv1 : kd v1 = 11) (hv2 : kd v2 = 12), sm_S κ (fun r : Bool => .inr (some (.int (bI r)))) (.inl (18, [some (.ref b), some (xad κ v1), some (xad κ v2), some (.int v3)], [])) (k18 v1 v2 v3)) (v1 : Nat) (v2 : Nat) (v3 : Int32) (hv1 : kd v1 = 11) (hv2 : kd v2 = 12) : sm_S κ (fun r : Bool => .inr (some (.int (bI r)))) (.inl (918, [some (.ref b), some (xad κ v1), some (xad κ v2), some (.int v3)], [])) (fnL_law_J918 sx Ln k18 v1 v2 v3) := by
  unfold fnL_law_J918
  refine sr_aload_n (i := 1) (q := 919) C (show decode cL_law 918 = .ok (.aload_n 1, 1) from by decide +kernel) rfl rfl rfl ?_
  refine sr_cVi (As := []) (st := []) (b := v1) (q := 922) C yvX11_best ml_L_107 (cnX11_best (xo κ) v1 hv1) hv1 (by decide) rfl rfl rfl (by decide) (by decide) (Nat.le_of_ble_eq_true rfl) rfl (show decode cL_law 919 = .ok (.invokevirtual 107, 3) from by decide +kernel) rfl (fun x919 => ?_)
  refine sr_aload_n (i := 2) (q := 923) C (show decode cL_law 922 = .ok (.aload_n 2, 1) from by decide +kernel) rfl rfl rfl ?_
  refine sr_cVi (As := []) (st := [.int x919]) (b := v2) (q := 926) C yvX12_best ml_L_110 (cnX12_best (xo κ) v2 hv2) hv2 (by decide) rfl rfl rfl (by decide) (by decide) (Nat.le_of_ble_eq_true rfl) rfl (show decode cL_law 923 = .ok (.invokevirtual 110, 3) from by decide +kernel) rfl (fun x923 => ?_)
  refine sr_icmp_eq (q := 929) C 2013 (show decode cL_law 926 = .ok (.if_icmp .eq 1087, 3) from by decide +kernel) (by decide) rfl ?_ ?_
  · exact slL_law_J2013 C HX Hb HbA K18 v1 v2 v3 hv1 hv2
  · refine sr_iconst (v := (0 : Int32)) (q := 930) C (show decode cL_law 929 = .ok (.iconst 0, 1) from by decide +kernel) (by decide) rfl ?_
    exact sr_ireturn C false rfl (show decode cL_law 930 = .ok (.ireturn, 1) from by decide +kernel)
def fnL_law_J931 (sx : Nat → Int32) (Ln : Nat) (k18 : Nat → Nat → Int32 → sm_M Bool) (v1 : Nat) (v2 : Nat) (v3 : Int32) : sm_M Bool := m_gd (¬ ((v3 + (1 : Int32)) < 0 ∨ Ln ≤ (v3 + (1 : Int32)).toNatClampNeg)) <| m_gd (¬ ((v3 + (2 : Int32)) < 0 ∨ Ln ≤ (v3 + (2 : Int32)).toNatClampNeg)) <| m_bnd (fnX11_most v1 (sx (v3 + (1 : Int32)).toNatClampNeg) (sx (v3 + (2 : Int32)).toNatClampNeg)) fun x942 => m_gd (¬ ((v3 + (1 : Int32)) < 0 ∨ Ln ≤ (v3 + (1 : Int32)).toNatClampNeg)) <| m_gd (¬ ((v3 + (2 : Int32)) < 0 ∨ Ln ≤ (v3 + (2 : Int32)).toNatClampNeg)) <| m_bnd (fnX12_most v2 (sx (v3 + (1 : Int32)).toNatClampNeg) (sx (v3 + (2 : Int32)).toNatClampNeg)) fun x956 => m_br (x942 = x956)
    (fnL_law_J2013 sx Ln k18 v1 v2 v3)
    (m_ret false)
set_option maxHeartbeats 4000000 in
set_option maxRecDepth 100000 in
theorem slL_law_J931 {κ : sm_X} (C : sm_C κ R_law cL_law 4 16) {sx : Nat → Int32} {Ln b : Nat} (HX : va_X b Ln sx (xs κ) (xs κ).heap) (Hb : b < (xs κ).heap.size) (HbA : ¬ sm_A (xo κ) b) {k18 : Nat → Nat → Int32 → sm_M Bool} (K18 : ∀ (v1 : Nat) (v2 : Nat) (v3 : Int32) (hv1 : kd v1 = 11) (hv2 : kd v2 = 12), sm_S κ (fun r : Bool => .inr (some (.int (bI r)))) (.inl (18, [some (.ref b), some (xad κ v1), some (xad κ v2), some (.int v3)], [])) (k18 v1 v2 v3)) (v1 : Nat) (v2 : Nat) (v3 : Int32) (hv1 : kd v1 = 11) (hv2 : kd v2 = 12) : sm_S κ (fun r : Bool => .inr (some (.int (bI r)))) (.inl (931, [some (.ref b), some (xad κ v1), some (xad κ v2), some (.int v3)], [])) (fnL_law_J931 sx Ln k18 v1 v2 v3) := by
  unfold fnL_law_J931
  refine sr_aload_n (i := 1) (q := 932) C (show decode cL_law 931 = .ok (.aload_n 1, 1) from by decide +kernel) rfl rfl rfl ?_
  refine sr_aload_n (i := 0) (q := 933) C (show decode cL_law 932 = .ok (.aload_n 0, 1) from by decide +kernel) rfl rfl rfl ?_
  refine sr_iload_n (i := 3) (q := 934) C (show decode cL_law 933 = .ok (.iload_n 3, 1) from by decide +kernel) rfl rfl rfl ?_
  refine sr_iconst (v := (1 : Int32)) (q := 935) C (show decode cL_law 934 = .ok (.iconst 1, 1) from by decide +kernel) (by decide) rfl ?_
  refine sr_iadd (q := 936) C (show decode cL_law 935 = .ok (.iadd, 1) from by decide +kernel) rfl ?_
  refine sr_sld (q := 937) C HX Hb HbA (show decode cL_law 936 = .ok (.iaload, 1) from by decide +kernel) rfl ?_
  refine sr_aload_n (i := 0) (q := 938) C (show decode cL_law 937 = .ok (.aload_n 0, 1) from by decide +kernel) rfl rfl rfl ?_
  refine sr_iload_n (i := 3) (q := 939) C (show decode cL_law 938 = .ok (.iload_n 3, 1) from by decide +kernel) rfl rfl rfl ?_
  refine sr_iconst (v := (2 : Int32)) (q := 940) C (show decode cL_law 939 = .ok (.iconst 2, 1) from by decide +kernel) (by decide) rfl ?_
  refine sr_iadd (q := 941) C (show decode cL_law 940 = .ok (.iadd, 1) from by decide +kernel) rfl ?_
  refine sr_sld (q := 942) C HX Hb HbA (show decode cL_law 941 = .ok (.iaload, 1) from by decide +kernel) rfl ?_
  refine sr_cVi (As := [.int (sx (v3 + (1 : Int32)).toNatClampNeg), .int (sx (v3 + (2 : Int32)).toNatClampNeg)]) (st := []) (b := v1) (q := 945) C yvX11_most ml_L_111 (cnX11_most (xo κ) v1 (sx (v3 + (1 : Int32)).toNatClampNeg) (sx (v3 + (2 : Int32)).toNatClampNeg) hv1) hv1 (by decide) rfl rfl rfl (by decide) (by decide) (Nat.le_of_ble_eq_true rfl) rfl (show decode cL_law 942 = .ok (.invokevirtual 111, 3) from by decide +kernel) rfl (fun x942 => ?_)
  refine sr_aload_n (i := 2) (q := 946) C (show decode cL_law 945 = .ok (.aload_n 2, 1) from by decide +kernel) rfl rfl rfl ?_
  refine sr_aload_n (i := 0) (q := 947) C (show decode cL_law 946 = .ok (.aload_n 0, 1) from by decide +kernel) rfl rfl rfl ?_
  refine sr_iload_n (i := 3) (q := 948) C (show decode cL_law 947 = .ok (.iload_n 3, 1) from by decide +kernel) rfl rfl rfl ?_
  refine sr_iconst (v := (1 : Int32)) (q := 949) C (show decode cL_law 948 = .ok (.iconst 1, 1) from by decide +kernel) (by decide) rfl ?_
  refine sr_iadd (q := 950) C (show decode cL_law 949 = .ok (.iadd, 1) from by decide +kernel) rfl ?_
  refine sr_sld (q := 951) C HX Hb HbA (show decode cL_law 950 = .ok (.iaload, 1) from by decide +kernel) rfl ?_
  refine sr_aload_n (i := 0) (q := 952) C (show decode cL_law 951 = .ok (.aload_n 0, 1) from by decide +kernel) rfl rfl rfl ?_
  refine sr_iload_n (i := 3) (q := 953) C (show decode cL_law 952 = .ok (.iload_n 3, 1) from by decide +kernel) rfl rfl rfl ?_
  refine sr_iconst (v := (2 : Int32)) (q := 954) C (show decode cL_law 953 = .ok (.iconst 2, 1) from by decide +kernel) (by decide) rfl ?_
  refine sr_iadd (q := 955) C (show decode cL_law 954 = .ok (.iadd, 1) from by decide +kernel) rfl ?_
  refine sr_sld (q := 956) C HX Hb HbA (show decode cL_law 955 = .ok (.iaload, 1) from by decide +kernel) rfl ?_
  refine sr_cVi (As := [.int (sx (v3 + (1 : Int32)).toNatClampNeg), .int (sx (v3 + (2 : Int32)).toNatClampNeg)]) (st := [.int x942]) (b := v2) (q := 959) C yvX12_most ml_L_114 (cnX12_most (xo κ) v2 (sx (v3 + (1 : Int32)).toNatClampNeg) (sx (v3 + (2 : Int32)).toNatClampNeg) hv2) hv2 (by decide) rfl rfl rfl (by decide) (by decide) (Nat.le_of_ble_eq_true rfl) rfl (show decode cL_law 956 = .ok (.invokevirtual 114, 3) from by decide +kernel) rfl (fun x956 => ?_)
  refine sr_icmp_eq (q := 962) C 2013 (show decode cL_law 959 = .ok (.if_icmp .eq 1054, 3) from by decide +kernel) (by decide) rfl ?_ ?_
  · exact slL_law_J2013 C HX Hb HbA K18 v1 v2 v3 hv1 hv2
  · refine sr_iconst (v := (0 : Int32)) (q := 963) C (show decode cL_law 962 = .ok (.iconst 0, 1) from by decide +kernel) (by decide) rfl ?_
    exact sr_ireturn C false rfl (show decode cL_law 963 = .ok (.ireturn, 1) from by decide +kernel)
def fnL_law_J964 (sx : Nat → Int32) (Ln : Nat) (k18 : Nat → Nat → Int32 → sm_M Bool) (v1 : Nat) (v2 : Nat) (v3 : Int32) : sm_M Bool := m_gd (¬ ((v3 + (1 : Int32)) < 0 ∨ Ln ≤ (v3 + (1 : Int32)).toNatClampNeg)) <| m_gd (¬ ((v3 + (2 : Int32)) < 0 ∨ Ln ≤ (v3 + (2 : Int32)).toNatClampNeg)) <| m_bnd (fnX11_cut v1 (sx (v3 + (1 : Int32)).toNatClampNeg) (sx (v3 + (2 : Int32)).toNatClampNeg)) fun x975 => m_gd (¬ ((v3 + (1 : Int32)) < 0 ∨ Ln ≤ (v3 + (1 : Int32)).toNatClampNeg)) <| m_gd (¬ ((v3 + (2 : Int32)) < 0 ∨ Ln ≤ (v3 + (2 : Int32)).toNatClampNeg)) <| m_bnd (fnX12_cut v2 (sx (v3 + (1 : Int32)).toNatClampNeg) (sx (v3 + (2 : Int32)).toNatClampNeg)) fun x989 => m_br (x975 = x989)
    (fnL_law_J2013 sx Ln k18 v1 v2 v3)
    (m_ret false)
set_option maxHeartbeats 4000000 in
set_option maxRecDepth 100000 in
theorem slL_law_J964 {κ : sm_X} (C : sm_C κ R_law cL_law 4 16) {sx : Nat → Int32} {Ln b : Nat} (HX : va_X b Ln sx (xs κ) (xs κ).heap) (Hb : b < (xs κ).heap.size) (HbA : ¬ sm_A (xo κ) b) {k18 : Nat → Nat → Int32 → sm_M Bool} (K18 : ∀ (v1 : Nat) (v2 : Nat) (v3 : Int32) (hv1 : kd v1 = 11) (hv2 : kd v2 = 12), sm_S κ (fun r : Bool => .inr (some (.int (bI r)))) (.inl (18, [some (.ref b), some (xad κ v1), some (xad κ v2), some (.int v3)], [])) (k18 v1 v2 v3)) (v1 : Nat) (v2 : Nat) (v3 : Int32) (hv1 : kd v1 = 11) (hv2 : kd v2 = 12) : sm_S κ (fun r : Bool => .inr (some (.int (bI r)))) (.inl (964, [some (.ref b), some (xad κ v1), some (xad κ v2), some (.int v3)], [])) (fnL_law_J964 sx Ln k18 v1 v2 v3) := by
  unfold fnL_law_J964
  refine sr_aload_n (i := 1) (q := 965) C (show decode cL_law 964 = .ok (.aload_n 1, 1) from by decide +kernel) rfl rfl rfl ?_
  refine sr_aload_n (i := 0) (q := 966) C (show decode cL_law 965 = .ok (.aload_n 0, 1) from by decide +kernel) rfl rfl rfl ?_
  refine sr_iload_n (i := 3) (q := 967) C (show decode cL_law 966 = .ok (.iload_n 3, 1) from by decide +kernel) rfl rfl rfl ?_
  refine sr_iconst (v := (1 : Int32)) (q := 968) C (show decode cL_law 967 = .ok (.iconst 1, 1) from by decide +kernel) (by decide) rfl ?_
  refine sr_iadd (q := 969) C (show decode cL_law 968 = .ok (.iadd, 1) from by decide +kernel) rfl ?_
  refine sr_sld (q := 970) C HX Hb HbA (show decode cL_law 969 = .ok (.iaload, 1) from by decide +kernel) rfl ?_
  refine sr_aload_n (i := 0) (q := 971) C (show decode cL_law 970 = .ok (.aload_n 0, 1) from by decide +kernel) rfl rfl rfl ?_
  refine sr_iload_n (i := 3) (q := 972) C (show decode cL_law 971 = .ok (.iload_n 3, 1) from by decide +kernel) rfl rfl rfl ?_
  refine sr_iconst (v := (2 : Int32)) (q := 973) C (show decode cL_law 972 = .ok (.iconst 2, 1) from by decide +kernel) (by decide) rfl ?_
  refine sr_iadd (q := 974) C (show decode cL_law 973 = .ok (.iadd, 1) from by decide +kernel) rfl ?_
  refine sr_sld (q := 975) C HX Hb HbA (show decode cL_law 974 = .ok (.iaload, 1) from by decide +kernel) rfl ?_
  refine sr_cVi (As := [.int (sx (v3 + (1 : Int32)).toNatClampNeg), .int (sx (v3 + (2 : Int32)).toNatClampNeg)]) (st := []) (b := v1) (q := 978) C yvX11_cut ml_L_115 (cnX11_cut (xo κ) v1 (sx (v3 + (1 : Int32)).toNatClampNeg) (sx (v3 + (2 : Int32)).toNatClampNeg) hv1) hv1 (by decide) rfl rfl rfl (by decide) (by decide) (Nat.le_of_ble_eq_true rfl) rfl (show decode cL_law 975 = .ok (.invokevirtual 115, 3) from by decide +kernel) rfl (fun x975 => ?_)
  refine sr_aload_n (i := 2) (q := 979) C (show decode cL_law 978 = .ok (.aload_n 2, 1) from by decide +kernel) rfl rfl rfl ?_
  refine sr_aload_n (i := 0) (q := 980) C (show decode cL_law 979 = .ok (.aload_n 0, 1) from by decide +kernel) rfl rfl rfl ?_
  refine sr_iload_n (i := 3) (q := 981) C (show decode cL_law 980 = .ok (.iload_n 3, 1) from by decide +kernel) rfl rfl rfl ?_
  refine sr_iconst (v := (1 : Int32)) (q := 982) C (show decode cL_law 981 = .ok (.iconst 1, 1) from by decide +kernel) (by decide) rfl ?_
  refine sr_iadd (q := 983) C (show decode cL_law 982 = .ok (.iadd, 1) from by decide +kernel) rfl ?_
  refine sr_sld (q := 984) C HX Hb HbA (show decode cL_law 983 = .ok (.iaload, 1) from by decide +kernel) rfl ?_
  refine sr_aload_n (i := 0) (q := 985) C (show decode cL_law 984 = .ok (.aload_n 0, 1) from by decide +kernel) rfl rfl rfl ?_
  refine sr_iload_n (i := 3) (q := 986) C (show decode cL_law 985 = .ok (.iload_n 3, 1) from by decide +kernel) rfl rfl rfl ?_
  refine sr_iconst (v := (2 : Int32)) (q := 987) C (show decode cL_law 986 = .ok (.iconst 2, 1) from by decide +kernel) (by decide) rfl ?_
  refine sr_iadd (q := 988) C (show decode cL_law 987 = .ok (.iadd, 1) from by decide +kernel) rfl ?_
  refine sr_sld (q := 989) C HX Hb HbA (show decode cL_law 988 = .ok (.iaload, 1) from by decide +kernel) rfl ?_
  refine sr_cVi (As := [.int (sx (v3 + (1 : Int32)).toNatClampNeg), .int (sx (v3 + (2 : Int32)).toNatClampNeg)]) (st := [.int x975]) (b := v2) (q := 992) C yvX12_cut ml_L_118 (cnX12_cut (xo κ) v2 (sx (v3 + (1 : Int32)).toNatClampNeg) (sx (v3 + (2 : Int32)).toNatClampNeg) hv2) hv2 (by decide) rfl rfl rfl (by decide) (by decide) (Nat.le_of_ble_eq_true rfl) rfl (show decode cL_law 989 = .ok (.invokevirtual 118, 3) from by decide +kernel) rfl (fun x989 => ?_)
  refine sr_icmp_eq (q := 995) C 2013 (show decode cL_law 992 = .ok (.if_icmp .eq 1021, 3) from by decide +kernel) (by decide) rfl ?_ ?_
  · exact slL_law_J2013 C HX Hb HbA K18 v1 v2 v3 hv1 hv2
  · refine sr_iconst (v := (0 : Int32)) (q := 996) C (show decode cL_law 995 = .ok (.iconst 0, 1) from by decide +kernel) (by decide) rfl ?_
    exact sr_ireturn C false rfl (show decode cL_law 996 = .ok (.ireturn, 1) from by decide +kernel)
def fnL_law_J997 (sx : Nat → Int32) (Ln : Nat) (k18 : Nat → Nat → Int32 → sm_M Bool) (v1 : Nat) (v2 : Nat) (v3 : Int32) : sm_M Bool := m_gd (¬ ((v3 + (1 : Int32)) < 0 ∨ Ln ≤ (v3 + (1 : Int32)).toNatClampNeg)) <| m_gd (¬ ((v3 + (2 : Int32)) < 0 ∨ Ln ≤ (v3 + (2 : Int32)).toNatClampNeg)) <| m_gd (¬ ((v3 + (3 : Int32)) < 0 ∨ Ln ≤ (v3 + (3 : Int32)).toNatClampNeg)) <| m_bnd (fnX11_bars v1 (sx (v3 + (1 : Int32)).toNatClampNeg) (sx (v3 + (2 : Int32)).toNatClampNeg) (sx (v3 + (3 : Int32)).toNatClampNeg)) fun x1013 => m_gd (¬ ((v3 + (1 : Int32)) < 0 ∨ Ln ≤ (v3 + (1 : Int32)).toNatClampNeg)) <| m_gd (¬ ((v3 + (2 : Int32)) < 0 ∨ Ln ≤ (v3 + (2 : Int32)).toNatClampNeg)) <| m_gd (¬ ((v3 + (3 : Int32)) < 0 ∨ Ln ≤ (v3 + (3 : Int32)).toNatClampNeg)) <| m_bnd (fnX12_bars v2 (sx (v3 + (1 : Int32)).toNatClampNeg) (sx (v3 + (2 : Int32)).toNatClampNeg) (sx (v3 + (3 : Int32)).toNatClampNeg)) fun x1032 => m_br (x1013 = x1032)
    (fnL_law_J2013 sx Ln k18 v1 v2 v3)
    (m_ret false)
set_option maxHeartbeats 4000000 in
set_option maxRecDepth 100000 in
theorem slL_law_J997 {κ : sm_X} (C : sm_C κ R_law cL_law 4 16) {sx : Nat → Int32} {Ln b : Nat} (HX : va_X b Ln sx (xs κ) (xs κ).heap) (Hb : b < (xs κ).heap.size) (HbA : ¬ sm_A (xo κ) b) {k18 : Nat → Nat → Int32 → sm_M Bool} (K18 : ∀ (v1 : Nat) (v2 : Nat) (v3 : Int32) (hv1 : kd v1 = 11) (hv2 : kd v2 = 12), sm_S κ (fun r : Bool => .inr (some (.int (bI r)))) (.inl (18, [some (.ref b), some (xad κ v1), some (xad κ v2), some (.int v3)], [])) (k18 v1 v2 v3)) (v1 : Nat) (v2 : Nat) (v3 : Int32) (hv1 : kd v1 = 11) (hv2 : kd v2 = 12) : sm_S κ (fun r : Bool => .inr (some (.int (bI r)))) (.inl (997, [some (.ref b), some (xad κ v1), some (xad κ v2), some (.int v3)], [])) (fnL_law_J997 sx Ln k18 v1 v2 v3) := by
  unfold fnL_law_J997
  refine sr_aload_n (i := 1) (q := 998) C (show decode cL_law 997 = .ok (.aload_n 1, 1) from by decide +kernel) rfl rfl rfl ?_
  refine sr_aload_n (i := 0) (q := 999) C (show decode cL_law 998 = .ok (.aload_n 0, 1) from by decide +kernel) rfl rfl rfl ?_
  refine sr_iload_n (i := 3) (q := 1000) C (show decode cL_law 999 = .ok (.iload_n 3, 1) from by decide +kernel) rfl rfl rfl ?_
  refine sr_iconst (v := (1 : Int32)) (q := 1001) C (show decode cL_law 1000 = .ok (.iconst 1, 1) from by decide +kernel) (by decide) rfl ?_
  refine sr_iadd (q := 1002) C (show decode cL_law 1001 = .ok (.iadd, 1) from by decide +kernel) rfl ?_
  refine sr_sld (q := 1003) C HX Hb HbA (show decode cL_law 1002 = .ok (.iaload, 1) from by decide +kernel) rfl ?_
  refine sr_aload_n (i := 0) (q := 1004) C (show decode cL_law 1003 = .ok (.aload_n 0, 1) from by decide +kernel) rfl rfl rfl ?_
  refine sr_iload_n (i := 3) (q := 1005) C (show decode cL_law 1004 = .ok (.iload_n 3, 1) from by decide +kernel) rfl rfl rfl ?_
  refine sr_iconst (v := (2 : Int32)) (q := 1006) C (show decode cL_law 1005 = .ok (.iconst 2, 1) from by decide +kernel) (by decide) rfl ?_
  refine sr_iadd (q := 1007) C (show decode cL_law 1006 = .ok (.iadd, 1) from by decide +kernel) rfl ?_
  refine sr_sld (q := 1008) C HX Hb HbA (show decode cL_law 1007 = .ok (.iaload, 1) from by decide +kernel) rfl ?_
  refine sr_aload_n (i := 0) (q := 1009) C (show decode cL_law 1008 = .ok (.aload_n 0, 1) from by decide +kernel) rfl rfl rfl ?_
  refine sr_iload_n (i := 3) (q := 1010) C (show decode cL_law 1009 = .ok (.iload_n 3, 1) from by decide +kernel) rfl rfl rfl ?_
  refine sr_iconst (v := (3 : Int32)) (q := 1011) C (show decode cL_law 1010 = .ok (.iconst 3, 1) from by decide +kernel) (by decide) rfl ?_
  refine sr_iadd (q := 1012) C (show decode cL_law 1011 = .ok (.iadd, 1) from by decide +kernel) rfl ?_
  refine sr_sld (q := 1013) C HX Hb HbA (show decode cL_law 1012 = .ok (.iaload, 1) from by decide +kernel) rfl ?_
  refine sr_cVi (As := [.int (sx (v3 + (1 : Int32)).toNatClampNeg), .int (sx (v3 + (2 : Int32)).toNatClampNeg), .int (sx (v3 + (3 : Int32)).toNatClampNeg)]) (st := []) (b := v1) (q := 1016) C yvX11_bars ml_L_119 (cnX11_bars (xo κ) v1 (sx (v3 + (1 : Int32)).toNatClampNeg) (sx (v3 + (2 : Int32)).toNatClampNeg) (sx (v3 + (3 : Int32)).toNatClampNeg) hv1) hv1 (by decide) rfl rfl rfl (by decide) (by decide) (Nat.le_of_ble_eq_true rfl) rfl (show decode cL_law 1013 = .ok (.invokevirtual 119, 3) from by decide +kernel) rfl (fun x1013 => ?_)
  refine sr_aload_n (i := 2) (q := 1017) C (show decode cL_law 1016 = .ok (.aload_n 2, 1) from by decide +kernel) rfl rfl rfl ?_
  refine sr_aload_n (i := 0) (q := 1018) C (show decode cL_law 1017 = .ok (.aload_n 0, 1) from by decide +kernel) rfl rfl rfl ?_
  refine sr_iload_n (i := 3) (q := 1019) C (show decode cL_law 1018 = .ok (.iload_n 3, 1) from by decide +kernel) rfl rfl rfl ?_
  refine sr_iconst (v := (1 : Int32)) (q := 1020) C (show decode cL_law 1019 = .ok (.iconst 1, 1) from by decide +kernel) (by decide) rfl ?_
  refine sr_iadd (q := 1021) C (show decode cL_law 1020 = .ok (.iadd, 1) from by decide +kernel) rfl ?_
  refine sr_sld (q := 1022) C HX Hb HbA (show decode cL_law 1021 = .ok (.iaload, 1) from by decide +kernel) rfl ?_
  refine sr_aload_n (i := 0) (q := 1023) C (show decode cL_law 1022 = .ok (.aload_n 0, 1) from by decide +kernel) rfl rfl rfl ?_
  refine sr_iload_n (i := 3) (q := 1024) C (show decode cL_law 1023 = .ok (.iload_n 3, 1) from by decide +kernel) rfl rfl rfl ?_
  refine sr_iconst (v := (2 : Int32)) (q := 1025) C (show decode cL_law 1024 = .ok (.iconst 2, 1) from by decide +kernel) (by decide) rfl ?_
  refine sr_iadd (q := 1026) C (show decode cL_law 1025 = .ok (.iadd, 1) from by decide +kernel) rfl ?_
  refine sr_sld (q := 1027) C HX Hb HbA (show decode cL_law 1026 = .ok (.iaload, 1) from by decide +kernel) rfl ?_
  refine sr_aload_n (i := 0) (q := 1028) C (show decode cL_law 1027 = .ok (.aload_n 0, 1) from by decide +kernel) rfl rfl rfl ?_
  refine sr_iload_n (i := 3) (q := 1029) C (show decode cL_law 1028 = .ok (.iload_n 3, 1) from by decide +kernel) rfl rfl rfl ?_
  refine sr_iconst (v := (3 : Int32)) (q := 1030) C (show decode cL_law 1029 = .ok (.iconst 3, 1) from by decide +kernel) (by decide) rfl ?_
  refine sr_iadd (q := 1031) C (show decode cL_law 1030 = .ok (.iadd, 1) from by decide +kernel) rfl ?_
  refine sr_sld (q := 1032) C HX Hb HbA (show decode cL_law 1031 = .ok (.iaload, 1) from by decide +kernel) rfl ?_
  refine sr_cVi (As := [.int (sx (v3 + (1 : Int32)).toNatClampNeg), .int (sx (v3 + (2 : Int32)).toNatClampNeg), .int (sx (v3 + (3 : Int32)).toNatClampNeg)]) (st := [.int x1013]) (b := v2) (q := 1035) C yvX12_bars ml_L_122 (cnX12_bars (xo κ) v2 (sx (v3 + (1 : Int32)).toNatClampNeg) (sx (v3 + (2 : Int32)).toNatClampNeg) (sx (v3 + (3 : Int32)).toNatClampNeg) hv2) hv2 (by decide) rfl rfl rfl (by decide) (by decide) (Nat.le_of_ble_eq_true rfl) rfl (show decode cL_law 1032 = .ok (.invokevirtual 122, 3) from by decide +kernel) rfl (fun x1032 => ?_)
  refine sr_icmp_eq (q := 1038) C 2013 (show decode cL_law 1035 = .ok (.if_icmp .eq 978, 3) from by decide +kernel) (by decide) rfl ?_ ?_
  · exact slL_law_J2013 C HX Hb HbA K18 v1 v2 v3 hv1 hv2
  · refine sr_iconst (v := (0 : Int32)) (q := 1039) C (show decode cL_law 1038 = .ok (.iconst 0, 1) from by decide +kernel) (by decide) rfl ?_
    exact sr_ireturn C false rfl (show decode cL_law 1039 = .ok (.ireturn, 1) from by decide +kernel)
def fnL_law_J1040 (sx : Nat → Int32) (Ln : Nat) (k18 : Nat → Nat → Int32 → sm_M Bool) (v1 : Nat) (v2 : Nat) (v3 : Int32) : sm_M Bool := m_gd (¬ ((v3 + (1 : Int32)) < 0 ∨ Ln ≤ (v3 + (1 : Int32)).toNatClampNeg)) <| m_gd (¬ ((v3 + (2 : Int32)) < 0 ∨ Ln ≤ (v3 + (2 : Int32)).toNatClampNeg)) <| m_gd (¬ ((v3 + (3 : Int32)) < 0 ∨ Ln ≤ (v3 + (3 : Int32)).toNatClampNeg)) <| m_bnd (fnX11_alike v1 (sx (v3 + (1 : Int32)).toNatClampNeg) (sx (v3 + (2 : Int32)).toNatClampNeg) (sx (v3 + (3 : Int32)).toNatClampNeg)) fun x1056 => m_gd (¬ ((v3 + (1 : Int32)) < 0 ∨ Ln ≤ (v3 + (1 : Int32)).toNatClampNeg)) <| m_gd (¬ ((v3 + (2 : Int32)) < 0 ∨ Ln ≤ (v3 + (2 : Int32)).toNatClampNeg)) <| m_gd (¬ ((v3 + (3 : Int32)) < 0 ∨ Ln ≤ (v3 + (3 : Int32)).toNatClampNeg)) <| m_bnd (fnX12_alike v2 (sx (v3 + (1 : Int32)).toNatClampNeg) (sx (v3 + (2 : Int32)).toNatClampNeg) (sx (v3 + (3 : Int32)).toNatClampNeg)) fun x1075 => m_br (x1056 = x1075)
    (fnL_law_J2013 sx Ln k18 v1 v2 v3)
    (m_ret false)
set_option maxHeartbeats 4000000 in
set_option maxRecDepth 100000 in
theorem slL_law_J1040 {κ : sm_X} (C : sm_C κ R_law cL_law 4 16) {sx : Nat → Int32} {Ln b : Nat} (HX : va_X b Ln sx (xs κ) (xs κ).heap) (Hb : b < (xs κ).heap.size) (HbA : ¬ sm_A (xo κ) b) {k18 : Nat → Nat → Int32 → sm_M Bool} (K18 : ∀ (v1 : Nat) (v2 : Nat) (v3 : Int32) (hv1 : kd v1 = 11) (hv2 : kd v2 = 12), sm_S κ (fun r : Bool => .inr (some (.int (bI r)))) (.inl (18, [some (.ref b), some (xad κ v1), some (xad κ v2), some (.int v3)], [])) (k18 v1 v2 v3)) (v1 : Nat) (v2 : Nat) (v3 : Int32) (hv1 : kd v1 = 11) (hv2 : kd v2 = 12) : sm_S κ (fun r : Bool => .inr (some (.int (bI r)))) (.inl (1040, [some (.ref b), some (xad κ v1), some (xad κ v2), some (.int v3)], [])) (fnL_law_J1040 sx Ln k18 v1 v2 v3) := by
  unfold fnL_law_J1040
  refine sr_aload_n (i := 1) (q := 1041) C (show decode cL_law 1040 = .ok (.aload_n 1, 1) from by decide +kernel) rfl rfl rfl ?_
  refine sr_aload_n (i := 0) (q := 1042) C (show decode cL_law 1041 = .ok (.aload_n 0, 1) from by decide +kernel) rfl rfl rfl ?_
  refine sr_iload_n (i := 3) (q := 1043) C (show decode cL_law 1042 = .ok (.iload_n 3, 1) from by decide +kernel) rfl rfl rfl ?_
  refine sr_iconst (v := (1 : Int32)) (q := 1044) C (show decode cL_law 1043 = .ok (.iconst 1, 1) from by decide +kernel) (by decide) rfl ?_
  refine sr_iadd (q := 1045) C (show decode cL_law 1044 = .ok (.iadd, 1) from by decide +kernel) rfl ?_
  refine sr_sld (q := 1046) C HX Hb HbA (show decode cL_law 1045 = .ok (.iaload, 1) from by decide +kernel) rfl ?_
  refine sr_aload_n (i := 0) (q := 1047) C (show decode cL_law 1046 = .ok (.aload_n 0, 1) from by decide +kernel) rfl rfl rfl ?_
  refine sr_iload_n (i := 3) (q := 1048) C (show decode cL_law 1047 = .ok (.iload_n 3, 1) from by decide +kernel) rfl rfl rfl ?_
  refine sr_iconst (v := (2 : Int32)) (q := 1049) C (show decode cL_law 1048 = .ok (.iconst 2, 1) from by decide +kernel) (by decide) rfl ?_
  refine sr_iadd (q := 1050) C (show decode cL_law 1049 = .ok (.iadd, 1) from by decide +kernel) rfl ?_
  refine sr_sld (q := 1051) C HX Hb HbA (show decode cL_law 1050 = .ok (.iaload, 1) from by decide +kernel) rfl ?_
  refine sr_aload_n (i := 0) (q := 1052) C (show decode cL_law 1051 = .ok (.aload_n 0, 1) from by decide +kernel) rfl rfl rfl ?_
  refine sr_iload_n (i := 3) (q := 1053) C (show decode cL_law 1052 = .ok (.iload_n 3, 1) from by decide +kernel) rfl rfl rfl ?_
  refine sr_iconst (v := (3 : Int32)) (q := 1054) C (show decode cL_law 1053 = .ok (.iconst 3, 1) from by decide +kernel) (by decide) rfl ?_
  refine sr_iadd (q := 1055) C (show decode cL_law 1054 = .ok (.iadd, 1) from by decide +kernel) rfl ?_
  refine sr_sld (q := 1056) C HX Hb HbA (show decode cL_law 1055 = .ok (.iaload, 1) from by decide +kernel) rfl ?_
  refine sr_cVi (As := [.int (sx (v3 + (1 : Int32)).toNatClampNeg), .int (sx (v3 + (2 : Int32)).toNatClampNeg), .int (sx (v3 + (3 : Int32)).toNatClampNeg)]) (st := []) (b := v1) (q := 1059) C yvX11_alike ml_L_123 (cnX11_alike (xo κ) v1 (sx (v3 + (1 : Int32)).toNatClampNeg) (sx (v3 + (2 : Int32)).toNatClampNeg) (sx (v3 + (3 : Int32)).toNatClampNeg) hv1) hv1 (by decide) rfl rfl rfl (by decide) (by decide) (Nat.le_of_ble_eq_true rfl) rfl (show decode cL_law 1056 = .ok (.invokevirtual 123, 3) from by decide +kernel) rfl (fun x1056 => ?_)
  refine sr_aload_n (i := 2) (q := 1060) C (show decode cL_law 1059 = .ok (.aload_n 2, 1) from by decide +kernel) rfl rfl rfl ?_
  refine sr_aload_n (i := 0) (q := 1061) C (show decode cL_law 1060 = .ok (.aload_n 0, 1) from by decide +kernel) rfl rfl rfl ?_
  refine sr_iload_n (i := 3) (q := 1062) C (show decode cL_law 1061 = .ok (.iload_n 3, 1) from by decide +kernel) rfl rfl rfl ?_
  refine sr_iconst (v := (1 : Int32)) (q := 1063) C (show decode cL_law 1062 = .ok (.iconst 1, 1) from by decide +kernel) (by decide) rfl ?_
  refine sr_iadd (q := 1064) C (show decode cL_law 1063 = .ok (.iadd, 1) from by decide +kernel) rfl ?_
  refine sr_sld (q := 1065) C HX Hb HbA (show decode cL_law 1064 = .ok (.iaload, 1) from by decide +kernel) rfl ?_
  refine sr_aload_n (i := 0) (q := 1066) C (show decode cL_law 1065 = .ok (.aload_n 0, 1) from by decide +kernel) rfl rfl rfl ?_
  refine sr_iload_n (i := 3) (q := 1067) C (show decode cL_law 1066 = .ok (.iload_n 3, 1) from by decide +kernel) rfl rfl rfl ?_
  refine sr_iconst (v := (2 : Int32)) (q := 1068) C (show decode cL_law 1067 = .ok (.iconst 2, 1) from by decide +kernel) (by decide) rfl ?_
  refine sr_iadd (q := 1069) C (show decode cL_law 1068 = .ok (.iadd, 1) from by decide +kernel) rfl ?_
  refine sr_sld (q := 1070) C HX Hb HbA (show decode cL_law 1069 = .ok (.iaload, 1) from by decide +kernel) rfl ?_
  refine sr_aload_n (i := 0) (q := 1071) C (show decode cL_law 1070 = .ok (.aload_n 0, 1) from by decide +kernel) rfl rfl rfl ?_
  refine sr_iload_n (i := 3) (q := 1072) C (show decode cL_law 1071 = .ok (.iload_n 3, 1) from by decide +kernel) rfl rfl rfl ?_
  refine sr_iconst (v := (3 : Int32)) (q := 1073) C (show decode cL_law 1072 = .ok (.iconst 3, 1) from by decide +kernel) (by decide) rfl ?_
  refine sr_iadd (q := 1074) C (show decode cL_law 1073 = .ok (.iadd, 1) from by decide +kernel) rfl ?_
  refine sr_sld (q := 1075) C HX Hb HbA (show decode cL_law 1074 = .ok (.iaload, 1) from by decide +kernel) rfl ?_
  refine sr_cVi (As := [.int (sx (v3 + (1 : Int32)).toNatClampNeg), .int (sx (v3 + (2 : Int32)).toNatClampNeg), .int (sx (v3 + (3 : Int32)).toNatClampNeg)]) (st := [.int x1056]) (b := v2) (q := 1078) C yvX12_alike ml_L_126 (cnX12_alike (xo κ) v2 (sx (v3 + (1 : Int32)).toNatClampNeg) (sx (v3 + (2 : Int32)).toNatClampNeg) (sx (v3 + (3 : Int32)).toNatClampNeg) hv2) hv2 (by decide) rfl rfl rfl (by decide) (by decide) (Nat.le_of_ble_eq_true rfl) rfl (show decode cL_law 1075 = .ok (.invokevirtual 126, 3) from by decide +kernel) rfl (fun x1075 => ?_)
  refine sr_icmp_eq (q := 1081) C 2013 (show decode cL_law 1078 = .ok (.if_icmp .eq 935, 3) from by decide +kernel) (by decide) rfl ?_ ?_
  · exact slL_law_J2013 C HX Hb HbA K18 v1 v2 v3 hv1 hv2
  · refine sr_iconst (v := (0 : Int32)) (q := 1082) C (show decode cL_law 1081 = .ok (.iconst 0, 1) from by decide +kernel) (by decide) rfl ?_
    exact sr_ireturn C false rfl (show decode cL_law 1082 = .ok (.ireturn, 1) from by decide +kernel)
def fnL_law_J1083 (sx : Nat → Int32) (Ln : Nat) (k18 : Nat → Nat → Int32 → sm_M Bool) (v1 : Nat) (v2 : Nat) (v3 : Int32) : sm_M Bool := m_gd (¬ ((v3 + (1 : Int32)) < 0 ∨ Ln ≤ (v3 + (1 : Int32)).toNatClampNeg)) <| m_gd (¬ ((v3 + (2 : Int32)) < 0 ∨ Ln ≤ (v3 + (2 : Int32)).toNatClampNeg)) <| m_gd (¬ ((v3 + (3 : Int32)) < 0 ∨ Ln ≤ (v3 + (3 : Int32)).toNatClampNeg)) <| m_gd (¬ ((v3 + (4 : Int32)) < 0 ∨ Ln ≤ (v3 + (4 : Int32)).toNatClampNeg)) <| m_bnd (fnX11_more v1 (sx (v3 + (1 : Int32)).toNatClampNeg) (sx (v3 + (2 : Int32)).toNatClampNeg) (sx (v3 + (3 : Int32)).toNatClampNeg) (sx (v3 + (4 : Int32)).toNatClampNeg)) fun x1104 => m_gd (¬ ((v3 + (1 : Int32)) < 0 ∨ Ln ≤ (v3 + (1 : Int32)).toNatClampNeg)) <| m_gd (¬ ((v3 + (2 : Int32)) < 0 ∨ Ln ≤ (v3 + (2 : Int32)).toNatClampNeg)) <| m_gd (¬ ((v3 + (3 : Int32)) < 0 ∨ Ln ≤ (v3 + (3 : Int32)).toNatClampNeg)) <| m_gd (¬ ((v3 + (4 : Int32)) < 0 ∨ Ln ≤ (v3 + (4 : Int32)).toNatClampNeg)) <| m_bnd (fnX12_more v2 (sx (v3 + (1 : Int32)).toNatClampNeg) (sx (v3 + (2 : Int32)).toNatClampNeg) (sx (v3 + (3 : Int32)).toNatClampNeg) (sx (v3 + (4 : Int32)).toNatClampNeg)) fun x1128 => m_br (x1104 = x1128)
    (fnL_law_J2013 sx Ln k18 v1 v2 v3)
    (m_ret false)
set_option maxHeartbeats 4000000 in
set_option maxRecDepth 100000 in
theorem slL_law_J1083 {κ : sm_X} (C : sm_C κ R_law cL_law 4 16) {sx : Nat → Int32} {Ln b : Nat} (HX : va_X b Ln sx (xs κ) (xs κ).heap) (Hb : b < (xs κ).heap.size) (HbA : ¬ sm_A (xo κ) b) {k18 : Nat → Nat → Int32 → sm_M Bool} (K18 : ∀ (v1 : Nat) (v2 : Nat) (v3 : Int32) (hv1 : kd v1 = 11) (hv2 : kd v2 = 12), sm_S κ (fun r : Bool => .inr (some (.int (bI r)))) (.inl (18, [some (.ref b), some (xad κ v1), some (xad κ v2), some (.int v3)], [])) (k18 v1 v2 v3)) (v1 : Nat) (v2 : Nat) (v3 : Int32) (hv1 : kd v1 = 11) (hv2 : kd v2 = 12) : sm_S κ (fun r : Bool => .inr (some (.int (bI r)))) (.inl (1083, [some (.ref b), some (xad κ v1), some (xad κ v2), some (.int v3)], [])) (fnL_law_J1083 sx Ln k18 v1 v2 v3) := by
  unfold fnL_law_J1083
  refine sr_aload_n (i := 1) (q := 1084) C (show decode cL_law 1083 = .ok (.aload_n 1, 1) from by decide +kernel) rfl rfl rfl ?_
  refine sr_aload_n (i := 0) (q := 1085) C (show decode cL_law 1084 = .ok (.aload_n 0, 1) from by decide +kernel) rfl rfl rfl ?_
  refine sr_iload_n (i := 3) (q := 1086) C (show decode cL_law 1085 = .ok (.iload_n 3, 1) from by decide +kernel) rfl rfl rfl ?_
  refine sr_iconst (v := (1 : Int32)) (q := 1087) C (show decode cL_law 1086 = .ok (.iconst 1, 1) from by decide +kernel) (by decide) rfl ?_
  refine sr_iadd (q := 1088) C (show decode cL_law 1087 = .ok (.iadd, 1) from by decide +kernel) rfl ?_
  refine sr_sld (q := 1089) C HX Hb HbA (show decode cL_law 1088 = .ok (.iaload, 1) from by decide +kernel) rfl ?_
  refine sr_aload_n (i := 0) (q := 1090) C (show decode cL_law 1089 = .ok (.aload_n 0, 1) from by decide +kernel) rfl rfl rfl ?_
  refine sr_iload_n (i := 3) (q := 1091) C (show decode cL_law 1090 = .ok (.iload_n 3, 1) from by decide +kernel) rfl rfl rfl ?_
  refine sr_iconst (v := (2 : Int32)) (q := 1092) C (show decode cL_law 1091 = .ok (.iconst 2, 1) from by decide +kernel) (by decide) rfl ?_
  refine sr_iadd (q := 1093) C (show decode cL_law 1092 = .ok (.iadd, 1) from by decide +kernel) rfl ?_
  refine sr_sld (q := 1094) C HX Hb HbA (show decode cL_law 1093 = .ok (.iaload, 1) from by decide +kernel) rfl ?_
  refine sr_aload_n (i := 0) (q := 1095) C (show decode cL_law 1094 = .ok (.aload_n 0, 1) from by decide +kernel) rfl rfl rfl ?_
  refine sr_iload_n (i := 3) (q := 1096) C (show decode cL_law 1095 = .ok (.iload_n 3, 1) from by decide +kernel) rfl rfl rfl ?_
  refine sr_iconst (v := (3 : Int32)) (q := 1097) C (show decode cL_law 1096 = .ok (.iconst 3, 1) from by decide +kernel) (by decide) rfl ?_
  refine sr_iadd (q := 1098) C (show decode cL_law 1097 = .ok (.iadd, 1) from by decide +kernel) rfl ?_
  refine sr_sld (q := 1099) C HX Hb HbA (show decode cL_law 1098 = .ok (.iaload, 1) from by decide +kernel) rfl ?_
  refine sr_aload_n (i := 0) (q := 1100) C (show decode cL_law 1099 = .ok (.aload_n 0, 1) from by decide +kernel) rfl rfl rfl ?_
  refine sr_iload_n (i := 3) (q := 1101) C (show decode cL_law 1100 = .ok (.iload_n 3, 1) from by decide +kernel) rfl rfl rfl ?_
  refine sr_iconst (v := (4 : Int32)) (q := 1102) C (show decode cL_law 1101 = .ok (.iconst 4, 1) from by decide +kernel) (by decide) rfl ?_
  refine sr_iadd (q := 1103) C (show decode cL_law 1102 = .ok (.iadd, 1) from by decide +kernel) rfl ?_
  refine sr_sld (q := 1104) C HX Hb HbA (show decode cL_law 1103 = .ok (.iaload, 1) from by decide +kernel) rfl ?_
  refine sr_cVi (As := [.int (sx (v3 + (1 : Int32)).toNatClampNeg), .int (sx (v3 + (2 : Int32)).toNatClampNeg), .int (sx (v3 + (3 : Int32)).toNatClampNeg), .int (sx (v3 + (4 : Int32)).toNatClampNeg)]) (st := []) (b := v1) (q := 1107) C yvX11_more ml_L_127 (cnX11_more (xo κ) v1 (sx (v3 + (1 : Int32)).toNatClampNeg) (sx (v3 + (2 : Int32)).toNatClampNeg) (sx (v3 + (3 : Int32)).toNatClampNeg) (sx (v3 + (4 : Int32)).toNatClampNeg) hv1) hv1 (by decide) rfl rfl rfl (by decide) (by decide) (Nat.le_of_ble_eq_true rfl) rfl (show decode cL_law 1104 = .ok (.invokevirtual 127, 3) from by decide +kernel) rfl (fun x1104 => ?_)
  refine sr_aload_n (i := 2) (q := 1108) C (show decode cL_law 1107 = .ok (.aload_n 2, 1) from by decide +kernel) rfl rfl rfl ?_
  refine sr_aload_n (i := 0) (q := 1109) C (show decode cL_law 1108 = .ok (.aload_n 0, 1) from by decide +kernel) rfl rfl rfl ?_
  refine sr_iload_n (i := 3) (q := 1110) C (show decode cL_law 1109 = .ok (.iload_n 3, 1) from by decide +kernel) rfl rfl rfl ?_
  refine sr_iconst (v := (1 : Int32)) (q := 1111) C (show decode cL_law 1110 = .ok (.iconst 1, 1) from by decide +kernel) (by decide) rfl ?_
  refine sr_iadd (q := 1112) C (show decode cL_law 1111 = .ok (.iadd, 1) from by decide +kernel) rfl ?_
  refine sr_sld (q := 1113) C HX Hb HbA (show decode cL_law 1112 = .ok (.iaload, 1) from by decide +kernel) rfl ?_
  refine sr_aload_n (i := 0) (q := 1114) C (show decode cL_law 1113 = .ok (.aload_n 0, 1) from by decide +kernel) rfl rfl rfl ?_
  refine sr_iload_n (i := 3) (q := 1115) C (show decode cL_law 1114 = .ok (.iload_n 3, 1) from by decide +kernel) rfl rfl rfl ?_
  refine sr_iconst (v := (2 : Int32)) (q := 1116) C (show decode cL_law 1115 = .ok (.iconst 2, 1) from by decide +kernel) (by decide) rfl ?_
  refine sr_iadd (q := 1117) C (show decode cL_law 1116 = .ok (.iadd, 1) from by decide +kernel) rfl ?_
  refine sr_sld (q := 1118) C HX Hb HbA (show decode cL_law 1117 = .ok (.iaload, 1) from by decide +kernel) rfl ?_
  refine sr_aload_n (i := 0) (q := 1119) C (show decode cL_law 1118 = .ok (.aload_n 0, 1) from by decide +kernel) rfl rfl rfl ?_
  refine sr_iload_n (i := 3) (q := 1120) C (show decode cL_law 1119 = .ok (.iload_n 3, 1) from by decide +kernel) rfl rfl rfl ?_
  refine sr_iconst (v := (3 : Int32)) (q := 1121) C (show decode cL_law 1120 = .ok (.iconst 3, 1) from by decide +kernel) (by decide) rfl ?_
  refine sr_iadd (q := 1122) C (show decode cL_law 1121 = .ok (.iadd, 1) from by decide +kernel) rfl ?_
  refine sr_sld (q := 1123) C HX Hb HbA (show decode cL_law 1122 = .ok (.iaload, 1) from by decide +kernel) rfl ?_
  refine sr_aload_n (i := 0) (q := 1124) C (show decode cL_law 1123 = .ok (.aload_n 0, 1) from by decide +kernel) rfl rfl rfl ?_
  refine sr_iload_n (i := 3) (q := 1125) C (show decode cL_law 1124 = .ok (.iload_n 3, 1) from by decide +kernel) rfl rfl rfl ?_
  refine sr_iconst (v := (4 : Int32)) (q := 1126) C (show decode cL_law 1125 = .ok (.iconst 4, 1) from by decide +kernel) (by decide) rfl ?_
  refine sr_iadd (q := 1127) C (show decode cL_law 1126 = .ok (.iadd, 1) from by decide +kernel) rfl ?_
  refine sr_sld (q := 1128) C HX Hb HbA (show decode cL_law 1127 = .ok (.iaload, 1) from by decide +kernel) rfl ?_
  refine sr_cVi (As := [.int (sx (v3 + (1 : Int32)).toNatClampNeg), .int (sx (v3 + (2 : Int32)).toNatClampNeg), .int (sx (v3 + (3 : Int32)).toNatClampNeg), .int (sx (v3 + (4 : Int32)).toNatClampNeg)]) (st := [.int x1104]) (b := v2) (q := 1131) C yvX12_more ml_L_130 (cnX12_more (xo κ) v2 (sx (v3 + (1 : Int32)).toNatClampNeg) (sx (v3 + (2 : Int32)).toNatClampNeg) (sx (v3 + (3 : Int32)).toNatClampNeg) (sx (v3 + (4 : Int32)).toNatClampNeg) hv2) hv2 (by decide) rfl rfl rfl (by decide) (by decide) (Nat.le_of_ble_eq_true rfl) rfl (show decode cL_law 1128 = .ok (.invokevirtual 130, 3) from by decide +kernel) rfl (fun x1128 => ?_)
  refine sr_icmp_eq (q := 1134) C 2013 (show decode cL_law 1131 = .ok (.if_icmp .eq 882, 3) from by decide +kernel) (by decide) rfl ?_ ?_
  · exact slL_law_J2013 C HX Hb HbA K18 v1 v2 v3 hv1 hv2
  · refine sr_iconst (v := (0 : Int32)) (q := 1135) C (show decode cL_law 1134 = .ok (.iconst 0, 1) from by decide +kernel) (by decide) rfl ?_
    exact sr_ireturn C false rfl (show decode cL_law 1135 = .ok (.ireturn, 1) from by decide +kernel)
def fnL_law_J1136 (sx : Nat → Int32) (Ln : Nat) (k18 : Nat → Nat → Int32 → sm_M Bool) (v1 : Nat) (v2 : Nat) (v3 : Int32) : sm_M Bool := m_gd (¬ ((v3 + (1 : Int32)) < 0 ∨ Ln ≤ (v3 + (1 : Int32)).toNatClampNeg)) <| m_gd (¬ ((v3 + (2 : Int32)) < 0 ∨ Ln ≤ (v3 + (2 : Int32)).toNatClampNeg)) <| m_bnd (fnX11_where v1 (sx (v3 + (1 : Int32)).toNatClampNeg) (sx (v3 + (2 : Int32)).toNatClampNeg)) fun x1147 => m_gd (¬ ((v3 + (1 : Int32)) < 0 ∨ Ln ≤ (v3 + (1 : Int32)).toNatClampNeg)) <| m_gd (¬ ((v3 + (2 : Int32)) < 0 ∨ Ln ≤ (v3 + (2 : Int32)).toNatClampNeg)) <| m_bnd (fnX12_where v2 (sx (v3 + (1 : Int32)).toNatClampNeg) (sx (v3 + (2 : Int32)).toNatClampNeg)) fun x1161 => m_br (x1147 = x1161)
    (fnL_law_J2013 sx Ln k18 v1 v2 v3)
    (m_ret false)
set_option maxHeartbeats 4000000 in
set_option maxRecDepth 100000 in
theorem slL_law_J1136 {κ : sm_X} (C : sm_C κ R_law cL_law 4 16) {sx : Nat → Int32} {Ln b : Nat} (HX : va_X b Ln sx (xs κ) (xs κ).heap) (Hb : b < (xs κ).heap.size) (HbA : ¬ sm_A (xo κ) b) {k18 : Nat → Nat → Int32 → sm_M Bool} (K18 : ∀ (v1 : Nat) (v2 : Nat) (v3 : Int32) (hv1 : kd v1 = 11) (hv2 : kd v2 = 12), sm_S κ (fun r : Bool => .inr (some (.int (bI r)))) (.inl (18, [some (.ref b), some (xad κ v1), some (xad κ v2), some (.int v3)], [])) (k18 v1 v2 v3)) (v1 : Nat) (v2 : Nat) (v3 : Int32) (hv1 : kd v1 = 11) (hv2 : kd v2 = 12) : sm_S κ (fun r : Bool => .inr (some (.int (bI r)))) (.inl (1136, [some (.ref b), some (xad κ v1), some (xad κ v2), some (.int v3)], [])) (fnL_law_J1136 sx Ln k18 v1 v2 v3) := by
  unfold fnL_law_J1136
  refine sr_aload_n (i := 1) (q := 1137) C (show decode cL_law 1136 = .ok (.aload_n 1, 1) from by decide +kernel) rfl rfl rfl ?_
  refine sr_aload_n (i := 0) (q := 1138) C (show decode cL_law 1137 = .ok (.aload_n 0, 1) from by decide +kernel) rfl rfl rfl ?_
  refine sr_iload_n (i := 3) (q := 1139) C (show decode cL_law 1138 = .ok (.iload_n 3, 1) from by decide +kernel) rfl rfl rfl ?_
  refine sr_iconst (v := (1 : Int32)) (q := 1140) C (show decode cL_law 1139 = .ok (.iconst 1, 1) from by decide +kernel) (by decide) rfl ?_
  refine sr_iadd (q := 1141) C (show decode cL_law 1140 = .ok (.iadd, 1) from by decide +kernel) rfl ?_
  refine sr_sld (q := 1142) C HX Hb HbA (show decode cL_law 1141 = .ok (.iaload, 1) from by decide +kernel) rfl ?_
  refine sr_aload_n (i := 0) (q := 1143) C (show decode cL_law 1142 = .ok (.aload_n 0, 1) from by decide +kernel) rfl rfl rfl ?_
  refine sr_iload_n (i := 3) (q := 1144) C (show decode cL_law 1143 = .ok (.iload_n 3, 1) from by decide +kernel) rfl rfl rfl ?_
  refine sr_iconst (v := (2 : Int32)) (q := 1145) C (show decode cL_law 1144 = .ok (.iconst 2, 1) from by decide +kernel) (by decide) rfl ?_
  refine sr_iadd (q := 1146) C (show decode cL_law 1145 = .ok (.iadd, 1) from by decide +kernel) rfl ?_
  refine sr_sld (q := 1147) C HX Hb HbA (show decode cL_law 1146 = .ok (.iaload, 1) from by decide +kernel) rfl ?_
  refine sr_cVi (As := [.int (sx (v3 + (1 : Int32)).toNatClampNeg), .int (sx (v3 + (2 : Int32)).toNatClampNeg)]) (st := []) (b := v1) (q := 1150) C yvX11_where ml_L_131 (cnX11_where (xo κ) v1 (sx (v3 + (1 : Int32)).toNatClampNeg) (sx (v3 + (2 : Int32)).toNatClampNeg) hv1) hv1 (by decide) rfl rfl rfl (by decide) (by decide) (Nat.le_of_ble_eq_true rfl) rfl (show decode cL_law 1147 = .ok (.invokevirtual 131, 3) from by decide +kernel) rfl (fun x1147 => ?_)
  refine sr_aload_n (i := 2) (q := 1151) C (show decode cL_law 1150 = .ok (.aload_n 2, 1) from by decide +kernel) rfl rfl rfl ?_
  refine sr_aload_n (i := 0) (q := 1152) C (show decode cL_law 1151 = .ok (.aload_n 0, 1) from by decide +kernel) rfl rfl rfl ?_
  refine sr_iload_n (i := 3) (q := 1153) C (show decode cL_law 1152 = .ok (.iload_n 3, 1) from by decide +kernel) rfl rfl rfl ?_
  refine sr_iconst (v := (1 : Int32)) (q := 1154) C (show decode cL_law 1153 = .ok (.iconst 1, 1) from by decide +kernel) (by decide) rfl ?_
  refine sr_iadd (q := 1155) C (show decode cL_law 1154 = .ok (.iadd, 1) from by decide +kernel) rfl ?_
  refine sr_sld (q := 1156) C HX Hb HbA (show decode cL_law 1155 = .ok (.iaload, 1) from by decide +kernel) rfl ?_
  refine sr_aload_n (i := 0) (q := 1157) C (show decode cL_law 1156 = .ok (.aload_n 0, 1) from by decide +kernel) rfl rfl rfl ?_
  refine sr_iload_n (i := 3) (q := 1158) C (show decode cL_law 1157 = .ok (.iload_n 3, 1) from by decide +kernel) rfl rfl rfl ?_
  refine sr_iconst (v := (2 : Int32)) (q := 1159) C (show decode cL_law 1158 = .ok (.iconst 2, 1) from by decide +kernel) (by decide) rfl ?_
  refine sr_iadd (q := 1160) C (show decode cL_law 1159 = .ok (.iadd, 1) from by decide +kernel) rfl ?_
  refine sr_sld (q := 1161) C HX Hb HbA (show decode cL_law 1160 = .ok (.iaload, 1) from by decide +kernel) rfl ?_
  refine sr_cVi (As := [.int (sx (v3 + (1 : Int32)).toNatClampNeg), .int (sx (v3 + (2 : Int32)).toNatClampNeg)]) (st := [.int x1147]) (b := v2) (q := 1164) C yvX12_where ml_L_134 (cnX12_where (xo κ) v2 (sx (v3 + (1 : Int32)).toNatClampNeg) (sx (v3 + (2 : Int32)).toNatClampNeg) hv2) hv2 (by decide) rfl rfl rfl (by decide) (by decide) (Nat.le_of_ble_eq_true rfl) rfl (show decode cL_law 1161 = .ok (.invokevirtual 134, 3) from by decide +kernel) rfl (fun x1161 => ?_)
  refine sr_icmp_eq (q := 1167) C 2013 (show decode cL_law 1164 = .ok (.if_icmp .eq 849, 3) from by decide +kernel) (by decide) rfl ?_ ?_
  · exact slL_law_J2013 C HX Hb HbA K18 v1 v2 v3 hv1 hv2
  · refine sr_iconst (v := (0 : Int32)) (q := 1168) C (show decode cL_law 1167 = .ok (.iconst 0, 1) from by decide +kernel) (by decide) rfl ?_
    exact sr_ireturn C false rfl (show decode cL_law 1168 = .ok (.ireturn, 1) from by decide +kernel)
def fnL_law_J1169 (sx : Nat → Int32) (Ln : Nat) (k18 : Nat → Nat → Int32 → sm_M Bool) (v1 : Nat) (v2 : Nat) (v3 : Int32) : sm_M Bool := m_gd (¬ ((v3 + (1 : Int32)) < 0 ∨ Ln ≤ (v3 + (1 : Int32)).toNatClampNeg)) <| m_gd (¬ ((v3 + (2 : Int32)) < 0 ∨ Ln ≤ (v3 + (2 : Int32)).toNatClampNeg)) <| m_gd (¬ ((v3 + (3 : Int32)) < 0 ∨ Ln ≤ (v3 + (3 : Int32)).toNatClampNeg)) <| m_bnd (fnX11_moved v1 (sx (v3 + (1 : Int32)).toNatClampNeg) (sx (v3 + (2 : Int32)).toNatClampNeg) (sx (v3 + (3 : Int32)).toNatClampNeg)) fun x1185 => m_gd (¬ ((v3 + (1 : Int32)) < 0 ∨ Ln ≤ (v3 + (1 : Int32)).toNatClampNeg)) <| m_gd (¬ ((v3 + (2 : Int32)) < 0 ∨ Ln ≤ (v3 + (2 : Int32)).toNatClampNeg)) <| m_gd (¬ ((v3 + (3 : Int32)) < 0 ∨ Ln ≤ (v3 + (3 : Int32)).toNatClampNeg)) <| m_bnd (fnX12_moved v2 (sx (v3 + (1 : Int32)).toNatClampNeg) (sx (v3 + (2 : Int32)).toNatClampNeg) (sx (v3 + (3 : Int32)).toNatClampNeg)) fun x1204 => m_br (x1185 = x1204)
    (fnL_law_J2013 sx Ln k18 v1 v2 v3)
    (m_ret false)
set_option maxHeartbeats 4000000 in
set_option maxRecDepth 100000 in
theorem slL_law_J1169 {κ : sm_X} (C : sm_C κ R_law cL_law 4 16) {sx : Nat → Int32} {Ln b : Nat} (HX : va_X b Ln sx (xs κ) (xs κ).heap) (Hb : b < (xs κ).heap.size) (HbA : ¬ sm_A (xo κ) b) {k18 : Nat → Nat → Int32 → sm_M Bool} (K18 : ∀ (v1 : Nat) (v2 : Nat) (v3 : Int32) (hv1 : kd v1 = 11) (hv2 : kd v2 = 12), sm_S κ (fun r : Bool => .inr (some (.int (bI r)))) (.inl (18, [some (.ref b), some (xad κ v1), some (xad κ v2), some (.int v3)], [])) (k18 v1 v2 v3)) (v1 : Nat) (v2 : Nat) (v3 : Int32) (hv1 : kd v1 = 11) (hv2 : kd v2 = 12) : sm_S κ (fun r : Bool => .inr (some (.int (bI r)))) (.inl (1169, [some (.ref b), some (xad κ v1), some (xad κ v2), some (.int v3)], [])) (fnL_law_J1169 sx Ln k18 v1 v2 v3) := by
  unfold fnL_law_J1169
  refine sr_aload_n (i := 1) (q := 1170) C (show decode cL_law 1169 = .ok (.aload_n 1, 1) from by decide +kernel) rfl rfl rfl ?_
  refine sr_aload_n (i := 0) (q := 1171) C (show decode cL_law 1170 = .ok (.aload_n 0, 1) from by decide +kernel) rfl rfl rfl ?_
  refine sr_iload_n (i := 3) (q := 1172) C (show decode cL_law 1171 = .ok (.iload_n 3, 1) from by decide +kernel) rfl rfl rfl ?_
  refine sr_iconst (v := (1 : Int32)) (q := 1173) C (show decode cL_law 1172 = .ok (.iconst 1, 1) from by decide +kernel) (by decide) rfl ?_
  refine sr_iadd (q := 1174) C (show decode cL_law 1173 = .ok (.iadd, 1) from by decide +kernel) rfl ?_
  refine sr_sld (q := 1175) C HX Hb HbA (show decode cL_law 1174 = .ok (.iaload, 1) from by decide +kernel) rfl ?_
  refine sr_aload_n (i := 0) (q := 1176) C (show decode cL_law 1175 = .ok (.aload_n 0, 1) from by decide +kernel) rfl rfl rfl ?_
  refine sr_iload_n (i := 3) (q := 1177) C (show decode cL_law 1176 = .ok (.iload_n 3, 1) from by decide +kernel) rfl rfl rfl ?_
  refine sr_iconst (v := (2 : Int32)) (q := 1178) C (show decode cL_law 1177 = .ok (.iconst 2, 1) from by decide +kernel) (by decide) rfl ?_
  refine sr_iadd (q := 1179) C (show decode cL_law 1178 = .ok (.iadd, 1) from by decide +kernel) rfl ?_
  refine sr_sld (q := 1180) C HX Hb HbA (show decode cL_law 1179 = .ok (.iaload, 1) from by decide +kernel) rfl ?_
  refine sr_aload_n (i := 0) (q := 1181) C (show decode cL_law 1180 = .ok (.aload_n 0, 1) from by decide +kernel) rfl rfl rfl ?_
  refine sr_iload_n (i := 3) (q := 1182) C (show decode cL_law 1181 = .ok (.iload_n 3, 1) from by decide +kernel) rfl rfl rfl ?_
  refine sr_iconst (v := (3 : Int32)) (q := 1183) C (show decode cL_law 1182 = .ok (.iconst 3, 1) from by decide +kernel) (by decide) rfl ?_
  refine sr_iadd (q := 1184) C (show decode cL_law 1183 = .ok (.iadd, 1) from by decide +kernel) rfl ?_
  refine sr_sld (q := 1185) C HX Hb HbA (show decode cL_law 1184 = .ok (.iaload, 1) from by decide +kernel) rfl ?_
  refine sr_cVi (As := [.int (sx (v3 + (1 : Int32)).toNatClampNeg), .int (sx (v3 + (2 : Int32)).toNatClampNeg), .int (sx (v3 + (3 : Int32)).toNatClampNeg)]) (st := []) (b := v1) (q := 1188) C yvX11_moved ml_L_135 (cnX11_moved (xo κ) v1 (sx (v3 + (1 : Int32)).toNatClampNeg) (sx (v3 + (2 : Int32)).toNatClampNeg) (sx (v3 + (3 : Int32)).toNatClampNeg) hv1) hv1 (by decide) rfl rfl rfl (by decide) (by decide) (Nat.le_of_ble_eq_true rfl) rfl (show decode cL_law 1185 = .ok (.invokevirtual 135, 3) from by decide +kernel) rfl (fun x1185 => ?_)
  refine sr_aload_n (i := 2) (q := 1189) C (show decode cL_law 1188 = .ok (.aload_n 2, 1) from by decide +kernel) rfl rfl rfl ?_
  refine sr_aload_n (i := 0) (q := 1190) C (show decode cL_law 1189 = .ok (.aload_n 0, 1) from by decide +kernel) rfl rfl rfl ?_
  refine sr_iload_n (i := 3) (q := 1191) C (show decode cL_law 1190 = .ok (.iload_n 3, 1) from by decide +kernel) rfl rfl rfl ?_
  refine sr_iconst (v := (1 : Int32)) (q := 1192) C (show decode cL_law 1191 = .ok (.iconst 1, 1) from by decide +kernel) (by decide) rfl ?_
  refine sr_iadd (q := 1193) C (show decode cL_law 1192 = .ok (.iadd, 1) from by decide +kernel) rfl ?_
  refine sr_sld (q := 1194) C HX Hb HbA (show decode cL_law 1193 = .ok (.iaload, 1) from by decide +kernel) rfl ?_
  refine sr_aload_n (i := 0) (q := 1195) C (show decode cL_law 1194 = .ok (.aload_n 0, 1) from by decide +kernel) rfl rfl rfl ?_
  refine sr_iload_n (i := 3) (q := 1196) C (show decode cL_law 1195 = .ok (.iload_n 3, 1) from by decide +kernel) rfl rfl rfl ?_
  refine sr_iconst (v := (2 : Int32)) (q := 1197) C (show decode cL_law 1196 = .ok (.iconst 2, 1) from by decide +kernel) (by decide) rfl ?_
  refine sr_iadd (q := 1198) C (show decode cL_law 1197 = .ok (.iadd, 1) from by decide +kernel) rfl ?_
  refine sr_sld (q := 1199) C HX Hb HbA (show decode cL_law 1198 = .ok (.iaload, 1) from by decide +kernel) rfl ?_
  refine sr_aload_n (i := 0) (q := 1200) C (show decode cL_law 1199 = .ok (.aload_n 0, 1) from by decide +kernel) rfl rfl rfl ?_
  refine sr_iload_n (i := 3) (q := 1201) C (show decode cL_law 1200 = .ok (.iload_n 3, 1) from by decide +kernel) rfl rfl rfl ?_
  refine sr_iconst (v := (3 : Int32)) (q := 1202) C (show decode cL_law 1201 = .ok (.iconst 3, 1) from by decide +kernel) (by decide) rfl ?_
  refine sr_iadd (q := 1203) C (show decode cL_law 1202 = .ok (.iadd, 1) from by decide +kernel) rfl ?_
  refine sr_sld (q := 1204) C HX Hb HbA (show decode cL_law 1203 = .ok (.iaload, 1) from by decide +kernel) rfl ?_
  refine sr_cVi (As := [.int (sx (v3 + (1 : Int32)).toNatClampNeg), .int (sx (v3 + (2 : Int32)).toNatClampNeg), .int (sx (v3 + (3 : Int32)).toNatClampNeg)]) (st := [.int x1185]) (b := v2) (q := 1207) C yvX12_moved ml_L_138 (cnX12_moved (xo κ) v2 (sx (v3 + (1 : Int32)).toNatClampNeg) (sx (v3 + (2 : Int32)).toNatClampNeg) (sx (v3 + (3 : Int32)).toNatClampNeg) hv2) hv2 (by decide) rfl rfl rfl (by decide) (by decide) (Nat.le_of_ble_eq_true rfl) rfl (show decode cL_law 1204 = .ok (.invokevirtual 138, 3) from by decide +kernel) rfl (fun x1204 => ?_)
  refine sr_icmp_eq (q := 1210) C 2013 (show decode cL_law 1207 = .ok (.if_icmp .eq 806, 3) from by decide +kernel) (by decide) rfl ?_ ?_
  · exact slL_law_J2013 C HX Hb HbA K18 v1 v2 v3 hv1 hv2
  · refine sr_iconst (v := (0 : Int32)) (q := 1211) C (show decode cL_law 1210 = .ok (.iconst 0, 1) from by decide +kernel) (by decide) rfl ?_
    exact sr_ireturn C false rfl (show decode cL_law 1211 = .ok (.ireturn, 1) from by decide +kernel)
def fnL_law_J1212 (sx : Nat → Int32) (Ln : Nat) (k18 : Nat → Nat → Int32 → sm_M Bool) (v1 : Nat) (v2 : Nat) (v3 : Int32) : sm_M Bool := m_gd (¬ ((v3 + (1 : Int32)) < 0 ∨ Ln ≤ (v3 + (1 : Int32)).toNatClampNeg)) <| m_gd (¬ ((v3 + (2 : Int32)) < 0 ∨ Ln ≤ (v3 + (2 : Int32)).toNatClampNeg)) <| m_bnd (fnX11_move v1 (sx (v3 + (1 : Int32)).toNatClampNeg) (sx (v3 + (2 : Int32)).toNatClampNeg)) fun x1223 => m_gd (¬ ((v3 + (1 : Int32)) < 0 ∨ Ln ≤ (v3 + (1 : Int32)).toNatClampNeg)) <| m_gd (¬ ((v3 + (2 : Int32)) < 0 ∨ Ln ≤ (v3 + (2 : Int32)).toNatClampNeg)) <| m_bnd (fnX12_move v2 (sx (v3 + (1 : Int32)).toNatClampNeg) (sx (v3 + (2 : Int32)).toNatClampNeg)) fun x1237 => m_br (x1223 = x1237)
    (fnL_law_J2013 sx Ln k18 v1 v2 v3)
    (m_ret false)
set_option maxHeartbeats 4000000 in
set_option maxRecDepth 100000 in
theorem slL_law_J1212 {κ : sm_X} (C : sm_C κ R_law cL_law 4 16) {sx : Nat → Int32} {Ln b : Nat} (HX : va_X b Ln sx (xs κ) (xs κ).heap) (Hb : b < (xs κ).heap.size) (HbA : ¬ sm_A (xo κ) b) {k18 : Nat → Nat → Int32 → sm_M Bool} (K18 : ∀ (v1 : Nat) (v2 : Nat) (v3 : Int32) (hv1 : kd v1 = 11) (hv2 : kd v2 = 12), sm_S κ (fun r : Bool => .inr (some (.int (bI r)))) (.inl (18, [some (.ref b), some (xad κ v1), some (xad κ v2), some (.int v3)], [])) (k18 v1 v2 v3)) (v1 : Nat) (v2 : Nat) (v3 : Int32) (hv1 : kd v1 = 11) (hv2 : kd v2 = 12) : sm_S κ (fun r : Bool => .inr (some (.int (bI r)))) (.inl (1212, [some (.ref b), some (xad κ v1), some (xad κ v2), some (.int v3)], [])) (fnL_law_J1212 sx Ln k18 v1 v2 v3) := by
  unfold fnL_law_J1212
  refine sr_aload_n (i := 1) (q := 1213) C (show decode cL_law 1212 = .ok (.aload_n 1, 1) from by decide +kernel) rfl rfl rfl ?_
  refine sr_aload_n (i := 0) (q := 1214) C (show decode cL_law 1213 = .ok (.aload_n 0, 1) from by decide +kernel) rfl rfl rfl ?_
  refine sr_iload_n (i := 3) (q := 1215) C (show decode cL_law 1214 = .ok (.iload_n 3, 1) from by decide +kernel) rfl rfl rfl ?_
  refine sr_iconst (v := (1 : Int32)) (q := 1216) C (show decode cL_law 1215 = .ok (.iconst 1, 1) from by decide +kernel) (by decide) rfl ?_
  refine sr_iadd (q := 1217) C (show decode cL_law 1216 = .ok (.iadd, 1) from by decide +kernel) rfl ?_
  refine sr_sld (q := 1218) C HX Hb HbA (show decode cL_law 1217 = .ok (.iaload, 1) from by decide +kernel) rfl ?_
  refine sr_aload_n (i := 0) (q := 1219) C (show decode cL_law 1218 = .ok (.aload_n 0, 1) from by decide +kernel) rfl rfl rfl ?_
  refine sr_iload_n (i := 3) (q := 1220) C (show decode cL_law 1219 = .ok (.iload_n 3, 1) from by decide +kernel) rfl rfl rfl ?_
  refine sr_iconst (v := (2 : Int32)) (q := 1221) C (show decode cL_law 1220 = .ok (.iconst 2, 1) from by decide +kernel) (by decide) rfl ?_
  refine sr_iadd (q := 1222) C (show decode cL_law 1221 = .ok (.iadd, 1) from by decide +kernel) rfl ?_
  refine sr_sld (q := 1223) C HX Hb HbA (show decode cL_law 1222 = .ok (.iaload, 1) from by decide +kernel) rfl ?_
  refine sr_cVi (As := [.int (sx (v3 + (1 : Int32)).toNatClampNeg), .int (sx (v3 + (2 : Int32)).toNatClampNeg)]) (st := []) (b := v1) (q := 1226) C yvX11_move ml_L_139 (cnX11_move (xo κ) v1 (sx (v3 + (1 : Int32)).toNatClampNeg) (sx (v3 + (2 : Int32)).toNatClampNeg) hv1) hv1 (by decide) rfl rfl rfl (by decide) (by decide) (Nat.le_of_ble_eq_true rfl) rfl (show decode cL_law 1223 = .ok (.invokevirtual 139, 3) from by decide +kernel) rfl (fun x1223 => ?_)
  refine sr_aload_n (i := 2) (q := 1227) C (show decode cL_law 1226 = .ok (.aload_n 2, 1) from by decide +kernel) rfl rfl rfl ?_
  refine sr_aload_n (i := 0) (q := 1228) C (show decode cL_law 1227 = .ok (.aload_n 0, 1) from by decide +kernel) rfl rfl rfl ?_
  refine sr_iload_n (i := 3) (q := 1229) C (show decode cL_law 1228 = .ok (.iload_n 3, 1) from by decide +kernel) rfl rfl rfl ?_
  refine sr_iconst (v := (1 : Int32)) (q := 1230) C (show decode cL_law 1229 = .ok (.iconst 1, 1) from by decide +kernel) (by decide) rfl ?_
  refine sr_iadd (q := 1231) C (show decode cL_law 1230 = .ok (.iadd, 1) from by decide +kernel) rfl ?_
  refine sr_sld (q := 1232) C HX Hb HbA (show decode cL_law 1231 = .ok (.iaload, 1) from by decide +kernel) rfl ?_
  refine sr_aload_n (i := 0) (q := 1233) C (show decode cL_law 1232 = .ok (.aload_n 0, 1) from by decide +kernel) rfl rfl rfl ?_
  refine sr_iload_n (i := 3) (q := 1234) C (show decode cL_law 1233 = .ok (.iload_n 3, 1) from by decide +kernel) rfl rfl rfl ?_
  refine sr_iconst (v := (2 : Int32)) (q := 1235) C (show decode cL_law 1234 = .ok (.iconst 2, 1) from by decide +kernel) (by decide) rfl ?_
  refine sr_iadd (q := 1236) C (show decode cL_law 1235 = .ok (.iadd, 1) from by decide +kernel) rfl ?_
  refine sr_sld (q := 1237) C HX Hb HbA (show decode cL_law 1236 = .ok (.iaload, 1) from by decide +kernel) rfl ?_
  refine sr_cVi (As := [.int (sx (v3 + (1 : Int32)).toNatClampNeg), .int (sx (v3 + (2 : Int32)).toNatClampNeg)]) (st := [.int x1223]) (b := v2) (q := 1240) C yvX12_move ml_L_142 (cnX12_move (xo κ) v2 (sx (v3 + (1 : Int32)).toNatClampNeg) (sx (v3 + (2 : Int32)).toNatClampNeg) hv2) hv2 (by decide) rfl rfl rfl (by decide) (by decide) (Nat.le_of_ble_eq_true rfl) rfl (show decode cL_law 1237 = .ok (.invokevirtual 142, 3) from by decide +kernel) rfl (fun x1237 => ?_)
  refine sr_icmp_eq (q := 1243) C 2013 (show decode cL_law 1240 = .ok (.if_icmp .eq 773, 3) from by decide +kernel) (by decide) rfl ?_ ?_
  · exact slL_law_J2013 C HX Hb HbA K18 v1 v2 v3 hv1 hv2
  · refine sr_iconst (v := (0 : Int32)) (q := 1244) C (show decode cL_law 1243 = .ok (.iconst 0, 1) from by decide +kernel) (by decide) rfl ?_
    exact sr_ireturn C false rfl (show decode cL_law 1244 = .ok (.ireturn, 1) from by decide +kernel)
def fnL_law_J1245 (sx : Nat → Int32) (Ln : Nat) (k18 : Nat → Nat → Int32 → sm_M Bool) (v1 : Nat) (v2 : Nat) (v3 : Int32) : sm_M Bool := m_gd (¬ ((v3 + (1 : Int32)) < 0 ∨ Ln ≤ (v3 + (1 : Int32)).toNatClampNeg)) <| m_gd (¬ ((v3 + (2 : Int32)) < 0 ∨ Ln ≤ (v3 + (2 : Int32)).toNatClampNeg)) <| m_gd (¬ ((v3 + (3 : Int32)) < 0 ∨ Ln ≤ (v3 + (3 : Int32)).toNatClampNeg)) <| m_bnd (fnX11_plank v1 (sx (v3 + (1 : Int32)).toNatClampNeg) (sx (v3 + (2 : Int32)).toNatClampNeg) (sx (v3 + (3 : Int32)).toNatClampNeg)) fun x1261 => m_gd (¬ ((v3 + (1 : Int32)) < 0 ∨ Ln ≤ (v3 + (1 : Int32)).toNatClampNeg)) <| m_gd (¬ ((v3 + (2 : Int32)) < 0 ∨ Ln ≤ (v3 + (2 : Int32)).toNatClampNeg)) <| m_gd (¬ ((v3 + (3 : Int32)) < 0 ∨ Ln ≤ (v3 + (3 : Int32)).toNatClampNeg)) <| m_bnd (fnX12_plank v2 (sx (v3 + (1 : Int32)).toNatClampNeg) (sx (v3 + (2 : Int32)).toNatClampNeg) (sx (v3 + (3 : Int32)).toNatClampNeg)) fun x1280 => m_br (x1261 = x1280)
    (fnL_law_J2013 sx Ln k18 v1 v2 v3)
    (m_ret false)
set_option maxHeartbeats 4000000 in
set_option maxRecDepth 100000 in
theorem slL_law_J1245 {κ : sm_X} (C : sm_C κ R_law cL_law 4 16) {sx : Nat → Int32} {Ln b : Nat} (HX : va_X b Ln sx (xs κ) (xs κ).heap) (Hb : b < (xs κ).heap.size) (HbA : ¬ sm_A (xo κ) b) {k18 : Nat → Nat → Int32 → sm_M Bool} (K18 : ∀ (v1 : Nat) (v2 : Nat) (v3 : Int32) (hv1 : kd v1 = 11) (hv2 : kd v2 = 12), sm_S κ (fun r : Bool => .inr (some (.int (bI r)))) (.inl (18, [some (.ref b), some (xad κ v1), some (xad κ v2), some (.int v3)], [])) (k18 v1 v2 v3)) (v1 : Nat) (v2 : Nat) (v3 : Int32) (hv1 : kd v1 = 11) (hv2 : kd v2 = 12) : sm_S κ (fun r : Bool => .inr (some (.int (bI r)))) (.inl (1245, [some (.ref b), some (xad κ v1), some (xad κ v2), some (.int v3)], [])) (fnL_law_J1245 sx Ln k18 v1 v2 v3) := by
  unfold fnL_law_J1245
  refine sr_aload_n (i := 1) (q := 1246) C (show decode cL_law 1245 = .ok (.aload_n 1, 1) from by decide +kernel) rfl rfl rfl ?_
  refine sr_aload_n (i := 0) (q := 1247) C (show decode cL_law 1246 = .ok (.aload_n 0, 1) from by decide +kernel) rfl rfl rfl ?_
  refine sr_iload_n (i := 3) (q := 1248) C (show decode cL_law 1247 = .ok (.iload_n 3, 1) from by decide +kernel) rfl rfl rfl ?_
  refine sr_iconst (v := (1 : Int32)) (q := 1249) C (show decode cL_law 1248 = .ok (.iconst 1, 1) from by decide +kernel) (by decide) rfl ?_
  refine sr_iadd (q := 1250) C (show decode cL_law 1249 = .ok (.iadd, 1) from by decide +kernel) rfl ?_
  refine sr_sld (q := 1251) C HX Hb HbA (show decode cL_law 1250 = .ok (.iaload, 1) from by decide +kernel) rfl ?_
  refine sr_aload_n (i := 0) (q := 1252) C (show decode cL_law 1251 = .ok (.aload_n 0, 1) from by decide +kernel) rfl rfl rfl ?_
  refine sr_iload_n (i := 3) (q := 1253) C (show decode cL_law 1252 = .ok (.iload_n 3, 1) from by decide +kernel) rfl rfl rfl ?_
  refine sr_iconst (v := (2 : Int32)) (q := 1254) C (show decode cL_law 1253 = .ok (.iconst 2, 1) from by decide +kernel) (by decide) rfl ?_
  refine sr_iadd (q := 1255) C (show decode cL_law 1254 = .ok (.iadd, 1) from by decide +kernel) rfl ?_
  refine sr_sld (q := 1256) C HX Hb HbA (show decode cL_law 1255 = .ok (.iaload, 1) from by decide +kernel) rfl ?_
  refine sr_aload_n (i := 0) (q := 1257) C (show decode cL_law 1256 = .ok (.aload_n 0, 1) from by decide +kernel) rfl rfl rfl ?_
  refine sr_iload_n (i := 3) (q := 1258) C (show decode cL_law 1257 = .ok (.iload_n 3, 1) from by decide +kernel) rfl rfl rfl ?_
  refine sr_iconst (v := (3 : Int32)) (q := 1259) C (show decode cL_law 1258 = .ok (.iconst 3, 1) from by decide +kernel) (by decide) rfl ?_
  refine sr_iadd (q := 1260) C (show decode cL_law 1259 = .ok (.iadd, 1) from by decide +kernel) rfl ?_
  refine sr_sld (q := 1261) C HX Hb HbA (show decode cL_law 1260 = .ok (.iaload, 1) from by decide +kernel) rfl ?_
  refine sr_cVi (As := [.int (sx (v3 + (1 : Int32)).toNatClampNeg), .int (sx (v3 + (2 : Int32)).toNatClampNeg), .int (sx (v3 + (3 : Int32)).toNatClampNeg)]) (st := []) (b := v1) (q := 1264) C yvX11_plank ml_L_143 (cnX11_plank (xo κ) v1 (sx (v3 + (1 : Int32)).toNatClampNeg) (sx (v3 + (2 : Int32)).toNatClampNeg) (sx (v3 + (3 : Int32)).toNatClampNeg) hv1) hv1 (by decide) rfl rfl rfl (by decide) (by decide) (Nat.le_of_ble_eq_true rfl) rfl (show decode cL_law 1261 = .ok (.invokevirtual 143, 3) from by decide +kernel) rfl (fun x1261 => ?_)
  refine sr_aload_n (i := 2) (q := 1265) C (show decode cL_law 1264 = .ok (.aload_n 2, 1) from by decide +kernel) rfl rfl rfl ?_
  refine sr_aload_n (i := 0) (q := 1266) C (show decode cL_law 1265 = .ok (.aload_n 0, 1) from by decide +kernel) rfl rfl rfl ?_
  refine sr_iload_n (i := 3) (q := 1267) C (show decode cL_law 1266 = .ok (.iload_n 3, 1) from by decide +kernel) rfl rfl rfl ?_
  refine sr_iconst (v := (1 : Int32)) (q := 1268) C (show decode cL_law 1267 = .ok (.iconst 1, 1) from by decide +kernel) (by decide) rfl ?_
  refine sr_iadd (q := 1269) C (show decode cL_law 1268 = .ok (.iadd, 1) from by decide +kernel) rfl ?_
  refine sr_sld (q := 1270) C HX Hb HbA (show decode cL_law 1269 = .ok (.iaload, 1) from by decide +kernel) rfl ?_
  refine sr_aload_n (i := 0) (q := 1271) C (show decode cL_law 1270 = .ok (.aload_n 0, 1) from by decide +kernel) rfl rfl rfl ?_
  refine sr_iload_n (i := 3) (q := 1272) C (show decode cL_law 1271 = .ok (.iload_n 3, 1) from by decide +kernel) rfl rfl rfl ?_
  refine sr_iconst (v := (2 : Int32)) (q := 1273) C (show decode cL_law 1272 = .ok (.iconst 2, 1) from by decide +kernel) (by decide) rfl ?_
  refine sr_iadd (q := 1274) C (show decode cL_law 1273 = .ok (.iadd, 1) from by decide +kernel) rfl ?_
  refine sr_sld (q := 1275) C HX Hb HbA (show decode cL_law 1274 = .ok (.iaload, 1) from by decide +kernel) rfl ?_
  refine sr_aload_n (i := 0) (q := 1276) C (show decode cL_law 1275 = .ok (.aload_n 0, 1) from by decide +kernel) rfl rfl rfl ?_
  refine sr_iload_n (i := 3) (q := 1277) C (show decode cL_law 1276 = .ok (.iload_n 3, 1) from by decide +kernel) rfl rfl rfl ?_
  refine sr_iconst (v := (3 : Int32)) (q := 1278) C (show decode cL_law 1277 = .ok (.iconst 3, 1) from by decide +kernel) (by decide) rfl ?_
  refine sr_iadd (q := 1279) C (show decode cL_law 1278 = .ok (.iadd, 1) from by decide +kernel) rfl ?_
  refine sr_sld (q := 1280) C HX Hb HbA (show decode cL_law 1279 = .ok (.iaload, 1) from by decide +kernel) rfl ?_
  refine sr_cVi (As := [.int (sx (v3 + (1 : Int32)).toNatClampNeg), .int (sx (v3 + (2 : Int32)).toNatClampNeg), .int (sx (v3 + (3 : Int32)).toNatClampNeg)]) (st := [.int x1261]) (b := v2) (q := 1283) C yvX12_plank ml_L_146 (cnX12_plank (xo κ) v2 (sx (v3 + (1 : Int32)).toNatClampNeg) (sx (v3 + (2 : Int32)).toNatClampNeg) (sx (v3 + (3 : Int32)).toNatClampNeg) hv2) hv2 (by decide) rfl rfl rfl (by decide) (by decide) (Nat.le_of_ble_eq_true rfl) rfl (show decode cL_law 1280 = .ok (.invokevirtual 146, 3) from by decide +kernel) rfl (fun x1280 => ?_)
  refine sr_icmp_eq (q := 1286) C 2013 (show decode cL_law 1283 = .ok (.if_icmp .eq 730, 3) from by decide +kernel) (by decide) rfl ?_ ?_
  · exact slL_law_J2013 C HX Hb HbA K18 v1 v2 v3 hv1 hv2
  · refine sr_iconst (v := (0 : Int32)) (q := 1287) C (show decode cL_law 1286 = .ok (.iconst 0, 1) from by decide +kernel) (by decide) rfl ?_
    exact sr_ireturn C false rfl (show decode cL_law 1287 = .ok (.ireturn, 1) from by decide +kernel)
def fnL_law_J1288 (sx : Nat → Int32) (Ln : Nat) (k18 : Nat → Nat → Int32 → sm_M Bool) (v1 : Nat) (v2 : Nat) (v3 : Int32) : sm_M Bool := m_gd (¬ ((v3 + (1 : Int32)) < 0 ∨ Ln ≤ (v3 + (1 : Int32)).toNatClampNeg)) <| m_bnd (fnX11_planks v1 (sx (v3 + (1 : Int32)).toNatClampNeg)) fun x1294 => m_gd (¬ ((v3 + (1 : Int32)) < 0 ∨ Ln ≤ (v3 + (1 : Int32)).toNatClampNeg)) <| m_bnd (fnX12_planks v2 (sx (v3 + (1 : Int32)).toNatClampNeg)) fun x1303 => m_br (x1294 = x1303)
    (fnL_law_J2013 sx Ln k18 v1 v2 v3)
    (m_ret false)
set_option maxHeartbeats 4000000 in
set_option maxRecDepth 100000 in
theorem slL_law_J1288 {κ : sm_X} (C : sm_C κ R_law cL_law 4 16) {sx : Nat → Int32} {Ln b : Nat} (HX : va_X b Ln sx (xs κ) (xs κ).heap) (Hb : b < (xs κ).heap.size) (HbA : ¬ sm_A (xo κ) b) {k18 : Nat → Nat → Int32 → sm_M Bool} (K18 : ∀ (v1 : Nat) (v2 : Nat) (v3 : Int32) (hv1 : kd v1 = 11) (hv2 : kd v2 = 12), sm_S κ (fun r : Bool => .inr (some (.int (bI r)))) (.inl (18, [some (.ref b), some (xad κ v1), some (xad κ v2), some (.int v3)], [])) (k18 v1 v2 v3)) (v1 : Nat) (v2 : Nat) (v3 : Int32) (hv1 : kd v1 = 11) (hv2 : kd v2 = 12) : sm_S κ (fun r : Bool => .inr (some (.int (bI r)))) (.inl (1288, [some (.ref b), some (xad κ v1), some (xad κ v2), some (.int v3)], [])) (fnL_law_J1288 sx Ln k18 v1 v2 v3) := by
  unfold fnL_law_J1288
  refine sr_aload_n (i := 1) (q := 1289) C (show decode cL_law 1288 = .ok (.aload_n 1, 1) from by decide +kernel) rfl rfl rfl ?_
  refine sr_aload_n (i := 0) (q := 1290) C (show decode cL_law 1289 = .ok (.aload_n 0, 1) from by decide +kernel) rfl rfl rfl ?_
  refine sr_iload_n (i := 3) (q := 1291) C (show decode cL_law 1290 = .ok (.iload_n 3, 1) from by decide +kernel) rfl rfl rfl ?_
  refine sr_iconst (v := (1 : Int32)) (q := 1292) C (show decode cL_law 1291 = .ok (.iconst 1, 1) from by decide +kernel) (by decide) rfl ?_
  refine sr_iadd (q := 1293) C (show decode cL_law 1292 = .ok (.iadd, 1) from by decide +kernel) rfl ?_
  refine sr_sld (q := 1294) C HX Hb HbA (show decode cL_law 1293 = .ok (.iaload, 1) from by decide +kernel) rfl ?_
  refine sr_cVi (As := [.int (sx (v3 + (1 : Int32)).toNatClampNeg)]) (st := []) (b := v1) (q := 1297) C yvX11_planks ml_L_147 (cnX11_planks (xo κ) v1 (sx (v3 + (1 : Int32)).toNatClampNeg) hv1) hv1 (by decide) rfl rfl rfl (by decide) (by decide) (Nat.le_of_ble_eq_true rfl) rfl (show decode cL_law 1294 = .ok (.invokevirtual 147, 3) from by decide +kernel) rfl (fun x1294 => ?_)
  refine sr_aload_n (i := 2) (q := 1298) C (show decode cL_law 1297 = .ok (.aload_n 2, 1) from by decide +kernel) rfl rfl rfl ?_
  refine sr_aload_n (i := 0) (q := 1299) C (show decode cL_law 1298 = .ok (.aload_n 0, 1) from by decide +kernel) rfl rfl rfl ?_
  refine sr_iload_n (i := 3) (q := 1300) C (show decode cL_law 1299 = .ok (.iload_n 3, 1) from by decide +kernel) rfl rfl rfl ?_
  refine sr_iconst (v := (1 : Int32)) (q := 1301) C (show decode cL_law 1300 = .ok (.iconst 1, 1) from by decide +kernel) (by decide) rfl ?_
  refine sr_iadd (q := 1302) C (show decode cL_law 1301 = .ok (.iadd, 1) from by decide +kernel) rfl ?_
  refine sr_sld (q := 1303) C HX Hb HbA (show decode cL_law 1302 = .ok (.iaload, 1) from by decide +kernel) rfl ?_
  refine sr_cVi (As := [.int (sx (v3 + (1 : Int32)).toNatClampNeg)]) (st := [.int x1294]) (b := v2) (q := 1306) C yvX12_planks ml_L_150 (cnX12_planks (xo κ) v2 (sx (v3 + (1 : Int32)).toNatClampNeg) hv2) hv2 (by decide) rfl rfl rfl (by decide) (by decide) (Nat.le_of_ble_eq_true rfl) rfl (show decode cL_law 1303 = .ok (.invokevirtual 150, 3) from by decide +kernel) rfl (fun x1303 => ?_)
  refine sr_icmp_eq (q := 1309) C 2013 (show decode cL_law 1306 = .ok (.if_icmp .eq 707, 3) from by decide +kernel) (by decide) rfl ?_ ?_
  · exact slL_law_J2013 C HX Hb HbA K18 v1 v2 v3 hv1 hv2
  · refine sr_iconst (v := (0 : Int32)) (q := 1310) C (show decode cL_law 1309 = .ok (.iconst 0, 1) from by decide +kernel) (by decide) rfl ?_
    exact sr_ireturn C false rfl (show decode cL_law 1310 = .ok (.ireturn, 1) from by decide +kernel)
def fnL_law_J1352 (sx : Nat → Int32) (Ln : Nat) (k18 : Nat → Nat → Int32 → sm_M Bool) (v1 : Nat) (v2 : Nat) (v3 : Int32) (s0 : Int32) (s1 : Int32) (s2 : Nat) (s3 : Int32) : sm_M Bool := m_bnd (fnX12_know s2 s1 s0) fun x1352 => m_br (s3 = x1352)
    (fnL_law_J2013 sx Ln k18 v1 v2 v3)
    (m_ret false)
set_option maxHeartbeats 4000000 in
set_option maxRecDepth 100000 in
theorem slL_law_J1352 {κ : sm_X} (C : sm_C κ R_law cL_law 4 16) {sx : Nat → Int32} {Ln b : Nat} (HX : va_X b Ln sx (xs κ) (xs κ).heap) (Hb : b < (xs κ).heap.size) (HbA : ¬ sm_A (xo κ) b) {k18 : Nat → Nat → Int32 → sm_M Bool} (K18 : ∀ (v1 : Nat) (v2 : Nat) (v3 : Int32) (hv1 : kd v1 = 11) (hv2 : kd v2 = 12), sm_S κ (fun r : Bool => .inr (some (.int (bI r)))) (.inl (18, [some (.ref b), some (xad κ v1), some (xad κ v2), some (.int v3)], [])) (k18 v1 v2 v3)) (v1 : Nat) (v2 : Nat) (v3 : Int32) (s0 : Int32) (s1 : Int32) (s2 : Nat) (s3 : Int32) (hv1 : kd v1 = 11) (hv2 : kd v2 = 12) (hs2 : kd s2 = 12) : sm_S κ (fun r : Bool => .inr (some (.int (bI r)))) (.inl (1352, [some (.ref b), some (xad κ v1), some (xad κ v2), some (.int v3)], [.int s0, .int s1, xad κ s2, .int s3])) (fnL_law_J1352 sx Ln k18 v1 v2 v3 s0 s1 s2 s3) := by
  unfold fnL_law_J1352
  refine sr_cVi (As := [.int s1, .int s0]) (st := [.int s3]) (b := s2) (q := 1355) C yvX12_know ml_L_155 (cnX12_know (xo κ) s2 s1 s0 hs2) hs2 (by decide) rfl rfl rfl (by decide) (by decide) (Nat.le_of_ble_eq_true rfl) rfl (show decode cL_law 1352 = .ok (.invokevirtual 155, 3) from by decide +kernel) rfl (fun x1352 => ?_)
  refine sr_icmp_eq (q := 1358) C 2013 (show decode cL_law 1355 = .ok (.if_icmp .eq 658, 3) from by decide +kernel) (by decide) rfl ?_ ?_
  · exact slL_law_J2013 C HX Hb HbA K18 v1 v2 v3 hv1 hv2
  · refine sr_iconst (v := (0 : Int32)) (q := 1359) C (show decode cL_law 1358 = .ok (.iconst 0, 1) from by decide +kernel) (by decide) rfl ?_
    exact sr_ireturn C false rfl (show decode cL_law 1359 = .ok (.ireturn, 1) from by decide +kernel)
def fnL_law_J1330 (sx : Nat → Int32) (Ln : Nat) (k18 : Nat → Nat → Int32 → sm_M Bool) (v1 : Nat) (v2 : Nat) (v3 : Int32) (s0 : Int32) (s1 : Int32) (s2 : Nat) : sm_M Bool := m_bnd (fnX11_know s2 s1 s0) fun x1330 => m_gd (¬ ((v3 + (1 : Int32)) < 0 ∨ Ln ≤ (v3 + (1 : Int32)).toNatClampNeg)) <| m_gd (¬ ((v3 + (2 : Int32)) < 0 ∨ Ln ≤ (v3 + (2 : Int32)).toNatClampNeg)) <| m_br ((sx (v3 + (2 : Int32)).toNatClampNeg) = 0)
    (fnL_law_J1352 sx Ln k18 v1 v2 v3 (0 : Int32) (sx (v3 + (1 : Int32)).toNatClampNeg) v2 x1330)
    (fnL_law_J1352 sx Ln k18 v1 v2 v3 (1 : Int32) (sx (v3 + (1 : Int32)).toNatClampNeg) v2 x1330)
set_option maxHeartbeats 4000000 in
set_option maxRecDepth 100000 in
theorem slL_law_J1330 {κ : sm_X} (C : sm_C κ R_law cL_law 4 16) {sx : Nat → Int32} {Ln b : Nat} (HX : va_X b Ln sx (xs κ) (xs κ).heap) (Hb : b < (xs κ).heap.size) (HbA : ¬ sm_A (xo κ) b) {k18 : Nat → Nat → Int32 → sm_M Bool} (K18 : ∀ (v1 : Nat) (v2 : Nat) (v3 : Int32) (hv1 : kd v1 = 11) (hv2 : kd v2 = 12), sm_S κ (fun r : Bool => .inr (some (.int (bI r)))) (.inl (18, [some (.ref b), some (xad κ v1), some (xad κ v2), some (.int v3)], [])) (k18 v1 v2 v3)) (v1 : Nat) (v2 : Nat) (v3 : Int32) (s0 : Int32) (s1 : Int32) (s2 : Nat) (hv1 : kd v1 = 11) (hv2 : kd v2 = 12) (hs2 : kd s2 = 11) : sm_S κ (fun r : Bool => .inr (some (.int (bI r)))) (.inl (1330, [some (.ref b), some (xad κ v1), some (xad κ v2), some (.int v3)], [.int s0, .int s1, xad κ s2])) (fnL_law_J1330 sx Ln k18 v1 v2 v3 s0 s1 s2) := by
  unfold fnL_law_J1330
  refine sr_cVi (As := [.int s1, .int s0]) (st := []) (b := s2) (q := 1333) C yvX11_know ml_L_151 (cnX11_know (xo κ) s2 s1 s0 hs2) hs2 (by decide) rfl rfl rfl (by decide) (by decide) (Nat.le_of_ble_eq_true rfl) rfl (show decode cL_law 1330 = .ok (.invokevirtual 151, 3) from by decide +kernel) rfl (fun x1330 => ?_)
  refine sr_aload_n (i := 2) (q := 1334) C (show decode cL_law 1333 = .ok (.aload_n 2, 1) from by decide +kernel) rfl rfl rfl ?_
  refine sr_aload_n (i := 0) (q := 1335) C (show decode cL_law 1334 = .ok (.aload_n 0, 1) from by decide +kernel) rfl rfl rfl ?_
  refine sr_iload_n (i := 3) (q := 1336) C (show decode cL_law 1335 = .ok (.iload_n 3, 1) from by decide +kernel) rfl rfl rfl ?_
  refine sr_iconst (v := (1 : Int32)) (q := 1337) C (show decode cL_law 1336 = .ok (.iconst 1, 1) from by decide +kernel) (by decide) rfl ?_
  refine sr_iadd (q := 1338) C (show decode cL_law 1337 = .ok (.iadd, 1) from by decide +kernel) rfl ?_
  refine sr_sld (q := 1339) C HX Hb HbA (show decode cL_law 1338 = .ok (.iaload, 1) from by decide +kernel) rfl ?_
  refine sr_aload_n (i := 0) (q := 1340) C (show decode cL_law 1339 = .ok (.aload_n 0, 1) from by decide +kernel) rfl rfl rfl ?_
  refine sr_iload_n (i := 3) (q := 1341) C (show decode cL_law 1340 = .ok (.iload_n 3, 1) from by decide +kernel) rfl rfl rfl ?_
  refine sr_iconst (v := (2 : Int32)) (q := 1342) C (show decode cL_law 1341 = .ok (.iconst 2, 1) from by decide +kernel) (by decide) rfl ?_
  refine sr_iadd (q := 1343) C (show decode cL_law 1342 = .ok (.iadd, 1) from by decide +kernel) rfl ?_
  refine sr_sld (q := 1344) C HX Hb HbA (show decode cL_law 1343 = .ok (.iaload, 1) from by decide +kernel) rfl ?_
  refine sr_if_eq (q := 1347) C 1351 (show decode cL_law 1344 = .ok (.ifCond .eq 7, 3) from by decide +kernel) (by decide) rfl ?_ ?_
  · refine sr_iconst (v := (0 : Int32)) (q := 1352) C (show decode cL_law 1351 = .ok (.iconst 0, 1) from by decide +kernel) (by decide) rfl ?_
    exact slL_law_J1352 C HX Hb HbA K18 v1 v2 v3 (0 : Int32) (sx (v3 + (1 : Int32)).toNatClampNeg) v2 x1330 hv1 hv2 hv2
  · refine sr_iconst (v := (1 : Int32)) (q := 1348) C (show decode cL_law 1347 = .ok (.iconst 1, 1) from by decide +kernel) (by decide) rfl ?_
    refine sr_goto (q := 1352) C (show decode cL_law 1348 = .ok (.goto 4, 3) from by decide +kernel) (by decide) ?_
    exact slL_law_J1352 C HX Hb HbA K18 v1 v2 v3 (1 : Int32) (sx (v3 + (1 : Int32)).toNatClampNeg) v2 x1330 hv1 hv2 hv2
def fnL_law_J1311 (sx : Nat → Int32) (Ln : Nat) (k18 : Nat → Nat → Int32 → sm_M Bool) (v1 : Nat) (v2 : Nat) (v3 : Int32) : sm_M Bool := m_gd (¬ ((v3 + (1 : Int32)) < 0 ∨ Ln ≤ (v3 + (1 : Int32)).toNatClampNeg)) <| m_gd (¬ ((v3 + (2 : Int32)) < 0 ∨ Ln ≤ (v3 + (2 : Int32)).toNatClampNeg)) <| m_br ((sx (v3 + (2 : Int32)).toNatClampNeg) = 0)
    (fnL_law_J1330 sx Ln k18 v1 v2 v3 (0 : Int32) (sx (v3 + (1 : Int32)).toNatClampNeg) v1)
    (fnL_law_J1330 sx Ln k18 v1 v2 v3 (1 : Int32) (sx (v3 + (1 : Int32)).toNatClampNeg) v1)
set_option maxHeartbeats 4000000 in
set_option maxRecDepth 100000 in
theorem slL_law_J1311 {κ : sm_X} (C : sm_C κ R_law cL_law 4 16) {sx : Nat → Int32} {Ln b : Nat} (HX : va_X b Ln sx (xs κ) (xs κ).heap) (Hb : b < (xs κ).heap.size) (HbA : ¬ sm_A (xo κ) b) {k18 : Nat → Nat → Int32 → sm_M Bool} (K18 : ∀ (v1 : Nat) (v2 : Nat) (v3 : Int32) (hv1 : kd v1 = 11) (hv2 : kd v2 = 12), sm_S κ (fun r : Bool => .inr (some (.int (bI r)))) (.inl (18, [some (.ref b), some (xad κ v1), some (xad κ v2), some (.int v3)], [])) (k18 v1 v2 v3)) (v1 : Nat) (v2 : Nat) (v3 : Int32) (hv1 : kd v1 = 11) (hv2 : kd v2 = 12) : sm_S κ (fun r : Bool => .inr (some (.int (bI r)))) (.inl (1311, [some (.ref b), some (xad κ v1), some (xad κ v2), some (.int v3)], [])) (fnL_law_J1311 sx Ln k18 v1 v2 v3) := by
  unfold fnL_law_J1311
  refine sr_aload_n (i := 1) (q := 1312) C (show decode cL_law 1311 = .ok (.aload_n 1, 1) from by decide +kernel) rfl rfl rfl ?_
  refine sr_aload_n (i := 0) (q := 1313) C (show decode cL_law 1312 = .ok (.aload_n 0, 1) from by decide +kernel) rfl rfl rfl ?_
  refine sr_iload_n (i := 3) (q := 1314) C (show decode cL_law 1313 = .ok (.iload_n 3, 1) from by decide +kernel) rfl rfl rfl ?_
  refine sr_iconst (v := (1 : Int32)) (q := 1315) C (show decode cL_law 1314 = .ok (.iconst 1, 1) from by decide +kernel) (by decide) rfl ?_
  refine sr_iadd (q := 1316) C (show decode cL_law 1315 = .ok (.iadd, 1) from by decide +kernel) rfl ?_
  refine sr_sld (q := 1317) C HX Hb HbA (show decode cL_law 1316 = .ok (.iaload, 1) from by decide +kernel) rfl ?_
  refine sr_aload_n (i := 0) (q := 1318) C (show decode cL_law 1317 = .ok (.aload_n 0, 1) from by decide +kernel) rfl rfl rfl ?_
  refine sr_iload_n (i := 3) (q := 1319) C (show decode cL_law 1318 = .ok (.iload_n 3, 1) from by decide +kernel) rfl rfl rfl ?_
  refine sr_iconst (v := (2 : Int32)) (q := 1320) C (show decode cL_law 1319 = .ok (.iconst 2, 1) from by decide +kernel) (by decide) rfl ?_
  refine sr_iadd (q := 1321) C (show decode cL_law 1320 = .ok (.iadd, 1) from by decide +kernel) rfl ?_
  refine sr_sld (q := 1322) C HX Hb HbA (show decode cL_law 1321 = .ok (.iaload, 1) from by decide +kernel) rfl ?_
  refine sr_if_eq (q := 1325) C 1329 (show decode cL_law 1322 = .ok (.ifCond .eq 7, 3) from by decide +kernel) (by decide) rfl ?_ ?_
  · refine sr_iconst (v := (0 : Int32)) (q := 1330) C (show decode cL_law 1329 = .ok (.iconst 0, 1) from by decide +kernel) (by decide) rfl ?_
    exact slL_law_J1330 C HX Hb HbA K18 v1 v2 v3 (0 : Int32) (sx (v3 + (1 : Int32)).toNatClampNeg) v1 hv1 hv2 hv1
  · refine sr_iconst (v := (1 : Int32)) (q := 1326) C (show decode cL_law 1325 = .ok (.iconst 1, 1) from by decide +kernel) (by decide) rfl ?_
    refine sr_goto (q := 1330) C (show decode cL_law 1326 = .ok (.goto 4, 3) from by decide +kernel) (by decide) ?_
    exact slL_law_J1330 C HX Hb HbA K18 v1 v2 v3 (1 : Int32) (sx (v3 + (1 : Int32)).toNatClampNeg) v1 hv1 hv2 hv1
def fnL_law_J1360 (sx : Nat → Int32) (Ln : Nat) (k18 : Nat → Nat → Int32 → sm_M Bool) (v1 : Nat) (v2 : Nat) (v3 : Int32) : sm_M Bool := m_gd (¬ ((v3 + (1 : Int32)) < 0 ∨ Ln ≤ (v3 + (1 : Int32)).toNatClampNeg)) <| m_gd (¬ ((v3 + (2 : Int32)) < 0 ∨ Ln ≤ (v3 + (2 : Int32)).toNatClampNeg)) <| m_bnd (fnX11_sure v1 (sx (v3 + (1 : Int32)).toNatClampNeg) (sx (v3 + (2 : Int32)).toNatClampNeg)) fun x1371 => m_gd (¬ ((v3 + (1 : Int32)) < 0 ∨ Ln ≤ (v3 + (1 : Int32)).toNatClampNeg)) <| m_gd (¬ ((v3 + (2 : Int32)) < 0 ∨ Ln ≤ (v3 + (2 : Int32)).toNatClampNeg)) <| m_bnd (fnX12_sure v2 (sx (v3 + (1 : Int32)).toNatClampNeg) (sx (v3 + (2 : Int32)).toNatClampNeg)) fun x1385 => m_br ((lg_cmp x1371 x1385) = 0)
    (fnL_law_J2013 sx Ln k18 v1 v2 v3)
    (m_ret false)
set_option maxHeartbeats 4000000 in
set_option maxRecDepth 100000 in
theorem slL_law_J1360 {κ : sm_X} (C : sm_C κ R_law cL_law 4 16) {sx : Nat → Int32} {Ln b : Nat} (HX : va_X b Ln sx (xs κ) (xs κ).heap) (Hb : b < (xs κ).heap.size) (HbA : ¬ sm_A (xo κ) b) {k18 : Nat → Nat → Int32 → sm_M Bool} (K18 : ∀ (v1 : Nat) (v2 : Nat) (v3 : Int32) (hv1 : kd v1 = 11) (hv2 : kd v2 = 12), sm_S κ (fun r : Bool => .inr (some (.int (bI r)))) (.inl (18, [some (.ref b), some (xad κ v1), some (xad κ v2), some (.int v3)], [])) (k18 v1 v2 v3)) (v1 : Nat) (v2 : Nat) (v3 : Int32) (hv1 : kd v1 = 11) (hv2 : kd v2 = 12) : sm_S κ (fun r : Bool => .inr (some (.int (bI r)))) (.inl (1360, [some (.ref b), some (xad κ v1), some (xad κ v2), some (.int v3)], [])) (fnL_law_J1360 sx Ln k18 v1 v2 v3) := by
  unfold fnL_law_J1360
  refine sr_aload_n (i := 1) (q := 1361) C (show decode cL_law 1360 = .ok (.aload_n 1, 1) from by decide +kernel) rfl rfl rfl ?_
  refine sr_aload_n (i := 0) (q := 1362) C (show decode cL_law 1361 = .ok (.aload_n 0, 1) from by decide +kernel) rfl rfl rfl ?_
  refine sr_iload_n (i := 3) (q := 1363) C (show decode cL_law 1362 = .ok (.iload_n 3, 1) from by decide +kernel) rfl rfl rfl ?_
  refine sr_iconst (v := (1 : Int32)) (q := 1364) C (show decode cL_law 1363 = .ok (.iconst 1, 1) from by decide +kernel) (by decide) rfl ?_
  refine sr_iadd (q := 1365) C (show decode cL_law 1364 = .ok (.iadd, 1) from by decide +kernel) rfl ?_
  refine sr_sld (q := 1366) C HX Hb HbA (show decode cL_law 1365 = .ok (.iaload, 1) from by decide +kernel) rfl ?_
  refine sr_aload_n (i := 0) (q := 1367) C (show decode cL_law 1366 = .ok (.aload_n 0, 1) from by decide +kernel) rfl rfl rfl ?_
  refine sr_iload_n (i := 3) (q := 1368) C (show decode cL_law 1367 = .ok (.iload_n 3, 1) from by decide +kernel) rfl rfl rfl ?_
  refine sr_iconst (v := (2 : Int32)) (q := 1369) C (show decode cL_law 1368 = .ok (.iconst 2, 1) from by decide +kernel) (by decide) rfl ?_
  refine sr_iadd (q := 1370) C (show decode cL_law 1369 = .ok (.iadd, 1) from by decide +kernel) rfl ?_
  refine sr_sld (q := 1371) C HX Hb HbA (show decode cL_law 1370 = .ok (.iaload, 1) from by decide +kernel) rfl ?_
  refine sr_cVl (As := [.int (sx (v3 + (1 : Int32)).toNatClampNeg), .int (sx (v3 + (2 : Int32)).toNatClampNeg)]) (st := []) (b := v1) (q := 1374) C yvX11_sure ml_L_156 (cnX11_sure (xo κ) v1 (sx (v3 + (1 : Int32)).toNatClampNeg) (sx (v3 + (2 : Int32)).toNatClampNeg) hv1) hv1 (by decide) rfl rfl rfl (by decide) (by decide) (Nat.le_of_ble_eq_true rfl) rfl (show decode cL_law 1371 = .ok (.invokevirtual 156, 3) from by decide +kernel) rfl (fun x1371 => ?_)
  refine sr_aload_n (i := 2) (q := 1375) C (show decode cL_law 1374 = .ok (.aload_n 2, 1) from by decide +kernel) rfl rfl rfl ?_
  refine sr_aload_n (i := 0) (q := 1376) C (show decode cL_law 1375 = .ok (.aload_n 0, 1) from by decide +kernel) rfl rfl rfl ?_
  refine sr_iload_n (i := 3) (q := 1377) C (show decode cL_law 1376 = .ok (.iload_n 3, 1) from by decide +kernel) rfl rfl rfl ?_
  refine sr_iconst (v := (1 : Int32)) (q := 1378) C (show decode cL_law 1377 = .ok (.iconst 1, 1) from by decide +kernel) (by decide) rfl ?_
  refine sr_iadd (q := 1379) C (show decode cL_law 1378 = .ok (.iadd, 1) from by decide +kernel) rfl ?_
  refine sr_sld (q := 1380) C HX Hb HbA (show decode cL_law 1379 = .ok (.iaload, 1) from by decide +kernel) rfl ?_
  refine sr_aload_n (i := 0) (q := 1381) C (show decode cL_law 1380 = .ok (.aload_n 0, 1) from by decide +kernel) rfl rfl rfl ?_
  refine sr_iload_n (i := 3) (q := 1382) C (show decode cL_law 1381 = .ok (.iload_n 3, 1) from by decide +kernel) rfl rfl rfl ?_
  refine sr_iconst (v := (2 : Int32)) (q := 1383) C (show decode cL_law 1382 = .ok (.iconst 2, 1) from by decide +kernel) (by decide) rfl ?_
  refine sr_iadd (q := 1384) C (show decode cL_law 1383 = .ok (.iadd, 1) from by decide +kernel) rfl ?_
  refine sr_sld (q := 1385) C HX Hb HbA (show decode cL_law 1384 = .ok (.iaload, 1) from by decide +kernel) rfl ?_
  refine sr_cVl (As := [.int (sx (v3 + (1 : Int32)).toNatClampNeg), .int (sx (v3 + (2 : Int32)).toNatClampNeg)]) (st := [.long x1371]) (b := v2) (q := 1388) C yvX12_sure ml_L_160 (cnX12_sure (xo κ) v2 (sx (v3 + (1 : Int32)).toNatClampNeg) (sx (v3 + (2 : Int32)).toNatClampNeg) hv2) hv2 (by decide) rfl rfl rfl (by decide) (by decide) (Nat.le_of_ble_eq_true rfl) rfl (show decode cL_law 1385 = .ok (.invokevirtual 160, 3) from by decide +kernel) rfl (fun x1385 => ?_)
  refine sr_lcmp (q := 1389) C (show decode cL_law 1388 = .ok (.lcmp, 1) from by decide +kernel) rfl ?_
  refine sr_if_eq (q := 1392) C 2013 (show decode cL_law 1389 = .ok (.ifCond .eq 624, 3) from by decide +kernel) (by decide) rfl ?_ ?_
  · exact slL_law_J2013 C HX Hb HbA K18 v1 v2 v3 hv1 hv2
  · refine sr_iconst (v := (0 : Int32)) (q := 1393) C (show decode cL_law 1392 = .ok (.iconst 0, 1) from by decide +kernel) (by decide) rfl ?_
    exact sr_ireturn C false rfl (show decode cL_law 1393 = .ok (.ireturn, 1) from by decide +kernel)
def fnL_law_J1394 (sx : Nat → Int32) (Ln : Nat) (k18 : Nat → Nat → Int32 → sm_M Bool) (v1 : Nat) (v2 : Nat) (v3 : Int32) : sm_M Bool := m_gd (¬ ((v3 + (1 : Int32)) < 0 ∨ Ln ≤ (v3 + (1 : Int32)).toNatClampNeg)) <| m_gd (¬ ((v3 + (2 : Int32)) < 0 ∨ Ln ≤ (v3 + (2 : Int32)).toNatClampNeg)) <| m_gd (¬ ((v3 + (3 : Int32)) < 0 ∨ Ln ≤ (v3 + (3 : Int32)).toNatClampNeg)) <| m_bnd (fnX11_tread v1 (sx (v3 + (1 : Int32)).toNatClampNeg) (sx (v3 + (2 : Int32)).toNatClampNeg) (sx (v3 + (3 : Int32)).toNatClampNeg)) fun x1410 => m_gd (¬ ((v3 + (1 : Int32)) < 0 ∨ Ln ≤ (v3 + (1 : Int32)).toNatClampNeg)) <| m_gd (¬ ((v3 + (2 : Int32)) < 0 ∨ Ln ≤ (v3 + (2 : Int32)).toNatClampNeg)) <| m_gd (¬ ((v3 + (3 : Int32)) < 0 ∨ Ln ≤ (v3 + (3 : Int32)).toNatClampNeg)) <| m_bnd (fnX12_tread v2 (sx (v3 + (1 : Int32)).toNatClampNeg) (sx (v3 + (2 : Int32)).toNatClampNeg) (sx (v3 + (3 : Int32)).toNatClampNeg)) fun x1429 => m_br ((lg_cmp x1410 x1429) = 0)
    (fnL_law_J2013 sx Ln k18 v1 v2 v3)
    (m_ret false)
set_option maxHeartbeats 4000000 in
set_option maxRecDepth 100000 in
theorem slL_law_J1394 {κ : sm_X} (C : sm_C κ R_law cL_law 4 16) {sx : Nat → Int32} {Ln b : Nat} (HX : va_X b Ln sx (xs κ) (xs κ).heap) (Hb : b < (xs κ).heap.size) (HbA : ¬ sm_A (xo κ) b) {k18 : Nat → Nat → Int32 → sm_M Bool} (K18 : ∀ (v1 : Nat) (v2 : Nat) (v3 : Int32) (hv1 : kd v1 = 11) (hv2 : kd v2 = 12), sm_S κ (fun r : Bool => .inr (some (.int (bI r)))) (.inl (18, [some (.ref b), some (xad κ v1), some (xad κ v2), some (.int v3)], [])) (k18 v1 v2 v3)) (v1 : Nat) (v2 : Nat) (v3 : Int32) (hv1 : kd v1 = 11) (hv2 : kd v2 = 12) : sm_S κ (fun r : Bool => .inr (some (.int (bI r)))) (.inl (1394, [some (.ref b), some (xad κ v1), some (xad κ v2), some (.int v3)], [])) (fnL_law_J1394 sx Ln k18 v1 v2 v3) := by
  unfold fnL_law_J1394
  refine sr_aload_n (i := 1) (q := 1395) C (show decode cL_law 1394 = .ok (.aload_n 1, 1) from by decide +kernel) rfl rfl rfl ?_
  refine sr_aload_n (i := 0) (q := 1396) C (show decode cL_law 1395 = .ok (.aload_n 0, 1) from by decide +kernel) rfl rfl rfl ?_
  refine sr_iload_n (i := 3) (q := 1397) C (show decode cL_law 1396 = .ok (.iload_n 3, 1) from by decide +kernel) rfl rfl rfl ?_
  refine sr_iconst (v := (1 : Int32)) (q := 1398) C (show decode cL_law 1397 = .ok (.iconst 1, 1) from by decide +kernel) (by decide) rfl ?_
  refine sr_iadd (q := 1399) C (show decode cL_law 1398 = .ok (.iadd, 1) from by decide +kernel) rfl ?_
  refine sr_sld (q := 1400) C HX Hb HbA (show decode cL_law 1399 = .ok (.iaload, 1) from by decide +kernel) rfl ?_
  refine sr_aload_n (i := 0) (q := 1401) C (show decode cL_law 1400 = .ok (.aload_n 0, 1) from by decide +kernel) rfl rfl rfl ?_
  refine sr_iload_n (i := 3) (q := 1402) C (show decode cL_law 1401 = .ok (.iload_n 3, 1) from by decide +kernel) rfl rfl rfl ?_
  refine sr_iconst (v := (2 : Int32)) (q := 1403) C (show decode cL_law 1402 = .ok (.iconst 2, 1) from by decide +kernel) (by decide) rfl ?_
  refine sr_iadd (q := 1404) C (show decode cL_law 1403 = .ok (.iadd, 1) from by decide +kernel) rfl ?_
  refine sr_sld (q := 1405) C HX Hb HbA (show decode cL_law 1404 = .ok (.iaload, 1) from by decide +kernel) rfl ?_
  refine sr_aload_n (i := 0) (q := 1406) C (show decode cL_law 1405 = .ok (.aload_n 0, 1) from by decide +kernel) rfl rfl rfl ?_
  refine sr_iload_n (i := 3) (q := 1407) C (show decode cL_law 1406 = .ok (.iload_n 3, 1) from by decide +kernel) rfl rfl rfl ?_
  refine sr_iconst (v := (3 : Int32)) (q := 1408) C (show decode cL_law 1407 = .ok (.iconst 3, 1) from by decide +kernel) (by decide) rfl ?_
  refine sr_iadd (q := 1409) C (show decode cL_law 1408 = .ok (.iadd, 1) from by decide +kernel) rfl ?_
  refine sr_sld (q := 1410) C HX Hb HbA (show decode cL_law 1409 = .ok (.iaload, 1) from by decide +kernel) rfl ?_
  refine sr_cVl (As := [.int (sx (v3 + (1 : Int32)).toNatClampNeg), .int (sx (v3 + (2 : Int32)).toNatClampNeg), .int (sx (v3 + (3 : Int32)).toNatClampNeg)]) (st := []) (b := v1) (q := 1413) C yvX11_tread ml_L_161 (cnX11_tread (xo κ) v1 (sx (v3 + (1 : Int32)).toNatClampNeg) (sx (v3 + (2 : Int32)).toNatClampNeg) (sx (v3 + (3 : Int32)).toNatClampNeg) hv1) hv1 (by decide) rfl rfl rfl (by decide) (by decide) (Nat.le_of_ble_eq_true rfl) rfl (show decode cL_law 1410 = .ok (.invokevirtual 161, 3) from by decide +kernel) rfl (fun x1410 => ?_)
  refine sr_aload_n (i := 2) (q := 1414) C (show decode cL_law 1413 = .ok (.aload_n 2, 1) from by decide +kernel) rfl rfl rfl ?_
  refine sr_aload_n (i := 0) (q := 1415) C (show decode cL_law 1414 = .ok (.aload_n 0, 1) from by decide +kernel) rfl rfl rfl ?_
  refine sr_iload_n (i := 3) (q := 1416) C (show decode cL_law 1415 = .ok (.iload_n 3, 1) from by decide +kernel) rfl rfl rfl ?_
  refine sr_iconst (v := (1 : Int32)) (q := 1417) C (show decode cL_law 1416 = .ok (.iconst 1, 1) from by decide +kernel) (by decide) rfl ?_
  refine sr_iadd (q := 1418) C (show decode cL_law 1417 = .ok (.iadd, 1) from by decide +kernel) rfl ?_
  refine sr_sld (q := 1419) C HX Hb HbA (show decode cL_law 1418 = .ok (.iaload, 1) from by decide +kernel) rfl ?_
  refine sr_aload_n (i := 0) (q := 1420) C (show decode cL_law 1419 = .ok (.aload_n 0, 1) from by decide +kernel) rfl rfl rfl ?_
  refine sr_iload_n (i := 3) (q := 1421) C (show decode cL_law 1420 = .ok (.iload_n 3, 1) from by decide +kernel) rfl rfl rfl ?_
  refine sr_iconst (v := (2 : Int32)) (q := 1422) C (show decode cL_law 1421 = .ok (.iconst 2, 1) from by decide +kernel) (by decide) rfl ?_
  refine sr_iadd (q := 1423) C (show decode cL_law 1422 = .ok (.iadd, 1) from by decide +kernel) rfl ?_
  refine sr_sld (q := 1424) C HX Hb HbA (show decode cL_law 1423 = .ok (.iaload, 1) from by decide +kernel) rfl ?_
  refine sr_aload_n (i := 0) (q := 1425) C (show decode cL_law 1424 = .ok (.aload_n 0, 1) from by decide +kernel) rfl rfl rfl ?_
  refine sr_iload_n (i := 3) (q := 1426) C (show decode cL_law 1425 = .ok (.iload_n 3, 1) from by decide +kernel) rfl rfl rfl ?_
  refine sr_iconst (v := (3 : Int32)) (q := 1427) C (show decode cL_law 1426 = .ok (.iconst 3, 1) from by decide +kernel) (by decide) rfl ?_
  refine sr_iadd (q := 1428) C (show decode cL_law 1427 = .ok (.iadd, 1) from by decide +kernel) rfl ?_
  refine sr_sld (q := 1429) C HX Hb HbA (show decode cL_law 1428 = .ok (.iaload, 1) from by decide +kernel) rfl ?_
  refine sr_cVl (As := [.int (sx (v3 + (1 : Int32)).toNatClampNeg), .int (sx (v3 + (2 : Int32)).toNatClampNeg), .int (sx (v3 + (3 : Int32)).toNatClampNeg)]) (st := [.long x1410]) (b := v2) (q := 1432) C yvX12_tread ml_L_165 (cnX12_tread (xo κ) v2 (sx (v3 + (1 : Int32)).toNatClampNeg) (sx (v3 + (2 : Int32)).toNatClampNeg) (sx (v3 + (3 : Int32)).toNatClampNeg) hv2) hv2 (by decide) rfl rfl rfl (by decide) (by decide) (Nat.le_of_ble_eq_true rfl) rfl (show decode cL_law 1429 = .ok (.invokevirtual 165, 3) from by decide +kernel) rfl (fun x1429 => ?_)
  refine sr_lcmp (q := 1433) C (show decode cL_law 1432 = .ok (.lcmp, 1) from by decide +kernel) rfl ?_
  refine sr_if_eq (q := 1436) C 2013 (show decode cL_law 1433 = .ok (.ifCond .eq 580, 3) from by decide +kernel) (by decide) rfl ?_ ?_
  · exact slL_law_J2013 C HX Hb HbA K18 v1 v2 v3 hv1 hv2
  · refine sr_iconst (v := (0 : Int32)) (q := 1437) C (show decode cL_law 1436 = .ok (.iconst 0, 1) from by decide +kernel) (by decide) rfl ?_
    exact sr_ireturn C false rfl (show decode cL_law 1437 = .ok (.ireturn, 1) from by decide +kernel)
def fnL_law_J1438 (sx : Nat → Int32) (Ln : Nat) (k18 : Nat → Nat → Int32 → sm_M Bool) (v1 : Nat) (v2 : Nat) (v3 : Int32) : sm_M Bool := m_gd (¬ ((v3 + (1 : Int32)) < 0 ∨ Ln ≤ (v3 + (1 : Int32)).toNatClampNeg)) <| m_gd (¬ ((v3 + (2 : Int32)) < 0 ∨ Ln ≤ (v3 + (2 : Int32)).toNatClampNeg)) <| m_bnd (fnX11_first v1 (sx (v3 + (1 : Int32)).toNatClampNeg) (sx (v3 + (2 : Int32)).toNatClampNeg)) fun x1449 => m_gd (¬ ((v3 + (1 : Int32)) < 0 ∨ Ln ≤ (v3 + (1 : Int32)).toNatClampNeg)) <| m_gd (¬ ((v3 + (2 : Int32)) < 0 ∨ Ln ≤ (v3 + (2 : Int32)).toNatClampNeg)) <| m_bnd (fnX12_first v2 (sx (v3 + (1 : Int32)).toNatClampNeg) (sx (v3 + (2 : Int32)).toNatClampNeg)) fun x1463 => m_br (x1449 = x1463)
    (fnL_law_J2013 sx Ln k18 v1 v2 v3)
    (m_ret false)
set_option maxHeartbeats 4000000 in
set_option maxRecDepth 100000 in
theorem slL_law_J1438 {κ : sm_X} (C : sm_C κ R_law cL_law 4 16) {sx : Nat → Int32} {Ln b : Nat} (HX : va_X b Ln sx (xs κ) (xs κ).heap) (Hb : b < (xs κ).heap.size) (HbA : ¬ sm_A (xo κ) b) {k18 : Nat → Nat → Int32 → sm_M Bool} (K18 : ∀ (v1 : Nat) (v2 : Nat) (v3 : Int32) (hv1 : kd v1 = 11) (hv2 : kd v2 = 12), sm_S κ (fun r : Bool => .inr (some (.int (bI r)))) (.inl (18, [some (.ref b), some (xad κ v1), some (xad κ v2), some (.int v3)], [])) (k18 v1 v2 v3)) (v1 : Nat) (v2 : Nat) (v3 : Int32) (hv1 : kd v1 = 11) (hv2 : kd v2 = 12) : sm_S κ (fun r : Bool => .inr (some (.int (bI r)))) (.inl (1438, [some (.ref b), some (xad κ v1), some (xad κ v2), some (.int v3)], [])) (fnL_law_J1438 sx Ln k18 v1 v2 v3) := by
  unfold fnL_law_J1438
  refine sr_aload_n (i := 1) (q := 1439) C (show decode cL_law 1438 = .ok (.aload_n 1, 1) from by decide +kernel) rfl rfl rfl ?_
  refine sr_aload_n (i := 0) (q := 1440) C (show decode cL_law 1439 = .ok (.aload_n 0, 1) from by decide +kernel) rfl rfl rfl ?_
  refine sr_iload_n (i := 3) (q := 1441) C (show decode cL_law 1440 = .ok (.iload_n 3, 1) from by decide +kernel) rfl rfl rfl ?_
  refine sr_iconst (v := (1 : Int32)) (q := 1442) C (show decode cL_law 1441 = .ok (.iconst 1, 1) from by decide +kernel) (by decide) rfl ?_
  refine sr_iadd (q := 1443) C (show decode cL_law 1442 = .ok (.iadd, 1) from by decide +kernel) rfl ?_
  refine sr_sld (q := 1444) C HX Hb HbA (show decode cL_law 1443 = .ok (.iaload, 1) from by decide +kernel) rfl ?_
  refine sr_aload_n (i := 0) (q := 1445) C (show decode cL_law 1444 = .ok (.aload_n 0, 1) from by decide +kernel) rfl rfl rfl ?_
  refine sr_iload_n (i := 3) (q := 1446) C (show decode cL_law 1445 = .ok (.iload_n 3, 1) from by decide +kernel) rfl rfl rfl ?_
  refine sr_iconst (v := (2 : Int32)) (q := 1447) C (show decode cL_law 1446 = .ok (.iconst 2, 1) from by decide +kernel) (by decide) rfl ?_
  refine sr_iadd (q := 1448) C (show decode cL_law 1447 = .ok (.iadd, 1) from by decide +kernel) rfl ?_
  refine sr_sld (q := 1449) C HX Hb HbA (show decode cL_law 1448 = .ok (.iaload, 1) from by decide +kernel) rfl ?_
  refine sr_cVi (As := [.int (sx (v3 + (1 : Int32)).toNatClampNeg), .int (sx (v3 + (2 : Int32)).toNatClampNeg)]) (st := []) (b := v1) (q := 1452) C yvX11_first ml_L_166 (cnX11_first (xo κ) v1 (sx (v3 + (1 : Int32)).toNatClampNeg) (sx (v3 + (2 : Int32)).toNatClampNeg) hv1) hv1 (by decide) rfl rfl rfl (by decide) (by decide) (Nat.le_of_ble_eq_true rfl) rfl (show decode cL_law 1449 = .ok (.invokevirtual 166, 3) from by decide +kernel) rfl (fun x1449 => ?_)
  refine sr_aload_n (i := 2) (q := 1453) C (show decode cL_law 1452 = .ok (.aload_n 2, 1) from by decide +kernel) rfl rfl rfl ?_
  refine sr_aload_n (i := 0) (q := 1454) C (show decode cL_law 1453 = .ok (.aload_n 0, 1) from by decide +kernel) rfl rfl rfl ?_
  refine sr_iload_n (i := 3) (q := 1455) C (show decode cL_law 1454 = .ok (.iload_n 3, 1) from by decide +kernel) rfl rfl rfl ?_
  refine sr_iconst (v := (1 : Int32)) (q := 1456) C (show decode cL_law 1455 = .ok (.iconst 1, 1) from by decide +kernel) (by decide) rfl ?_
  refine sr_iadd (q := 1457) C (show decode cL_law 1456 = .ok (.iadd, 1) from by decide +kernel) rfl ?_
  refine sr_sld (q := 1458) C HX Hb HbA (show decode cL_law 1457 = .ok (.iaload, 1) from by decide +kernel) rfl ?_
  refine sr_aload_n (i := 0) (q := 1459) C (show decode cL_law 1458 = .ok (.aload_n 0, 1) from by decide +kernel) rfl rfl rfl ?_
  refine sr_iload_n (i := 3) (q := 1460) C (show decode cL_law 1459 = .ok (.iload_n 3, 1) from by decide +kernel) rfl rfl rfl ?_
  refine sr_iconst (v := (2 : Int32)) (q := 1461) C (show decode cL_law 1460 = .ok (.iconst 2, 1) from by decide +kernel) (by decide) rfl ?_
  refine sr_iadd (q := 1462) C (show decode cL_law 1461 = .ok (.iadd, 1) from by decide +kernel) rfl ?_
  refine sr_sld (q := 1463) C HX Hb HbA (show decode cL_law 1462 = .ok (.iaload, 1) from by decide +kernel) rfl ?_
  refine sr_cVi (As := [.int (sx (v3 + (1 : Int32)).toNatClampNeg), .int (sx (v3 + (2 : Int32)).toNatClampNeg)]) (st := [.int x1449]) (b := v2) (q := 1466) C yvX12_first ml_L_169 (cnX12_first (xo κ) v2 (sx (v3 + (1 : Int32)).toNatClampNeg) (sx (v3 + (2 : Int32)).toNatClampNeg) hv2) hv2 (by decide) rfl rfl rfl (by decide) (by decide) (Nat.le_of_ble_eq_true rfl) rfl (show decode cL_law 1463 = .ok (.invokevirtual 169, 3) from by decide +kernel) rfl (fun x1463 => ?_)
  refine sr_icmp_eq (q := 1469) C 2013 (show decode cL_law 1466 = .ok (.if_icmp .eq 547, 3) from by decide +kernel) (by decide) rfl ?_ ?_
  · exact slL_law_J2013 C HX Hb HbA K18 v1 v2 v3 hv1 hv2
  · refine sr_iconst (v := (0 : Int32)) (q := 1470) C (show decode cL_law 1469 = .ok (.iconst 0, 1) from by decide +kernel) (by decide) rfl ?_
    exact sr_ireturn C false rfl (show decode cL_law 1470 = .ok (.ireturn, 1) from by decide +kernel)
def fnL_law_J1471 (sx : Nat → Int32) (Ln : Nat) (k18 : Nat → Nat → Int32 → sm_M Bool) (v1 : Nat) (v2 : Nat) (v3 : Int32) : sm_M Bool := m_gd (¬ ((v3 + (1 : Int32)) < 0 ∨ Ln ≤ (v3 + (1 : Int32)).toNatClampNeg)) <| m_gd (¬ ((v3 + (2 : Int32)) < 0 ∨ Ln ≤ (v3 + (2 : Int32)).toNatClampNeg)) <| m_gd (¬ ((v3 + (3 : Int32)) < 0 ∨ Ln ≤ (v3 + (3 : Int32)).toNatClampNeg)) <| m_bnd (fnX11_price v1 (sx (v3 + (1 : Int32)).toNatClampNeg) (sx (v3 + (2 : Int32)).toNatClampNeg) (sx (v3 + (3 : Int32)).toNatClampNeg)) fun x1487 => m_gd (¬ ((v3 + (1 : Int32)) < 0 ∨ Ln ≤ (v3 + (1 : Int32)).toNatClampNeg)) <| m_gd (¬ ((v3 + (2 : Int32)) < 0 ∨ Ln ≤ (v3 + (2 : Int32)).toNatClampNeg)) <| m_gd (¬ ((v3 + (3 : Int32)) < 0 ∨ Ln ≤ (v3 + (3 : Int32)).toNatClampNeg)) <| m_bnd (fnX12_price v2 (sx (v3 + (1 : Int32)).toNatClampNeg) (sx (v3 + (2 : Int32)).toNatClampNeg) (sx (v3 + (3 : Int32)).toNatClampNeg)) fun x1506 => m_br (x1487 = x1506)
    (fnL_law_J2013 sx Ln k18 v1 v2 v3)
    (m_ret false)
set_option maxHeartbeats 4000000 in
set_option maxRecDepth 100000 in
theorem slL_law_J1471 {κ : sm_X} (C : sm_C κ R_law cL_law 4 16) {sx : Nat → Int32} {Ln b : Nat} (HX : va_X b Ln sx (xs κ) (xs κ).heap) (Hb : b < (xs κ).heap.size) (HbA : ¬ sm_A (xo κ) b) {k18 : Nat → Nat → Int32 → sm_M Bool} (K18 : ∀ (v1 : Nat) (v2 : Nat) (v3 : Int32) (hv1 : kd v1 = 11) (hv2 : kd v2 = 12), sm_S κ (fun r : Bool => .inr (some (.int (bI r)))) (.inl (18, [some (.ref b), some (xad κ v1), some (xad κ v2), some (.int v3)], [])) (k18 v1 v2 v3)) (v1 : Nat) (v2 : Nat) (v3 : Int32) (hv1 : kd v1 = 11) (hv2 : kd v2 = 12) : sm_S κ (fun r : Bool => .inr (some (.int (bI r)))) (.inl (1471, [some (.ref b), some (xad κ v1), some (xad κ v2), some (.int v3)], [])) (fnL_law_J1471 sx Ln k18 v1 v2 v3) := by
  unfold fnL_law_J1471
  refine sr_aload_n (i := 1) (q := 1472) C (show decode cL_law 1471 = .ok (.aload_n 1, 1) from by decide +kernel) rfl rfl rfl ?_
  refine sr_aload_n (i := 0) (q := 1473) C (show decode cL_law 1472 = .ok (.aload_n 0, 1) from by decide +kernel) rfl rfl rfl ?_
  refine sr_iload_n (i := 3) (q := 1474) C (show decode cL_law 1473 = .ok (.iload_n 3, 1) from by decide +kernel) rfl rfl rfl ?_
  refine sr_iconst (v := (1 : Int32)) (q := 1475) C (show decode cL_law 1474 = .ok (.iconst 1, 1) from by decide +kernel) (by decide) rfl ?_
  refine sr_iadd (q := 1476) C (show decode cL_law 1475 = .ok (.iadd, 1) from by decide +kernel) rfl ?_
  refine sr_sld (q := 1477) C HX Hb HbA (show decode cL_law 1476 = .ok (.iaload, 1) from by decide +kernel) rfl ?_
  refine sr_aload_n (i := 0) (q := 1478) C (show decode cL_law 1477 = .ok (.aload_n 0, 1) from by decide +kernel) rfl rfl rfl ?_
  refine sr_iload_n (i := 3) (q := 1479) C (show decode cL_law 1478 = .ok (.iload_n 3, 1) from by decide +kernel) rfl rfl rfl ?_
  refine sr_iconst (v := (2 : Int32)) (q := 1480) C (show decode cL_law 1479 = .ok (.iconst 2, 1) from by decide +kernel) (by decide) rfl ?_
  refine sr_iadd (q := 1481) C (show decode cL_law 1480 = .ok (.iadd, 1) from by decide +kernel) rfl ?_
  refine sr_sld (q := 1482) C HX Hb HbA (show decode cL_law 1481 = .ok (.iaload, 1) from by decide +kernel) rfl ?_
  refine sr_aload_n (i := 0) (q := 1483) C (show decode cL_law 1482 = .ok (.aload_n 0, 1) from by decide +kernel) rfl rfl rfl ?_
  refine sr_iload_n (i := 3) (q := 1484) C (show decode cL_law 1483 = .ok (.iload_n 3, 1) from by decide +kernel) rfl rfl rfl ?_
  refine sr_iconst (v := (3 : Int32)) (q := 1485) C (show decode cL_law 1484 = .ok (.iconst 3, 1) from by decide +kernel) (by decide) rfl ?_
  refine sr_iadd (q := 1486) C (show decode cL_law 1485 = .ok (.iadd, 1) from by decide +kernel) rfl ?_
  refine sr_sld (q := 1487) C HX Hb HbA (show decode cL_law 1486 = .ok (.iaload, 1) from by decide +kernel) rfl ?_
  refine sr_cVi (As := [.int (sx (v3 + (1 : Int32)).toNatClampNeg), .int (sx (v3 + (2 : Int32)).toNatClampNeg), .int (sx (v3 + (3 : Int32)).toNatClampNeg)]) (st := []) (b := v1) (q := 1490) C yvX11_price ml_L_170 (cnX11_price (xo κ) v1 (sx (v3 + (1 : Int32)).toNatClampNeg) (sx (v3 + (2 : Int32)).toNatClampNeg) (sx (v3 + (3 : Int32)).toNatClampNeg) hv1) hv1 (by decide) rfl rfl rfl (by decide) (by decide) (Nat.le_of_ble_eq_true rfl) rfl (show decode cL_law 1487 = .ok (.invokevirtual 170, 3) from by decide +kernel) rfl (fun x1487 => ?_)
  refine sr_aload_n (i := 2) (q := 1491) C (show decode cL_law 1490 = .ok (.aload_n 2, 1) from by decide +kernel) rfl rfl rfl ?_
  refine sr_aload_n (i := 0) (q := 1492) C (show decode cL_law 1491 = .ok (.aload_n 0, 1) from by decide +kernel) rfl rfl rfl ?_
  refine sr_iload_n (i := 3) (q := 1493) C (show decode cL_law 1492 = .ok (.iload_n 3, 1) from by decide +kernel) rfl rfl rfl ?_
  refine sr_iconst (v := (1 : Int32)) (q := 1494) C (show decode cL_law 1493 = .ok (.iconst 1, 1) from by decide +kernel) (by decide) rfl ?_
  refine sr_iadd (q := 1495) C (show decode cL_law 1494 = .ok (.iadd, 1) from by decide +kernel) rfl ?_
  refine sr_sld (q := 1496) C HX Hb HbA (show decode cL_law 1495 = .ok (.iaload, 1) from by decide +kernel) rfl ?_
  refine sr_aload_n (i := 0) (q := 1497) C (show decode cL_law 1496 = .ok (.aload_n 0, 1) from by decide +kernel) rfl rfl rfl ?_
  refine sr_iload_n (i := 3) (q := 1498) C (show decode cL_law 1497 = .ok (.iload_n 3, 1) from by decide +kernel) rfl rfl rfl ?_
  refine sr_iconst (v := (2 : Int32)) (q := 1499) C (show decode cL_law 1498 = .ok (.iconst 2, 1) from by decide +kernel) (by decide) rfl ?_
  refine sr_iadd (q := 1500) C (show decode cL_law 1499 = .ok (.iadd, 1) from by decide +kernel) rfl ?_
  refine sr_sld (q := 1501) C HX Hb HbA (show decode cL_law 1500 = .ok (.iaload, 1) from by decide +kernel) rfl ?_
  refine sr_aload_n (i := 0) (q := 1502) C (show decode cL_law 1501 = .ok (.aload_n 0, 1) from by decide +kernel) rfl rfl rfl ?_
  refine sr_iload_n (i := 3) (q := 1503) C (show decode cL_law 1502 = .ok (.iload_n 3, 1) from by decide +kernel) rfl rfl rfl ?_
  refine sr_iconst (v := (3 : Int32)) (q := 1504) C (show decode cL_law 1503 = .ok (.iconst 3, 1) from by decide +kernel) (by decide) rfl ?_
  refine sr_iadd (q := 1505) C (show decode cL_law 1504 = .ok (.iadd, 1) from by decide +kernel) rfl ?_
  refine sr_sld (q := 1506) C HX Hb HbA (show decode cL_law 1505 = .ok (.iaload, 1) from by decide +kernel) rfl ?_
  refine sr_cVi (As := [.int (sx (v3 + (1 : Int32)).toNatClampNeg), .int (sx (v3 + (2 : Int32)).toNatClampNeg), .int (sx (v3 + (3 : Int32)).toNatClampNeg)]) (st := [.int x1487]) (b := v2) (q := 1509) C yvX12_price ml_L_173 (cnX12_price (xo κ) v2 (sx (v3 + (1 : Int32)).toNatClampNeg) (sx (v3 + (2 : Int32)).toNatClampNeg) (sx (v3 + (3 : Int32)).toNatClampNeg) hv2) hv2 (by decide) rfl rfl rfl (by decide) (by decide) (Nat.le_of_ble_eq_true rfl) rfl (show decode cL_law 1506 = .ok (.invokevirtual 173, 3) from by decide +kernel) rfl (fun x1506 => ?_)
  refine sr_icmp_eq (q := 1512) C 2013 (show decode cL_law 1509 = .ok (.if_icmp .eq 504, 3) from by decide +kernel) (by decide) rfl ?_ ?_
  · exact slL_law_J2013 C HX Hb HbA K18 v1 v2 v3 hv1 hv2
  · refine sr_iconst (v := (0 : Int32)) (q := 1513) C (show decode cL_law 1512 = .ok (.iconst 0, 1) from by decide +kernel) (by decide) rfl ?_
    exact sr_ireturn C false rfl (show decode cL_law 1513 = .ok (.ireturn, 1) from by decide +kernel)
def fnL_law_J1514 (sx : Nat → Int32) (Ln : Nat) (k18 : Nat → Nat → Int32 → sm_M Bool) (v1 : Nat) (v2 : Nat) (v3 : Int32) : sm_M Bool := m_gd (¬ ((v3 + (1 : Int32)) < 0 ∨ Ln ≤ (v3 + (1 : Int32)).toNatClampNeg)) <| m_gd (¬ ((v3 + (2 : Int32)) < 0 ∨ Ln ≤ (v3 + (2 : Int32)).toNatClampNeg)) <| m_bnd (fnX11_keep v1 (sx (v3 + (1 : Int32)).toNatClampNeg) (sx (v3 + (2 : Int32)).toNatClampNeg)) fun x1525 => m_gd (¬ ((v3 + (1 : Int32)) < 0 ∨ Ln ≤ (v3 + (1 : Int32)).toNatClampNeg)) <| m_gd (¬ ((v3 + (2 : Int32)) < 0 ∨ Ln ≤ (v3 + (2 : Int32)).toNatClampNeg)) <| m_bnd (fnX12_keep v2 (sx (v3 + (1 : Int32)).toNatClampNeg) (sx (v3 + (2 : Int32)).toNatClampNeg)) fun x1539 => m_br (x1525 = x1539)
    (fnL_law_J2013 sx Ln k18 v1 v2 v3)
    (m_ret false)
set_option maxHeartbeats 4000000 in
set_option maxRecDepth 100000 in
theorem slL_law_J1514 {κ : sm_X} (C : sm_C κ R_law cL_law 4 16) {sx : Nat → Int32} {Ln b : Nat} (HX : va_X b Ln sx (xs κ) (xs κ).heap) (Hb : b < (xs κ).heap.size) (HbA : ¬ sm_A (xo κ) b) {k18 : Nat → Nat → Int32 → sm_M Bool} (K18 : ∀ (v1 : Nat) (v2 : Nat) (v3 : Int32) (hv1 : kd v1 = 11) (hv2 : kd v2 = 12), sm_S κ (fun r : Bool => .inr (some (.int (bI r)))) (.inl (18, [some (.ref b), some (xad κ v1), some (xad κ v2), some (.int v3)], [])) (k18 v1 v2 v3)) (v1 : Nat) (v2 : Nat) (v3 : Int32) (hv1 : kd v1 = 11) (hv2 : kd v2 = 12) : sm_S κ (fun r : Bool => .inr (some (.int (bI r)))) (.inl (1514, [some (.ref b), some (xad κ v1), some (xad κ v2), some (.int v3)], [])) (fnL_law_J1514 sx Ln k18 v1 v2 v3) := by
  unfold fnL_law_J1514
  refine sr_aload_n (i := 1) (q := 1515) C (show decode cL_law 1514 = .ok (.aload_n 1, 1) from by decide +kernel) rfl rfl rfl ?_
  refine sr_aload_n (i := 0) (q := 1516) C (show decode cL_law 1515 = .ok (.aload_n 0, 1) from by decide +kernel) rfl rfl rfl ?_
  refine sr_iload_n (i := 3) (q := 1517) C (show decode cL_law 1516 = .ok (.iload_n 3, 1) from by decide +kernel) rfl rfl rfl ?_
  refine sr_iconst (v := (1 : Int32)) (q := 1518) C (show decode cL_law 1517 = .ok (.iconst 1, 1) from by decide +kernel) (by decide) rfl ?_
  refine sr_iadd (q := 1519) C (show decode cL_law 1518 = .ok (.iadd, 1) from by decide +kernel) rfl ?_
  refine sr_sld (q := 1520) C HX Hb HbA (show decode cL_law 1519 = .ok (.iaload, 1) from by decide +kernel) rfl ?_
  refine sr_aload_n (i := 0) (q := 1521) C (show decode cL_law 1520 = .ok (.aload_n 0, 1) from by decide +kernel) rfl rfl rfl ?_
  refine sr_iload_n (i := 3) (q := 1522) C (show decode cL_law 1521 = .ok (.iload_n 3, 1) from by decide +kernel) rfl rfl rfl ?_
  refine sr_iconst (v := (2 : Int32)) (q := 1523) C (show decode cL_law 1522 = .ok (.iconst 2, 1) from by decide +kernel) (by decide) rfl ?_
  refine sr_iadd (q := 1524) C (show decode cL_law 1523 = .ok (.iadd, 1) from by decide +kernel) rfl ?_
  refine sr_sld (q := 1525) C HX Hb HbA (show decode cL_law 1524 = .ok (.iaload, 1) from by decide +kernel) rfl ?_
  refine sr_cVi (As := [.int (sx (v3 + (1 : Int32)).toNatClampNeg), .int (sx (v3 + (2 : Int32)).toNatClampNeg)]) (st := []) (b := v1) (q := 1528) C yvX11_keep ml_L_174 (cnX11_keep (xo κ) v1 (sx (v3 + (1 : Int32)).toNatClampNeg) (sx (v3 + (2 : Int32)).toNatClampNeg) hv1) hv1 (by decide) rfl rfl rfl (by decide) (by decide) (Nat.le_of_ble_eq_true rfl) rfl (show decode cL_law 1525 = .ok (.invokevirtual 174, 3) from by decide +kernel) rfl (fun x1525 => ?_)
  refine sr_aload_n (i := 2) (q := 1529) C (show decode cL_law 1528 = .ok (.aload_n 2, 1) from by decide +kernel) rfl rfl rfl ?_
  refine sr_aload_n (i := 0) (q := 1530) C (show decode cL_law 1529 = .ok (.aload_n 0, 1) from by decide +kernel) rfl rfl rfl ?_
  refine sr_iload_n (i := 3) (q := 1531) C (show decode cL_law 1530 = .ok (.iload_n 3, 1) from by decide +kernel) rfl rfl rfl ?_
  refine sr_iconst (v := (1 : Int32)) (q := 1532) C (show decode cL_law 1531 = .ok (.iconst 1, 1) from by decide +kernel) (by decide) rfl ?_
  refine sr_iadd (q := 1533) C (show decode cL_law 1532 = .ok (.iadd, 1) from by decide +kernel) rfl ?_
  refine sr_sld (q := 1534) C HX Hb HbA (show decode cL_law 1533 = .ok (.iaload, 1) from by decide +kernel) rfl ?_
  refine sr_aload_n (i := 0) (q := 1535) C (show decode cL_law 1534 = .ok (.aload_n 0, 1) from by decide +kernel) rfl rfl rfl ?_
  refine sr_iload_n (i := 3) (q := 1536) C (show decode cL_law 1535 = .ok (.iload_n 3, 1) from by decide +kernel) rfl rfl rfl ?_
  refine sr_iconst (v := (2 : Int32)) (q := 1537) C (show decode cL_law 1536 = .ok (.iconst 2, 1) from by decide +kernel) (by decide) rfl ?_
  refine sr_iadd (q := 1538) C (show decode cL_law 1537 = .ok (.iadd, 1) from by decide +kernel) rfl ?_
  refine sr_sld (q := 1539) C HX Hb HbA (show decode cL_law 1538 = .ok (.iaload, 1) from by decide +kernel) rfl ?_
  refine sr_cVi (As := [.int (sx (v3 + (1 : Int32)).toNatClampNeg), .int (sx (v3 + (2 : Int32)).toNatClampNeg)]) (st := [.int x1525]) (b := v2) (q := 1542) C yvX12_keep ml_L_177 (cnX12_keep (xo κ) v2 (sx (v3 + (1 : Int32)).toNatClampNeg) (sx (v3 + (2 : Int32)).toNatClampNeg) hv2) hv2 (by decide) rfl rfl rfl (by decide) (by decide) (Nat.le_of_ble_eq_true rfl) rfl (show decode cL_law 1539 = .ok (.invokevirtual 177, 3) from by decide +kernel) rfl (fun x1539 => ?_)
  refine sr_icmp_eq (q := 1545) C 2013 (show decode cL_law 1542 = .ok (.if_icmp .eq 471, 3) from by decide +kernel) (by decide) rfl ?_ ?_
  · exact slL_law_J2013 C HX Hb HbA K18 v1 v2 v3 hv1 hv2
  · refine sr_iconst (v := (0 : Int32)) (q := 1546) C (show decode cL_law 1545 = .ok (.iconst 0, 1) from by decide +kernel) (by decide) rfl ?_
    exact sr_ireturn C false rfl (show decode cL_law 1546 = .ok (.ireturn, 1) from by decide +kernel)
def fnL_law_J1547 (sx : Nat → Int32) (Ln : Nat) (k18 : Nat → Nat → Int32 → sm_M Bool) (v1 : Nat) (v2 : Nat) (v3 : Int32) : sm_M Bool := m_gd (¬ ((v3 + (1 : Int32)) < 0 ∨ Ln ≤ (v3 + (1 : Int32)).toNatClampNeg)) <| m_gd (¬ ((v3 + (2 : Int32)) < 0 ∨ Ln ≤ (v3 + (2 : Int32)).toNatClampNeg)) <| m_bnd (fnX11_late v1 (sx (v3 + (1 : Int32)).toNatClampNeg) (sx (v3 + (2 : Int32)).toNatClampNeg)) fun x1558 => m_gd (¬ ((v3 + (1 : Int32)) < 0 ∨ Ln ≤ (v3 + (1 : Int32)).toNatClampNeg)) <| m_gd (¬ ((v3 + (2 : Int32)) < 0 ∨ Ln ≤ (v3 + (2 : Int32)).toNatClampNeg)) <| m_bnd (fnX12_late v2 (sx (v3 + (1 : Int32)).toNatClampNeg) (sx (v3 + (2 : Int32)).toNatClampNeg)) fun x1572 => m_br (x1558 = x1572)
    (fnL_law_J2013 sx Ln k18 v1 v2 v3)
    (m_ret false)
set_option maxHeartbeats 4000000 in
set_option maxRecDepth 100000 in
theorem slL_law_J1547 {κ : sm_X} (C : sm_C κ R_law cL_law 4 16) {sx : Nat → Int32} {Ln b : Nat} (HX : va_X b Ln sx (xs κ) (xs κ).heap) (Hb : b < (xs κ).heap.size) (HbA : ¬ sm_A (xo κ) b) {k18 : Nat → Nat → Int32 → sm_M Bool} (K18 : ∀ (v1 : Nat) (v2 : Nat) (v3 : Int32) (hv1 : kd v1 = 11) (hv2 : kd v2 = 12), sm_S κ (fun r : Bool => .inr (some (.int (bI r)))) (.inl (18, [some (.ref b), some (xad κ v1), some (xad κ v2), some (.int v3)], [])) (k18 v1 v2 v3)) (v1 : Nat) (v2 : Nat) (v3 : Int32) (hv1 : kd v1 = 11) (hv2 : kd v2 = 12) : sm_S κ (fun r : Bool => .inr (some (.int (bI r)))) (.inl (1547, [some (.ref b), some (xad κ v1), some (xad κ v2), some (.int v3)], [])) (fnL_law_J1547 sx Ln k18 v1 v2 v3) := by
  unfold fnL_law_J1547
  refine sr_aload_n (i := 1) (q := 1548) C (show decode cL_law 1547 = .ok (.aload_n 1, 1) from by decide +kernel) rfl rfl rfl ?_
  refine sr_aload_n (i := 0) (q := 1549) C (show decode cL_law 1548 = .ok (.aload_n 0, 1) from by decide +kernel) rfl rfl rfl ?_
  refine sr_iload_n (i := 3) (q := 1550) C (show decode cL_law 1549 = .ok (.iload_n 3, 1) from by decide +kernel) rfl rfl rfl ?_
  refine sr_iconst (v := (1 : Int32)) (q := 1551) C (show decode cL_law 1550 = .ok (.iconst 1, 1) from by decide +kernel) (by decide) rfl ?_
  refine sr_iadd (q := 1552) C (show decode cL_law 1551 = .ok (.iadd, 1) from by decide +kernel) rfl ?_
  refine sr_sld (q := 1553) C HX Hb HbA (show decode cL_law 1552 = .ok (.iaload, 1) from by decide +kernel) rfl ?_
  refine sr_aload_n (i := 0) (q := 1554) C (show decode cL_law 1553 = .ok (.aload_n 0, 1) from by decide +kernel) rfl rfl rfl ?_
  refine sr_iload_n (i := 3) (q := 1555) C (show decode cL_law 1554 = .ok (.iload_n 3, 1) from by decide +kernel) rfl rfl rfl ?_
  refine sr_iconst (v := (2 : Int32)) (q := 1556) C (show decode cL_law 1555 = .ok (.iconst 2, 1) from by decide +kernel) (by decide) rfl ?_
  refine sr_iadd (q := 1557) C (show decode cL_law 1556 = .ok (.iadd, 1) from by decide +kernel) rfl ?_
  refine sr_sld (q := 1558) C HX Hb HbA (show decode cL_law 1557 = .ok (.iaload, 1) from by decide +kernel) rfl ?_
  refine sr_cVi (As := [.int (sx (v3 + (1 : Int32)).toNatClampNeg), .int (sx (v3 + (2 : Int32)).toNatClampNeg)]) (st := []) (b := v1) (q := 1561) C yvX11_late ml_L_178 (cnX11_late (xo κ) v1 (sx (v3 + (1 : Int32)).toNatClampNeg) (sx (v3 + (2 : Int32)).toNatClampNeg) hv1) hv1 (by decide) rfl rfl rfl (by decide) (by decide) (Nat.le_of_ble_eq_true rfl) rfl (show decode cL_law 1558 = .ok (.invokevirtual 178, 3) from by decide +kernel) rfl (fun x1558 => ?_)
  refine sr_aload_n (i := 2) (q := 1562) C (show decode cL_law 1561 = .ok (.aload_n 2, 1) from by decide +kernel) rfl rfl rfl ?_
  refine sr_aload_n (i := 0) (q := 1563) C (show decode cL_law 1562 = .ok (.aload_n 0, 1) from by decide +kernel) rfl rfl rfl ?_
  refine sr_iload_n (i := 3) (q := 1564) C (show decode cL_law 1563 = .ok (.iload_n 3, 1) from by decide +kernel) rfl rfl rfl ?_
  refine sr_iconst (v := (1 : Int32)) (q := 1565) C (show decode cL_law 1564 = .ok (.iconst 1, 1) from by decide +kernel) (by decide) rfl ?_
  refine sr_iadd (q := 1566) C (show decode cL_law 1565 = .ok (.iadd, 1) from by decide +kernel) rfl ?_
  refine sr_sld (q := 1567) C HX Hb HbA (show decode cL_law 1566 = .ok (.iaload, 1) from by decide +kernel) rfl ?_
  refine sr_aload_n (i := 0) (q := 1568) C (show decode cL_law 1567 = .ok (.aload_n 0, 1) from by decide +kernel) rfl rfl rfl ?_
  refine sr_iload_n (i := 3) (q := 1569) C (show decode cL_law 1568 = .ok (.iload_n 3, 1) from by decide +kernel) rfl rfl rfl ?_
  refine sr_iconst (v := (2 : Int32)) (q := 1570) C (show decode cL_law 1569 = .ok (.iconst 2, 1) from by decide +kernel) (by decide) rfl ?_
  refine sr_iadd (q := 1571) C (show decode cL_law 1570 = .ok (.iadd, 1) from by decide +kernel) rfl ?_
  refine sr_sld (q := 1572) C HX Hb HbA (show decode cL_law 1571 = .ok (.iaload, 1) from by decide +kernel) rfl ?_
  refine sr_cVi (As := [.int (sx (v3 + (1 : Int32)).toNatClampNeg), .int (sx (v3 + (2 : Int32)).toNatClampNeg)]) (st := [.int x1558]) (b := v2) (q := 1575) C yvX12_late ml_L_181 (cnX12_late (xo κ) v2 (sx (v3 + (1 : Int32)).toNatClampNeg) (sx (v3 + (2 : Int32)).toNatClampNeg) hv2) hv2 (by decide) rfl rfl rfl (by decide) (by decide) (Nat.le_of_ble_eq_true rfl) rfl (show decode cL_law 1572 = .ok (.invokevirtual 181, 3) from by decide +kernel) rfl (fun x1572 => ?_)
  refine sr_icmp_eq (q := 1578) C 2013 (show decode cL_law 1575 = .ok (.if_icmp .eq 438, 3) from by decide +kernel) (by decide) rfl ?_ ?_
  · exact slL_law_J2013 C HX Hb HbA K18 v1 v2 v3 hv1 hv2
  · refine sr_iconst (v := (0 : Int32)) (q := 1579) C (show decode cL_law 1578 = .ok (.iconst 0, 1) from by decide +kernel) (by decide) rfl ?_
    exact sr_ireturn C false rfl (show decode cL_law 1579 = .ok (.ireturn, 1) from by decide +kernel)
def fnL_law_J1580 (sx : Nat → Int32) (Ln : Nat) (k18 : Nat → Nat → Int32 → sm_M Bool) (v1 : Nat) (v2 : Nat) (v3 : Int32) : sm_M Bool := m_gd (¬ ((v3 + (1 : Int32)) < 0 ∨ Ln ≤ (v3 + (1 : Int32)).toNatClampNeg)) <| m_gd (¬ ((v3 + (2 : Int32)) < 0 ∨ Ln ≤ (v3 + (2 : Int32)).toNatClampNeg)) <| m_bnd (fnX11_noon v1 (sx (v3 + (1 : Int32)).toNatClampNeg) (sx (v3 + (2 : Int32)).toNatClampNeg)) fun x1591 => m_gd (¬ ((v3 + (1 : Int32)) < 0 ∨ Ln ≤ (v3 + (1 : Int32)).toNatClampNeg)) <| m_gd (¬ ((v3 + (2 : Int32)) < 0 ∨ Ln ≤ (v3 + (2 : Int32)).toNatClampNeg)) <| m_bnd (fnX12_noon v2 (sx (v3 + (1 : Int32)).toNatClampNeg) (sx (v3 + (2 : Int32)).toNatClampNeg)) fun x1605 => m_br (x1591 = x1605)
    (fnL_law_J2013 sx Ln k18 v1 v2 v3)
    (m_ret false)
set_option maxHeartbeats 4000000 in
set_option maxRecDepth 100000 in
theorem slL_law_J1580 {κ : sm_X} (C : sm_C κ R_law cL_law 4 16) {sx : Nat → Int32} {Ln b : Nat} (HX : va_X b Ln sx (xs κ) (xs κ).heap) (Hb : b < (xs κ).heap.size) (HbA : ¬ sm_A (xo κ) b) {k18 : Nat → Nat → Int32 → sm_M Bool} (K18 : ∀ (v1 : Nat) (v2 : Nat) (v3 : Int32) (hv1 : kd v1 = 11) (hv2 : kd v2 = 12), sm_S κ (fun r : Bool => .inr (some (.int (bI r)))) (.inl (18, [some (.ref b), some (xad κ v1), some (xad κ v2), some (.int v3)], [])) (k18 v1 v2 v3)) (v1 : Nat) (v2 : Nat) (v3 : Int32) (hv1 : kd v1 = 11) (hv2 : kd v2 = 12) : sm_S κ (fun r : Bool => .inr (some (.int (bI r)))) (.inl (1580, [some (.ref b), some (xad κ v1), some (xad κ v2), some (.int v3)], [])) (fnL_law_J1580 sx Ln k18 v1 v2 v3) := by
  unfold fnL_law_J1580
  refine sr_aload_n (i := 1) (q := 1581) C (show decode cL_law 1580 = .ok (.aload_n 1, 1) from by decide +kernel) rfl rfl rfl ?_
  refine sr_aload_n (i := 0) (q := 1582) C (show decode cL_law 1581 = .ok (.aload_n 0, 1) from by decide +kernel) rfl rfl rfl ?_
  refine sr_iload_n (i := 3) (q := 1583) C (show decode cL_law 1582 = .ok (.iload_n 3, 1) from by decide +kernel) rfl rfl rfl ?_
  refine sr_iconst (v := (1 : Int32)) (q := 1584) C (show decode cL_law 1583 = .ok (.iconst 1, 1) from by decide +kernel) (by decide) rfl ?_
  refine sr_iadd (q := 1585) C (show decode cL_law 1584 = .ok (.iadd, 1) from by decide +kernel) rfl ?_
  refine sr_sld (q := 1586) C HX Hb HbA (show decode cL_law 1585 = .ok (.iaload, 1) from by decide +kernel) rfl ?_
  refine sr_aload_n (i := 0) (q := 1587) C (show decode cL_law 1586 = .ok (.aload_n 0, 1) from by decide +kernel) rfl rfl rfl ?_
  refine sr_iload_n (i := 3) (q := 1588) C (show decode cL_law 1587 = .ok (.iload_n 3, 1) from by decide +kernel) rfl rfl rfl ?_
  refine sr_iconst (v := (2 : Int32)) (q := 1589) C (show decode cL_law 1588 = .ok (.iconst 2, 1) from by decide +kernel) (by decide) rfl ?_
  refine sr_iadd (q := 1590) C (show decode cL_law 1589 = .ok (.iadd, 1) from by decide +kernel) rfl ?_
  refine sr_sld (q := 1591) C HX Hb HbA (show decode cL_law 1590 = .ok (.iaload, 1) from by decide +kernel) rfl ?_
  refine sr_cVi (As := [.int (sx (v3 + (1 : Int32)).toNatClampNeg), .int (sx (v3 + (2 : Int32)).toNatClampNeg)]) (st := []) (b := v1) (q := 1594) C yvX11_noon ml_L_182 (cnX11_noon (xo κ) v1 (sx (v3 + (1 : Int32)).toNatClampNeg) (sx (v3 + (2 : Int32)).toNatClampNeg) hv1) hv1 (by decide) rfl rfl rfl (by decide) (by decide) (Nat.le_of_ble_eq_true rfl) rfl (show decode cL_law 1591 = .ok (.invokevirtual 182, 3) from by decide +kernel) rfl (fun x1591 => ?_)
  refine sr_aload_n (i := 2) (q := 1595) C (show decode cL_law 1594 = .ok (.aload_n 2, 1) from by decide +kernel) rfl rfl rfl ?_
  refine sr_aload_n (i := 0) (q := 1596) C (show decode cL_law 1595 = .ok (.aload_n 0, 1) from by decide +kernel) rfl rfl rfl ?_
  refine sr_iload_n (i := 3) (q := 1597) C (show decode cL_law 1596 = .ok (.iload_n 3, 1) from by decide +kernel) rfl rfl rfl ?_
  refine sr_iconst (v := (1 : Int32)) (q := 1598) C (show decode cL_law 1597 = .ok (.iconst 1, 1) from by decide +kernel) (by decide) rfl ?_
  refine sr_iadd (q := 1599) C (show decode cL_law 1598 = .ok (.iadd, 1) from by decide +kernel) rfl ?_
  refine sr_sld (q := 1600) C HX Hb HbA (show decode cL_law 1599 = .ok (.iaload, 1) from by decide +kernel) rfl ?_
  refine sr_aload_n (i := 0) (q := 1601) C (show decode cL_law 1600 = .ok (.aload_n 0, 1) from by decide +kernel) rfl rfl rfl ?_
  refine sr_iload_n (i := 3) (q := 1602) C (show decode cL_law 1601 = .ok (.iload_n 3, 1) from by decide +kernel) rfl rfl rfl ?_
  refine sr_iconst (v := (2 : Int32)) (q := 1603) C (show decode cL_law 1602 = .ok (.iconst 2, 1) from by decide +kernel) (by decide) rfl ?_
  refine sr_iadd (q := 1604) C (show decode cL_law 1603 = .ok (.iadd, 1) from by decide +kernel) rfl ?_
  refine sr_sld (q := 1605) C HX Hb HbA (show decode cL_law 1604 = .ok (.iaload, 1) from by decide +kernel) rfl ?_
  refine sr_cVi (As := [.int (sx (v3 + (1 : Int32)).toNatClampNeg), .int (sx (v3 + (2 : Int32)).toNatClampNeg)]) (st := [.int x1591]) (b := v2) (q := 1608) C yvX12_noon ml_L_185 (cnX12_noon (xo κ) v2 (sx (v3 + (1 : Int32)).toNatClampNeg) (sx (v3 + (2 : Int32)).toNatClampNeg) hv2) hv2 (by decide) rfl rfl rfl (by decide) (by decide) (Nat.le_of_ble_eq_true rfl) rfl (show decode cL_law 1605 = .ok (.invokevirtual 185, 3) from by decide +kernel) rfl (fun x1605 => ?_)
  refine sr_icmp_eq (q := 1611) C 2013 (show decode cL_law 1608 = .ok (.if_icmp .eq 405, 3) from by decide +kernel) (by decide) rfl ?_ ?_
  · exact slL_law_J2013 C HX Hb HbA K18 v1 v2 v3 hv1 hv2
  · refine sr_iconst (v := (0 : Int32)) (q := 1612) C (show decode cL_law 1611 = .ok (.iconst 0, 1) from by decide +kernel) (by decide) rfl ?_
    exact sr_ireturn C false rfl (show decode cL_law 1612 = .ok (.ireturn, 1) from by decide +kernel)
def fnL_law_J1613 (sx : Nat → Int32) (Ln : Nat) (k18 : Nat → Nat → Int32 → sm_M Bool) (v1 : Nat) (v2 : Nat) (v3 : Int32) : sm_M Bool := m_gd (¬ ((v3 + (1 : Int32)) < 0 ∨ Ln ≤ (v3 + (1 : Int32)).toNatClampNeg)) <| m_gd (¬ ((v3 + (2 : Int32)) < 0 ∨ Ln ≤ (v3 + (2 : Int32)).toNatClampNeg)) <| m_bnd (fnX11_waits v1 (sx (v3 + (1 : Int32)).toNatClampNeg) (sx (v3 + (2 : Int32)).toNatClampNeg)) fun x1624 => m_gd (¬ ((v3 + (1 : Int32)) < 0 ∨ Ln ≤ (v3 + (1 : Int32)).toNatClampNeg)) <| m_gd (¬ ((v3 + (2 : Int32)) < 0 ∨ Ln ≤ (v3 + (2 : Int32)).toNatClampNeg)) <| m_bnd (fnX12_waits v2 (sx (v3 + (1 : Int32)).toNatClampNeg) (sx (v3 + (2 : Int32)).toNatClampNeg)) fun x1638 => m_br (x1624 = x1638)
    (fnL_law_J2013 sx Ln k18 v1 v2 v3)
    (m_ret false)
set_option maxHeartbeats 4000000 in
set_option maxRecDepth 100000 in
theorem slL_law_J1613 {κ : sm_X} (C : sm_C κ R_law cL_law 4 16) {sx : Nat → Int32} {Ln b : Nat} (HX : va_X b Ln sx (xs κ) (xs κ).heap) (Hb : b < (xs κ).heap.size) (HbA : ¬ sm_A (xo κ) b) {k18 : Nat → Nat → Int32 → sm_M Bool} (K18 : ∀ (v1 : Nat) (v2 : Nat) (v3 : Int32) (hv1 : kd v1 = 11) (hv2 : kd v2 = 12), sm_S κ (fun r : Bool => .inr (some (.int (bI r)))) (.inl (18, [some (.ref b), some (xad κ v1), some (xad κ v2), some (.int v3)], [])) (k18 v1 v2 v3)) (v1 : Nat) (v2 : Nat) (v3 : Int32) (hv1 : kd v1 = 11) (hv2 : kd v2 = 12) : sm_S κ (fun r : Bool => .inr (some (.int (bI r)))) (.inl (1613, [some (.ref b), some (xad κ v1), some (xad κ v2), some (.int v3)], [])) (fnL_law_J1613 sx Ln k18 v1 v2 v3) := by
  unfold fnL_law_J1613
  refine sr_aload_n (i := 1) (q := 1614) C (show decode cL_law 1613 = .ok (.aload_n 1, 1) from by decide +kernel) rfl rfl rfl ?_
  refine sr_aload_n (i := 0) (q := 1615) C (show decode cL_law 1614 = .ok (.aload_n 0, 1) from by decide +kernel) rfl rfl rfl ?_
  refine sr_iload_n (i := 3) (q := 1616) C (show decode cL_law 1615 = .ok (.iload_n 3, 1) from by decide +kernel) rfl rfl rfl ?_
  refine sr_iconst (v := (1 : Int32)) (q := 1617) C (show decode cL_law 1616 = .ok (.iconst 1, 1) from by decide +kernel) (by decide) rfl ?_
  refine sr_iadd (q := 1618) C (show decode cL_law 1617 = .ok (.iadd, 1) from by decide +kernel) rfl ?_
  refine sr_sld (q := 1619) C HX Hb HbA (show decode cL_law 1618 = .ok (.iaload, 1) from by decide +kernel) rfl ?_
  refine sr_aload_n (i := 0) (q := 1620) C (show decode cL_law 1619 = .ok (.aload_n 0, 1) from by decide +kernel) rfl rfl rfl ?_
  refine sr_iload_n (i := 3) (q := 1621) C (show decode cL_law 1620 = .ok (.iload_n 3, 1) from by decide +kernel) rfl rfl rfl ?_
  refine sr_iconst (v := (2 : Int32)) (q := 1622) C (show decode cL_law 1621 = .ok (.iconst 2, 1) from by decide +kernel) (by decide) rfl ?_
  refine sr_iadd (q := 1623) C (show decode cL_law 1622 = .ok (.iadd, 1) from by decide +kernel) rfl ?_
  refine sr_sld (q := 1624) C HX Hb HbA (show decode cL_law 1623 = .ok (.iaload, 1) from by decide +kernel) rfl ?_
  refine sr_cVi (As := [.int (sx (v3 + (1 : Int32)).toNatClampNeg), .int (sx (v3 + (2 : Int32)).toNatClampNeg)]) (st := []) (b := v1) (q := 1627) C yvX11_waits ml_L_186 (cnX11_waits (xo κ) v1 (sx (v3 + (1 : Int32)).toNatClampNeg) (sx (v3 + (2 : Int32)).toNatClampNeg) hv1) hv1 (by decide) rfl rfl rfl (by decide) (by decide) (Nat.le_of_ble_eq_true rfl) rfl (show decode cL_law 1624 = .ok (.invokevirtual 186, 3) from by decide +kernel) rfl (fun x1624 => ?_)
  refine sr_aload_n (i := 2) (q := 1628) C (show decode cL_law 1627 = .ok (.aload_n 2, 1) from by decide +kernel) rfl rfl rfl ?_
  refine sr_aload_n (i := 0) (q := 1629) C (show decode cL_law 1628 = .ok (.aload_n 0, 1) from by decide +kernel) rfl rfl rfl ?_
  refine sr_iload_n (i := 3) (q := 1630) C (show decode cL_law 1629 = .ok (.iload_n 3, 1) from by decide +kernel) rfl rfl rfl ?_
  refine sr_iconst (v := (1 : Int32)) (q := 1631) C (show decode cL_law 1630 = .ok (.iconst 1, 1) from by decide +kernel) (by decide) rfl ?_
  refine sr_iadd (q := 1632) C (show decode cL_law 1631 = .ok (.iadd, 1) from by decide +kernel) rfl ?_
  refine sr_sld (q := 1633) C HX Hb HbA (show decode cL_law 1632 = .ok (.iaload, 1) from by decide +kernel) rfl ?_
  refine sr_aload_n (i := 0) (q := 1634) C (show decode cL_law 1633 = .ok (.aload_n 0, 1) from by decide +kernel) rfl rfl rfl ?_
  refine sr_iload_n (i := 3) (q := 1635) C (show decode cL_law 1634 = .ok (.iload_n 3, 1) from by decide +kernel) rfl rfl rfl ?_
  refine sr_iconst (v := (2 : Int32)) (q := 1636) C (show decode cL_law 1635 = .ok (.iconst 2, 1) from by decide +kernel) (by decide) rfl ?_
  refine sr_iadd (q := 1637) C (show decode cL_law 1636 = .ok (.iadd, 1) from by decide +kernel) rfl ?_
  refine sr_sld (q := 1638) C HX Hb HbA (show decode cL_law 1637 = .ok (.iaload, 1) from by decide +kernel) rfl ?_
  refine sr_cVi (As := [.int (sx (v3 + (1 : Int32)).toNatClampNeg), .int (sx (v3 + (2 : Int32)).toNatClampNeg)]) (st := [.int x1624]) (b := v2) (q := 1641) C yvX12_waits ml_L_189 (cnX12_waits (xo κ) v2 (sx (v3 + (1 : Int32)).toNatClampNeg) (sx (v3 + (2 : Int32)).toNatClampNeg) hv2) hv2 (by decide) rfl rfl rfl (by decide) (by decide) (Nat.le_of_ble_eq_true rfl) rfl (show decode cL_law 1638 = .ok (.invokevirtual 189, 3) from by decide +kernel) rfl (fun x1638 => ?_)
  refine sr_icmp_eq (q := 1644) C 2013 (show decode cL_law 1641 = .ok (.if_icmp .eq 372, 3) from by decide +kernel) (by decide) rfl ?_ ?_
  · exact slL_law_J2013 C HX Hb HbA K18 v1 v2 v3 hv1 hv2
  · refine sr_iconst (v := (0 : Int32)) (q := 1645) C (show decode cL_law 1644 = .ok (.iconst 0, 1) from by decide +kernel) (by decide) rfl ?_
    exact sr_ireturn C false rfl (show decode cL_law 1645 = .ok (.ireturn, 1) from by decide +kernel)
def fnL_law_J1646 (sx : Nat → Int32) (Ln : Nat) (k18 : Nat → Nat → Int32 → sm_M Bool) (v1 : Nat) (v2 : Nat) (v3 : Int32) : sm_M Bool := m_gd (¬ ((v3 + (1 : Int32)) < 0 ∨ Ln ≤ (v3 + (1 : Int32)).toNatClampNeg)) <| m_gd (¬ ((v3 + (2 : Int32)) < 0 ∨ Ln ≤ (v3 + (2 : Int32)).toNatClampNeg)) <| m_bnd (fnX11_cross v1 (sx (v3 + (1 : Int32)).toNatClampNeg) (sx (v3 + (2 : Int32)).toNatClampNeg)) fun x1657 => m_gd (¬ ((v3 + (1 : Int32)) < 0 ∨ Ln ≤ (v3 + (1 : Int32)).toNatClampNeg)) <| m_gd (¬ ((v3 + (2 : Int32)) < 0 ∨ Ln ≤ (v3 + (2 : Int32)).toNatClampNeg)) <| m_bnd (fnX12_cross v2 (sx (v3 + (1 : Int32)).toNatClampNeg) (sx (v3 + (2 : Int32)).toNatClampNeg)) fun x1671 => m_br (x1657 = x1671)
    (fnL_law_J2013 sx Ln k18 v1 v2 v3)
    (m_ret false)
set_option maxHeartbeats 4000000 in
set_option maxRecDepth 100000 in
theorem slL_law_J1646 {κ : sm_X} (C : sm_C κ R_law cL_law 4 16) {sx : Nat → Int32} {Ln b : Nat} (HX : va_X b Ln sx (xs κ) (xs κ).heap) (Hb : b < (xs κ).heap.size) (HbA : ¬ sm_A (xo κ) b) {k18 : Nat → Nat → Int32 → sm_M Bool} (K18 : ∀ (v1 : Nat) (v2 : Nat) (v3 : Int32) (hv1 : kd v1 = 11) (hv2 : kd v2 = 12), sm_S κ (fun r : Bool => .inr (some (.int (bI r)))) (.inl (18, [some (.ref b), some (xad κ v1), some (xad κ v2), some (.int v3)], [])) (k18 v1 v2 v3)) (v1 : Nat) (v2 : Nat) (v3 : Int32) (hv1 : kd v1 = 11) (hv2 : kd v2 = 12) : sm_S κ (fun r : Bool => .inr (some (.int (bI r)))) (.inl (1646, [some (.ref b), some (xad κ v1), some (xad κ v2), some (.int v3)], [])) (fnL_law_J1646 sx Ln k18 v1 v2 v3) := by
  unfold fnL_law_J1646
  refine sr_aload_n (i := 1) (q := 1647) C (show decode cL_law 1646 = .ok (.aload_n 1, 1) from by decide +kernel) rfl rfl rfl ?_
  refine sr_aload_n (i := 0) (q := 1648) C (show decode cL_law 1647 = .ok (.aload_n 0, 1) from by decide +kernel) rfl rfl rfl ?_
  refine sr_iload_n (i := 3) (q := 1649) C (show decode cL_law 1648 = .ok (.iload_n 3, 1) from by decide +kernel) rfl rfl rfl ?_
  refine sr_iconst (v := (1 : Int32)) (q := 1650) C (show decode cL_law 1649 = .ok (.iconst 1, 1) from by decide +kernel) (by decide) rfl ?_
  refine sr_iadd (q := 1651) C (show decode cL_law 1650 = .ok (.iadd, 1) from by decide +kernel) rfl ?_
  refine sr_sld (q := 1652) C HX Hb HbA (show decode cL_law 1651 = .ok (.iaload, 1) from by decide +kernel) rfl ?_
  refine sr_aload_n (i := 0) (q := 1653) C (show decode cL_law 1652 = .ok (.aload_n 0, 1) from by decide +kernel) rfl rfl rfl ?_
  refine sr_iload_n (i := 3) (q := 1654) C (show decode cL_law 1653 = .ok (.iload_n 3, 1) from by decide +kernel) rfl rfl rfl ?_
  refine sr_iconst (v := (2 : Int32)) (q := 1655) C (show decode cL_law 1654 = .ok (.iconst 2, 1) from by decide +kernel) (by decide) rfl ?_
  refine sr_iadd (q := 1656) C (show decode cL_law 1655 = .ok (.iadd, 1) from by decide +kernel) rfl ?_
  refine sr_sld (q := 1657) C HX Hb HbA (show decode cL_law 1656 = .ok (.iaload, 1) from by decide +kernel) rfl ?_
  refine sr_cVi (As := [.int (sx (v3 + (1 : Int32)).toNatClampNeg), .int (sx (v3 + (2 : Int32)).toNatClampNeg)]) (st := []) (b := v1) (q := 1660) C yvX11_cross ml_L_190 (cnX11_cross (xo κ) v1 (sx (v3 + (1 : Int32)).toNatClampNeg) (sx (v3 + (2 : Int32)).toNatClampNeg) hv1) hv1 (by decide) rfl rfl rfl (by decide) (by decide) (Nat.le_of_ble_eq_true rfl) rfl (show decode cL_law 1657 = .ok (.invokevirtual 190, 3) from by decide +kernel) rfl (fun x1657 => ?_)
  refine sr_aload_n (i := 2) (q := 1661) C (show decode cL_law 1660 = .ok (.aload_n 2, 1) from by decide +kernel) rfl rfl rfl ?_
  refine sr_aload_n (i := 0) (q := 1662) C (show decode cL_law 1661 = .ok (.aload_n 0, 1) from by decide +kernel) rfl rfl rfl ?_
  refine sr_iload_n (i := 3) (q := 1663) C (show decode cL_law 1662 = .ok (.iload_n 3, 1) from by decide +kernel) rfl rfl rfl ?_
  refine sr_iconst (v := (1 : Int32)) (q := 1664) C (show decode cL_law 1663 = .ok (.iconst 1, 1) from by decide +kernel) (by decide) rfl ?_
  refine sr_iadd (q := 1665) C (show decode cL_law 1664 = .ok (.iadd, 1) from by decide +kernel) rfl ?_
  refine sr_sld (q := 1666) C HX Hb HbA (show decode cL_law 1665 = .ok (.iaload, 1) from by decide +kernel) rfl ?_
  refine sr_aload_n (i := 0) (q := 1667) C (show decode cL_law 1666 = .ok (.aload_n 0, 1) from by decide +kernel) rfl rfl rfl ?_
  refine sr_iload_n (i := 3) (q := 1668) C (show decode cL_law 1667 = .ok (.iload_n 3, 1) from by decide +kernel) rfl rfl rfl ?_
  refine sr_iconst (v := (2 : Int32)) (q := 1669) C (show decode cL_law 1668 = .ok (.iconst 2, 1) from by decide +kernel) (by decide) rfl ?_
  refine sr_iadd (q := 1670) C (show decode cL_law 1669 = .ok (.iadd, 1) from by decide +kernel) rfl ?_
  refine sr_sld (q := 1671) C HX Hb HbA (show decode cL_law 1670 = .ok (.iaload, 1) from by decide +kernel) rfl ?_
  refine sr_cVi (As := [.int (sx (v3 + (1 : Int32)).toNatClampNeg), .int (sx (v3 + (2 : Int32)).toNatClampNeg)]) (st := [.int x1657]) (b := v2) (q := 1674) C yvX12_cross ml_L_193 (cnX12_cross (xo κ) v2 (sx (v3 + (1 : Int32)).toNatClampNeg) (sx (v3 + (2 : Int32)).toNatClampNeg) hv2) hv2 (by decide) rfl rfl rfl (by decide) (by decide) (Nat.le_of_ble_eq_true rfl) rfl (show decode cL_law 1671 = .ok (.invokevirtual 193, 3) from by decide +kernel) rfl (fun x1671 => ?_)
  refine sr_icmp_eq (q := 1677) C 2013 (show decode cL_law 1674 = .ok (.if_icmp .eq 339, 3) from by decide +kernel) (by decide) rfl ?_ ?_
  · exact slL_law_J2013 C HX Hb HbA K18 v1 v2 v3 hv1 hv2
  · refine sr_iconst (v := (0 : Int32)) (q := 1678) C (show decode cL_law 1677 = .ok (.iconst 0, 1) from by decide +kernel) (by decide) rfl ?_
    exact sr_ireturn C false rfl (show decode cL_law 1678 = .ok (.ireturn, 1) from by decide +kernel)
def fnL_law_J1679 (sx : Nat → Int32) (Ln : Nat) (k18 : Nat → Nat → Int32 → sm_M Bool) (v1 : Nat) (v2 : Nat) (v3 : Int32) : sm_M Bool := m_gd (¬ ((v3 + (1 : Int32)) < 0 ∨ Ln ≤ (v3 + (1 : Int32)).toNatClampNeg)) <| m_gd (¬ ((v3 + (2 : Int32)) < 0 ∨ Ln ≤ (v3 + (2 : Int32)).toNatClampNeg)) <| m_bnd (fnX11_run v1 (sx (v3 + (1 : Int32)).toNatClampNeg) (sx (v3 + (2 : Int32)).toNatClampNeg)) fun x1690 => m_gd (¬ ((v3 + (1 : Int32)) < 0 ∨ Ln ≤ (v3 + (1 : Int32)).toNatClampNeg)) <| m_gd (¬ ((v3 + (2 : Int32)) < 0 ∨ Ln ≤ (v3 + (2 : Int32)).toNatClampNeg)) <| m_bnd (fnX12_run v2 (sx (v3 + (1 : Int32)).toNatClampNeg) (sx (v3 + (2 : Int32)).toNatClampNeg)) fun x1704 => m_br (x1690 = x1704)
    (fnL_law_J2013 sx Ln k18 v1 v2 v3)
    (m_ret false)
set_option maxHeartbeats 4000000 in
set_option maxRecDepth 100000 in
theorem slL_law_J1679 {κ : sm_X} (C : sm_C κ R_law cL_law 4 16) {sx : Nat → Int32} {Ln b : Nat} (HX : va_X b Ln sx (xs κ) (xs κ).heap) (Hb : b < (xs κ).heap.size) (HbA : ¬ sm_A (xo κ) b) {k18 : Nat → Nat → Int32 → sm_M Bool} (K18 : ∀ (v1 : Nat) (v2 : Nat) (v3 : Int32) (hv1 : kd v1 = 11) (hv2 : kd v2 = 12), sm_S κ (fun r : Bool => .inr (some (.int (bI r)))) (.inl (18, [some (.ref b), some (xad κ v1), some (xad κ v2), some (.int v3)], [])) (k18 v1 v2 v3)) (v1 : Nat) (v2 : Nat) (v3 : Int32) (hv1 : kd v1 = 11) (hv2 : kd v2 = 12) : sm_S κ (fun r : Bool => .inr (some (.int (bI r)))) (.inl (1679, [some (.ref b), some (xad κ v1), some (xad κ v2), some (.int v3)], [])) (fnL_law_J1679 sx Ln k18 v1 v2 v3) := by
  unfold fnL_law_J1679
  refine sr_aload_n (i := 1) (q := 1680) C (show decode cL_law 1679 = .ok (.aload_n 1, 1) from by decide +kernel) rfl rfl rfl ?_
  refine sr_aload_n (i := 0) (q := 1681) C (show decode cL_law 1680 = .ok (.aload_n 0, 1) from by decide +kernel) rfl rfl rfl ?_
  refine sr_iload_n (i := 3) (q := 1682) C (show decode cL_law 1681 = .ok (.iload_n 3, 1) from by decide +kernel) rfl rfl rfl ?_
  refine sr_iconst (v := (1 : Int32)) (q := 1683) C (show decode cL_law 1682 = .ok (.iconst 1, 1) from by decide +kernel) (by decide) rfl ?_
  refine sr_iadd (q := 1684) C (show decode cL_law 1683 = .ok (.iadd, 1) from by decide +kernel) rfl ?_
  refine sr_sld (q := 1685) C HX Hb HbA (show decode cL_law 1684 = .ok (.iaload, 1) from by decide +kernel) rfl ?_
  refine sr_aload_n (i := 0) (q := 1686) C (show decode cL_law 1685 = .ok (.aload_n 0, 1) from by decide +kernel) rfl rfl rfl ?_
  refine sr_iload_n (i := 3) (q := 1687) C (show decode cL_law 1686 = .ok (.iload_n 3, 1) from by decide +kernel) rfl rfl rfl ?_
  refine sr_iconst (v := (2 : Int32)) (q := 1688) C (show decode cL_law 1687 = .ok (.iconst 2, 1) from by decide +kernel) (by decide) rfl ?_
  refine sr_iadd (q := 1689) C (show decode cL_law 1688 = .ok (.iadd, 1) from by decide +kernel) rfl ?_
  refine sr_sld (q := 1690) C HX Hb HbA (show decode cL_law 1689 = .ok (.iaload, 1) from by decide +kernel) rfl ?_
  refine sr_cVi (As := [.int (sx (v3 + (1 : Int32)).toNatClampNeg), .int (sx (v3 + (2 : Int32)).toNatClampNeg)]) (st := []) (b := v1) (q := 1693) C yvX11_run ml_L_194 (cnX11_run (xo κ) v1 (sx (v3 + (1 : Int32)).toNatClampNeg) (sx (v3 + (2 : Int32)).toNatClampNeg) hv1) hv1 (by decide) rfl rfl rfl (by decide) (by decide) (Nat.le_of_ble_eq_true rfl) rfl (show decode cL_law 1690 = .ok (.invokevirtual 194, 3) from by decide +kernel) rfl (fun x1690 => ?_)
  refine sr_aload_n (i := 2) (q := 1694) C (show decode cL_law 1693 = .ok (.aload_n 2, 1) from by decide +kernel) rfl rfl rfl ?_
  refine sr_aload_n (i := 0) (q := 1695) C (show decode cL_law 1694 = .ok (.aload_n 0, 1) from by decide +kernel) rfl rfl rfl ?_
  refine sr_iload_n (i := 3) (q := 1696) C (show decode cL_law 1695 = .ok (.iload_n 3, 1) from by decide +kernel) rfl rfl rfl ?_
  refine sr_iconst (v := (1 : Int32)) (q := 1697) C (show decode cL_law 1696 = .ok (.iconst 1, 1) from by decide +kernel) (by decide) rfl ?_
  refine sr_iadd (q := 1698) C (show decode cL_law 1697 = .ok (.iadd, 1) from by decide +kernel) rfl ?_
  refine sr_sld (q := 1699) C HX Hb HbA (show decode cL_law 1698 = .ok (.iaload, 1) from by decide +kernel) rfl ?_
  refine sr_aload_n (i := 0) (q := 1700) C (show decode cL_law 1699 = .ok (.aload_n 0, 1) from by decide +kernel) rfl rfl rfl ?_
  refine sr_iload_n (i := 3) (q := 1701) C (show decode cL_law 1700 = .ok (.iload_n 3, 1) from by decide +kernel) rfl rfl rfl ?_
  refine sr_iconst (v := (2 : Int32)) (q := 1702) C (show decode cL_law 1701 = .ok (.iconst 2, 1) from by decide +kernel) (by decide) rfl ?_
  refine sr_iadd (q := 1703) C (show decode cL_law 1702 = .ok (.iadd, 1) from by decide +kernel) rfl ?_
  refine sr_sld (q := 1704) C HX Hb HbA (show decode cL_law 1703 = .ok (.iaload, 1) from by decide +kernel) rfl ?_
  refine sr_cVi (As := [.int (sx (v3 + (1 : Int32)).toNatClampNeg), .int (sx (v3 + (2 : Int32)).toNatClampNeg)]) (st := [.int x1690]) (b := v2) (q := 1707) C yvX12_run ml_L_197 (cnX12_run (xo κ) v2 (sx (v3 + (1 : Int32)).toNatClampNeg) (sx (v3 + (2 : Int32)).toNatClampNeg) hv2) hv2 (by decide) rfl rfl rfl (by decide) (by decide) (Nat.le_of_ble_eq_true rfl) rfl (show decode cL_law 1704 = .ok (.invokevirtual 197, 3) from by decide +kernel) rfl (fun x1704 => ?_)
  refine sr_icmp_eq (q := 1710) C 2013 (show decode cL_law 1707 = .ok (.if_icmp .eq 306, 3) from by decide +kernel) (by decide) rfl ?_ ?_
  · exact slL_law_J2013 C HX Hb HbA K18 v1 v2 v3 hv1 hv2
  · refine sr_iconst (v := (0 : Int32)) (q := 1711) C (show decode cL_law 1710 = .ok (.iconst 0, 1) from by decide +kernel) (by decide) rfl ?_
    exact sr_ireturn C false rfl (show decode cL_law 1711 = .ok (.ireturn, 1) from by decide +kernel)
def fnL_law_J1712 (sx : Nat → Int32) (Ln : Nat) (k18 : Nat → Nat → Int32 → sm_M Bool) (v1 : Nat) (v2 : Nat) (v3 : Int32) : sm_M Bool := m_gd (¬ ((v3 + (1 : Int32)) < 0 ∨ Ln ≤ (v3 + (1 : Int32)).toNatClampNeg)) <| m_gd (¬ ((v3 + (2 : Int32)) < 0 ∨ Ln ≤ (v3 + (2 : Int32)).toNatClampNeg)) <| m_gd (¬ ((v3 + (3 : Int32)) < 0 ∨ Ln ≤ (v3 + (3 : Int32)).toNatClampNeg)) <| m_gd (¬ ((v3 + (4 : Int32)) < 0 ∨ Ln ≤ (v3 + (4 : Int32)).toNatClampNeg)) <| m_bnd (fnX11_runs v1 (sx (v3 + (1 : Int32)).toNatClampNeg) (sx (v3 + (2 : Int32)).toNatClampNeg) (sx (v3 + (3 : Int32)).toNatClampNeg) (sx (v3 + (4 : Int32)).toNatClampNeg)) fun x1733 => m_gd (¬ ((v3 + (1 : Int32)) < 0 ∨ Ln ≤ (v3 + (1 : Int32)).toNatClampNeg)) <| m_gd (¬ ((v3 + (2 : Int32)) < 0 ∨ Ln ≤ (v3 + (2 : Int32)).toNatClampNeg)) <| m_gd (¬ ((v3 + (3 : Int32)) < 0 ∨ Ln ≤ (v3 + (3 : Int32)).toNatClampNeg)) <| m_gd (¬ ((v3 + (4 : Int32)) < 0 ∨ Ln ≤ (v3 + (4 : Int32)).toNatClampNeg)) <| m_bnd (fnX12_runs v2 (sx (v3 + (1 : Int32)).toNatClampNeg) (sx (v3 + (2 : Int32)).toNatClampNeg) (sx (v3 + (3 : Int32)).toNatClampNeg) (sx (v3 + (4 : Int32)).toNatClampNeg)) fun x1757 => m_br (x1733 = x1757)
    (fnL_law_J2013 sx Ln k18 v1 v2 v3)
    (m_ret false)
set_option maxHeartbeats 4000000 in
set_option maxRecDepth 100000 in
theorem slL_law_J1712 {κ : sm_X} (C : sm_C κ R_law cL_law 4 16) {sx : Nat → Int32} {Ln b : Nat} (HX : va_X b Ln sx (xs κ) (xs κ).heap) (Hb : b < (xs κ).heap.size) (HbA : ¬ sm_A (xo κ) b) {k18 : Nat → Nat → Int32 → sm_M Bool} (K18 : ∀ (v1 : Nat) (v2 : Nat) (v3 : Int32) (hv1 : kd v1 = 11) (hv2 : kd v2 = 12), sm_S κ (fun r : Bool => .inr (some (.int (bI r)))) (.inl (18, [some (.ref b), some (xad κ v1), some (xad κ v2), some (.int v3)], [])) (k18 v1 v2 v3)) (v1 : Nat) (v2 : Nat) (v3 : Int32) (hv1 : kd v1 = 11) (hv2 : kd v2 = 12) : sm_S κ (fun r : Bool => .inr (some (.int (bI r)))) (.inl (1712, [some (.ref b), some (xad κ v1), some (xad κ v2), some (.int v3)], [])) (fnL_law_J1712 sx Ln k18 v1 v2 v3) := by
  unfold fnL_law_J1712
  refine sr_aload_n (i := 1) (q := 1713) C (show decode cL_law 1712 = .ok (.aload_n 1, 1) from by decide +kernel) rfl rfl rfl ?_
  refine sr_aload_n (i := 0) (q := 1714) C (show decode cL_law 1713 = .ok (.aload_n 0, 1) from by decide +kernel) rfl rfl rfl ?_
  refine sr_iload_n (i := 3) (q := 1715) C (show decode cL_law 1714 = .ok (.iload_n 3, 1) from by decide +kernel) rfl rfl rfl ?_
  refine sr_iconst (v := (1 : Int32)) (q := 1716) C (show decode cL_law 1715 = .ok (.iconst 1, 1) from by decide +kernel) (by decide) rfl ?_
  refine sr_iadd (q := 1717) C (show decode cL_law 1716 = .ok (.iadd, 1) from by decide +kernel) rfl ?_
  refine sr_sld (q := 1718) C HX Hb HbA (show decode cL_law 1717 = .ok (.iaload, 1) from by decide +kernel) rfl ?_
  refine sr_aload_n (i := 0) (q := 1719) C (show decode cL_law 1718 = .ok (.aload_n 0, 1) from by decide +kernel) rfl rfl rfl ?_
  refine sr_iload_n (i := 3) (q := 1720) C (show decode cL_law 1719 = .ok (.iload_n 3, 1) from by decide +kernel) rfl rfl rfl ?_
  refine sr_iconst (v := (2 : Int32)) (q := 1721) C (show decode cL_law 1720 = .ok (.iconst 2, 1) from by decide +kernel) (by decide) rfl ?_
  refine sr_iadd (q := 1722) C (show decode cL_law 1721 = .ok (.iadd, 1) from by decide +kernel) rfl ?_
  refine sr_sld (q := 1723) C HX Hb HbA (show decode cL_law 1722 = .ok (.iaload, 1) from by decide +kernel) rfl ?_
  refine sr_aload_n (i := 0) (q := 1724) C (show decode cL_law 1723 = .ok (.aload_n 0, 1) from by decide +kernel) rfl rfl rfl ?_
  refine sr_iload_n (i := 3) (q := 1725) C (show decode cL_law 1724 = .ok (.iload_n 3, 1) from by decide +kernel) rfl rfl rfl ?_
  refine sr_iconst (v := (3 : Int32)) (q := 1726) C (show decode cL_law 1725 = .ok (.iconst 3, 1) from by decide +kernel) (by decide) rfl ?_
  refine sr_iadd (q := 1727) C (show decode cL_law 1726 = .ok (.iadd, 1) from by decide +kernel) rfl ?_
  refine sr_sld (q := 1728) C HX Hb HbA (show decode cL_law 1727 = .ok (.iaload, 1) from by decide +kernel) rfl ?_
  refine sr_aload_n (i := 0) (q := 1729) C (show decode cL_law 1728 = .ok (.aload_n 0, 1) from by decide +kernel) rfl rfl rfl ?_
  refine sr_iload_n (i := 3) (q := 1730) C (show decode cL_law 1729 = .ok (.iload_n 3, 1) from by decide +kernel) rfl rfl rfl ?_
  refine sr_iconst (v := (4 : Int32)) (q := 1731) C (show decode cL_law 1730 = .ok (.iconst 4, 1) from by decide +kernel) (by decide) rfl ?_
  refine sr_iadd (q := 1732) C (show decode cL_law 1731 = .ok (.iadd, 1) from by decide +kernel) rfl ?_
  refine sr_sld (q := 1733) C HX Hb HbA (show decode cL_law 1732 = .ok (.iaload, 1) from by decide +kernel) rfl ?_
  refine sr_cVi (As := [.int (sx (v3 + (1 : Int32)).toNatClampNeg), .int (sx (v3 + (2 : Int32)).toNatClampNeg), .int (sx (v3 + (3 : Int32)).toNatClampNeg), .int (sx (v3 + (4 : Int32)).toNatClampNeg)]) (st := []) (b := v1) (q := 1736) C yvX11_runs ml_L_198 (cnX11_runs (xo κ) v1 (sx (v3 + (1 : Int32)).toNatClampNeg) (sx (v3 + (2 : Int32)).toNatClampNeg) (sx (v3 + (3 : Int32)).toNatClampNeg) (sx (v3 + (4 : Int32)).toNatClampNeg) hv1) hv1 (by decide) rfl rfl rfl (by decide) (by decide) (Nat.le_of_ble_eq_true rfl) rfl (show decode cL_law 1733 = .ok (.invokevirtual 198, 3) from by decide +kernel) rfl (fun x1733 => ?_)
  refine sr_aload_n (i := 2) (q := 1737) C (show decode cL_law 1736 = .ok (.aload_n 2, 1) from by decide +kernel) rfl rfl rfl ?_
  refine sr_aload_n (i := 0) (q := 1738) C (show decode cL_law 1737 = .ok (.aload_n 0, 1) from by decide +kernel) rfl rfl rfl ?_
  refine sr_iload_n (i := 3) (q := 1739) C (show decode cL_law 1738 = .ok (.iload_n 3, 1) from by decide +kernel) rfl rfl rfl ?_
  refine sr_iconst (v := (1 : Int32)) (q := 1740) C (show decode cL_law 1739 = .ok (.iconst 1, 1) from by decide +kernel) (by decide) rfl ?_
  refine sr_iadd (q := 1741) C (show decode cL_law 1740 = .ok (.iadd, 1) from by decide +kernel) rfl ?_
  refine sr_sld (q := 1742) C HX Hb HbA (show decode cL_law 1741 = .ok (.iaload, 1) from by decide +kernel) rfl ?_
  refine sr_aload_n (i := 0) (q := 1743) C (show decode cL_law 1742 = .ok (.aload_n 0, 1) from by decide +kernel) rfl rfl rfl ?_
  refine sr_iload_n (i := 3) (q := 1744) C (show decode cL_law 1743 = .ok (.iload_n 3, 1) from by decide +kernel) rfl rfl rfl ?_
  refine sr_iconst (v := (2 : Int32)) (q := 1745) C (show decode cL_law 1744 = .ok (.iconst 2, 1) from by decide +kernel) (by decide) rfl ?_
  refine sr_iadd (q := 1746) C (show decode cL_law 1745 = .ok (.iadd, 1) from by decide +kernel) rfl ?_
  refine sr_sld (q := 1747) C HX Hb HbA (show decode cL_law 1746 = .ok (.iaload, 1) from by decide +kernel) rfl ?_
  refine sr_aload_n (i := 0) (q := 1748) C (show decode cL_law 1747 = .ok (.aload_n 0, 1) from by decide +kernel) rfl rfl rfl ?_
  refine sr_iload_n (i := 3) (q := 1749) C (show decode cL_law 1748 = .ok (.iload_n 3, 1) from by decide +kernel) rfl rfl rfl ?_
  refine sr_iconst (v := (3 : Int32)) (q := 1750) C (show decode cL_law 1749 = .ok (.iconst 3, 1) from by decide +kernel) (by decide) rfl ?_
  refine sr_iadd (q := 1751) C (show decode cL_law 1750 = .ok (.iadd, 1) from by decide +kernel) rfl ?_
  refine sr_sld (q := 1752) C HX Hb HbA (show decode cL_law 1751 = .ok (.iaload, 1) from by decide +kernel) rfl ?_
  refine sr_aload_n (i := 0) (q := 1753) C (show decode cL_law 1752 = .ok (.aload_n 0, 1) from by decide +kernel) rfl rfl rfl ?_
  refine sr_iload_n (i := 3) (q := 1754) C (show decode cL_law 1753 = .ok (.iload_n 3, 1) from by decide +kernel) rfl rfl rfl ?_
  refine sr_iconst (v := (4 : Int32)) (q := 1755) C (show decode cL_law 1754 = .ok (.iconst 4, 1) from by decide +kernel) (by decide) rfl ?_
  refine sr_iadd (q := 1756) C (show decode cL_law 1755 = .ok (.iadd, 1) from by decide +kernel) rfl ?_
  refine sr_sld (q := 1757) C HX Hb HbA (show decode cL_law 1756 = .ok (.iaload, 1) from by decide +kernel) rfl ?_
  refine sr_cVi (As := [.int (sx (v3 + (1 : Int32)).toNatClampNeg), .int (sx (v3 + (2 : Int32)).toNatClampNeg), .int (sx (v3 + (3 : Int32)).toNatClampNeg), .int (sx (v3 + (4 : Int32)).toNatClampNeg)]) (st := [.int x1733]) (b := v2) (q := 1760) C yvX12_runs ml_L_201 (cnX12_runs (xo κ) v2 (sx (v3 + (1 : Int32)).toNatClampNeg) (sx (v3 + (2 : Int32)).toNatClampNeg) (sx (v3 + (3 : Int32)).toNatClampNeg) (sx (v3 + (4 : Int32)).toNatClampNeg) hv2) hv2 (by decide) rfl rfl rfl (by decide) (by decide) (Nat.le_of_ble_eq_true rfl) rfl (show decode cL_law 1757 = .ok (.invokevirtual 201, 3) from by decide +kernel) rfl (fun x1757 => ?_)
  refine sr_icmp_eq (q := 1763) C 2013 (show decode cL_law 1760 = .ok (.if_icmp .eq 253, 3) from by decide +kernel) (by decide) rfl ?_ ?_
  · exact slL_law_J2013 C HX Hb HbA K18 v1 v2 v3 hv1 hv2
  · refine sr_iconst (v := (0 : Int32)) (q := 1764) C (show decode cL_law 1763 = .ok (.iconst 0, 1) from by decide +kernel) (by decide) rfl ?_
    exact sr_ireturn C false rfl (show decode cL_law 1764 = .ok (.ireturn, 1) from by decide +kernel)
def fnL_law_J1765 (sx : Nat → Int32) (Ln : Nat) (k18 : Nat → Nat → Int32 → sm_M Bool) (v1 : Nat) (v2 : Nat) (v3 : Int32) : sm_M Bool := m_gd (¬ ((v3 + (1 : Int32)) < 0 ∨ Ln ≤ (v3 + (1 : Int32)).toNatClampNeg)) <| m_bnd (fnX11_count v1 (sx (v3 + (1 : Int32)).toNatClampNeg)) fun x1771 => m_gd (¬ ((v3 + (1 : Int32)) < 0 ∨ Ln ≤ (v3 + (1 : Int32)).toNatClampNeg)) <| m_bnd (fnX12_count v2 (sx (v3 + (1 : Int32)).toNatClampNeg)) fun x1780 => m_br (x1771 = x1780)
    (fnL_law_J2013 sx Ln k18 v1 v2 v3)
    (m_ret false)
set_option maxHeartbeats 4000000 in
set_option maxRecDepth 100000 in
theorem slL_law_J1765 {κ : sm_X} (C : sm_C κ R_law cL_law 4 16) {sx : Nat → Int32} {Ln b : Nat} (HX : va_X b Ln sx (xs κ) (xs κ).heap) (Hb : b < (xs κ).heap.size) (HbA : ¬ sm_A (xo κ) b) {k18 : Nat → Nat → Int32 → sm_M Bool} (K18 : ∀ (v1 : Nat) (v2 : Nat) (v3 : Int32) (hv1 : kd v1 = 11) (hv2 : kd v2 = 12), sm_S κ (fun r : Bool => .inr (some (.int (bI r)))) (.inl (18, [some (.ref b), some (xad κ v1), some (xad κ v2), some (.int v3)], [])) (k18 v1 v2 v3)) (v1 : Nat) (v2 : Nat) (v3 : Int32) (hv1 : kd v1 = 11) (hv2 : kd v2 = 12) : sm_S κ (fun r : Bool => .inr (some (.int (bI r)))) (.inl (1765, [some (.ref b), some (xad κ v1), some (xad κ v2), some (.int v3)], [])) (fnL_law_J1765 sx Ln k18 v1 v2 v3) := by
  unfold fnL_law_J1765
  refine sr_aload_n (i := 1) (q := 1766) C (show decode cL_law 1765 = .ok (.aload_n 1, 1) from by decide +kernel) rfl rfl rfl ?_
  refine sr_aload_n (i := 0) (q := 1767) C (show decode cL_law 1766 = .ok (.aload_n 0, 1) from by decide +kernel) rfl rfl rfl ?_
  refine sr_iload_n (i := 3) (q := 1768) C (show decode cL_law 1767 = .ok (.iload_n 3, 1) from by decide +kernel) rfl rfl rfl ?_
  refine sr_iconst (v := (1 : Int32)) (q := 1769) C (show decode cL_law 1768 = .ok (.iconst 1, 1) from by decide +kernel) (by decide) rfl ?_
  refine sr_iadd (q := 1770) C (show decode cL_law 1769 = .ok (.iadd, 1) from by decide +kernel) rfl ?_
  refine sr_sld (q := 1771) C HX Hb HbA (show decode cL_law 1770 = .ok (.iaload, 1) from by decide +kernel) rfl ?_
  refine sr_cVi (As := [.int (sx (v3 + (1 : Int32)).toNatClampNeg)]) (st := []) (b := v1) (q := 1774) C yvX11_count ml_L_202 (cnX11_count (xo κ) v1 (sx (v3 + (1 : Int32)).toNatClampNeg) hv1) hv1 (by decide) rfl rfl rfl (by decide) (by decide) (Nat.le_of_ble_eq_true rfl) rfl (show decode cL_law 1771 = .ok (.invokevirtual 202, 3) from by decide +kernel) rfl (fun x1771 => ?_)
  refine sr_aload_n (i := 2) (q := 1775) C (show decode cL_law 1774 = .ok (.aload_n 2, 1) from by decide +kernel) rfl rfl rfl ?_
  refine sr_aload_n (i := 0) (q := 1776) C (show decode cL_law 1775 = .ok (.aload_n 0, 1) from by decide +kernel) rfl rfl rfl ?_
  refine sr_iload_n (i := 3) (q := 1777) C (show decode cL_law 1776 = .ok (.iload_n 3, 1) from by decide +kernel) rfl rfl rfl ?_
  refine sr_iconst (v := (1 : Int32)) (q := 1778) C (show decode cL_law 1777 = .ok (.iconst 1, 1) from by decide +kernel) (by decide) rfl ?_
  refine sr_iadd (q := 1779) C (show decode cL_law 1778 = .ok (.iadd, 1) from by decide +kernel) rfl ?_
  refine sr_sld (q := 1780) C HX Hb HbA (show decode cL_law 1779 = .ok (.iaload, 1) from by decide +kernel) rfl ?_
  refine sr_cVi (As := [.int (sx (v3 + (1 : Int32)).toNatClampNeg)]) (st := [.int x1771]) (b := v2) (q := 1783) C yvX12_count ml_L_205 (cnX12_count (xo κ) v2 (sx (v3 + (1 : Int32)).toNatClampNeg) hv2) hv2 (by decide) rfl rfl rfl (by decide) (by decide) (Nat.le_of_ble_eq_true rfl) rfl (show decode cL_law 1780 = .ok (.invokevirtual 205, 3) from by decide +kernel) rfl (fun x1780 => ?_)
  refine sr_icmp_eq (q := 1786) C 2013 (show decode cL_law 1783 = .ok (.if_icmp .eq 230, 3) from by decide +kernel) (by decide) rfl ?_ ?_
  · exact slL_law_J2013 C HX Hb HbA K18 v1 v2 v3 hv1 hv2
  · refine sr_iconst (v := (0 : Int32)) (q := 1787) C (show decode cL_law 1786 = .ok (.iconst 0, 1) from by decide +kernel) (by decide) rfl ?_
    exact sr_ireturn C false rfl (show decode cL_law 1787 = .ok (.ireturn, 1) from by decide +kernel)
def fnL_law_J1788 (sx : Nat → Int32) (Ln : Nat) (k18 : Nat → Nat → Int32 → sm_M Bool) (v1 : Nat) (v2 : Nat) (v3 : Int32) : sm_M Bool := m_gd (¬ ((v3 + (1 : Int32)) < 0 ∨ Ln ≤ (v3 + (1 : Int32)).toNatClampNeg)) <| m_bnd (fnX11_image v1 (sx (v3 + (1 : Int32)).toNatClampNeg)) fun x1794 => m_gd (¬ ((v3 + (1 : Int32)) < 0 ∨ Ln ≤ (v3 + (1 : Int32)).toNatClampNeg)) <| m_bnd (fnX12_image v2 (sx (v3 + (1 : Int32)).toNatClampNeg)) fun x1803 => m_br (x1794 = x1803)
    (fnL_law_J2013 sx Ln k18 v1 v2 v3)
    (m_ret false)
set_option maxHeartbeats 4000000 in
set_option maxRecDepth 100000 in
theorem slL_law_J1788 {κ : sm_X} (C : sm_C κ R_law cL_law 4 16) {sx : Nat → Int32} {Ln b : Nat} (HX : va_X b Ln sx (xs κ) (xs κ).heap) (Hb : b < (xs κ).heap.size) (HbA : ¬ sm_A (xo κ) b) {k18 : Nat → Nat → Int32 → sm_M Bool} (K18 : ∀ (v1 : Nat) (v2 : Nat) (v3 : Int32) (hv1 : kd v1 = 11) (hv2 : kd v2 = 12), sm_S κ (fun r : Bool => .inr (some (.int (bI r)))) (.inl (18, [some (.ref b), some (xad κ v1), some (xad κ v2), some (.int v3)], [])) (k18 v1 v2 v3)) (v1 : Nat) (v2 : Nat) (v3 : Int32) (hv1 : kd v1 = 11) (hv2 : kd v2 = 12) : sm_S κ (fun r : Bool => .inr (some (.int (bI r)))) (.inl (1788, [some (.ref b), some (xad κ v1), some (xad κ v2), some (.int v3)], [])) (fnL_law_J1788 sx Ln k18 v1 v2 v3) := by
  unfold fnL_law_J1788
  refine sr_aload_n (i := 1) (q := 1789) C (show decode cL_law 1788 = .ok (.aload_n 1, 1) from by decide +kernel) rfl rfl rfl ?_
  refine sr_aload_n (i := 0) (q := 1790) C (show decode cL_law 1789 = .ok (.aload_n 0, 1) from by decide +kernel) rfl rfl rfl ?_
  refine sr_iload_n (i := 3) (q := 1791) C (show decode cL_law 1790 = .ok (.iload_n 3, 1) from by decide +kernel) rfl rfl rfl ?_
  refine sr_iconst (v := (1 : Int32)) (q := 1792) C (show decode cL_law 1791 = .ok (.iconst 1, 1) from by decide +kernel) (by decide) rfl ?_
  refine sr_iadd (q := 1793) C (show decode cL_law 1792 = .ok (.iadd, 1) from by decide +kernel) rfl ?_
  refine sr_sld (q := 1794) C HX Hb HbA (show decode cL_law 1793 = .ok (.iaload, 1) from by decide +kernel) rfl ?_
  refine sr_cVi (As := [.int (sx (v3 + (1 : Int32)).toNatClampNeg)]) (st := []) (b := v1) (q := 1797) C yvX11_image ml_L_206 (cnX11_image (xo κ) v1 (sx (v3 + (1 : Int32)).toNatClampNeg) hv1) hv1 (by decide) rfl rfl rfl (by decide) (by decide) (Nat.le_of_ble_eq_true rfl) rfl (show decode cL_law 1794 = .ok (.invokevirtual 206, 3) from by decide +kernel) rfl (fun x1794 => ?_)
  refine sr_aload_n (i := 2) (q := 1798) C (show decode cL_law 1797 = .ok (.aload_n 2, 1) from by decide +kernel) rfl rfl rfl ?_
  refine sr_aload_n (i := 0) (q := 1799) C (show decode cL_law 1798 = .ok (.aload_n 0, 1) from by decide +kernel) rfl rfl rfl ?_
  refine sr_iload_n (i := 3) (q := 1800) C (show decode cL_law 1799 = .ok (.iload_n 3, 1) from by decide +kernel) rfl rfl rfl ?_
  refine sr_iconst (v := (1 : Int32)) (q := 1801) C (show decode cL_law 1800 = .ok (.iconst 1, 1) from by decide +kernel) (by decide) rfl ?_
  refine sr_iadd (q := 1802) C (show decode cL_law 1801 = .ok (.iadd, 1) from by decide +kernel) rfl ?_
  refine sr_sld (q := 1803) C HX Hb HbA (show decode cL_law 1802 = .ok (.iaload, 1) from by decide +kernel) rfl ?_
  refine sr_cVi (As := [.int (sx (v3 + (1 : Int32)).toNatClampNeg)]) (st := [.int x1794]) (b := v2) (q := 1806) C yvX12_image ml_L_209 (cnX12_image (xo κ) v2 (sx (v3 + (1 : Int32)).toNatClampNeg) hv2) hv2 (by decide) rfl rfl rfl (by decide) (by decide) (Nat.le_of_ble_eq_true rfl) rfl (show decode cL_law 1803 = .ok (.invokevirtual 209, 3) from by decide +kernel) rfl (fun x1803 => ?_)
  refine sr_icmp_eq (q := 1809) C 2013 (show decode cL_law 1806 = .ok (.if_icmp .eq 207, 3) from by decide +kernel) (by decide) rfl ?_ ?_
  · exact slL_law_J2013 C HX Hb HbA K18 v1 v2 v3 hv1 hv2
  · refine sr_iconst (v := (0 : Int32)) (q := 1810) C (show decode cL_law 1809 = .ok (.iconst 0, 1) from by decide +kernel) (by decide) rfl ?_
    exact sr_ireturn C false rfl (show decode cL_law 1810 = .ok (.ireturn, 1) from by decide +kernel)
def fnL_law_J1811 (sx : Nat → Int32) (Ln : Nat) (k18 : Nat → Nat → Int32 → sm_M Bool) (v1 : Nat) (v2 : Nat) (v3 : Int32) : sm_M Bool := m_gd (¬ ((v3 + (1 : Int32)) < 0 ∨ Ln ≤ (v3 + (1 : Int32)).toNatClampNeg)) <| m_bnd (fnX11_back v1 (sx (v3 + (1 : Int32)).toNatClampNeg)) fun x1817 => m_gd (¬ ((v3 + (1 : Int32)) < 0 ∨ Ln ≤ (v3 + (1 : Int32)).toNatClampNeg)) <| m_bnd (fnX12_back v2 (sx (v3 + (1 : Int32)).toNatClampNeg)) fun x1826 => m_br (x1817 = x1826)
    (fnL_law_J2013 sx Ln k18 v1 v2 v3)
    (m_ret false)
set_option maxHeartbeats 4000000 in
set_option maxRecDepth 100000 in
theorem slL_law_J1811 {κ : sm_X} (C : sm_C κ R_law cL_law 4 16) {sx : Nat → Int32} {Ln b : Nat} (HX : va_X b Ln sx (xs κ) (xs κ).heap) (Hb : b < (xs κ).heap.size) (HbA : ¬ sm_A (xo κ) b) {k18 : Nat → Nat → Int32 → sm_M Bool} (K18 : ∀ (v1 : Nat) (v2 : Nat) (v3 : Int32) (hv1 : kd v1 = 11) (hv2 : kd v2 = 12), sm_S κ (fun r : Bool => .inr (some (.int (bI r)))) (.inl (18, [some (.ref b), some (xad κ v1), some (xad κ v2), some (.int v3)], [])) (k18 v1 v2 v3)) (v1 : Nat) (v2 : Nat) (v3 : Int32) (hv1 : kd v1 = 11) (hv2 : kd v2 = 12) : sm_S κ (fun r : Bool => .inr (some (.int (bI r)))) (.inl (1811, [some (.ref b), some (xad κ v1), some (xad κ v2), some (.int v3)], [])) (fnL_law_J1811 sx Ln k18 v1 v2 v3) := by
  unfold fnL_law_J1811
  refine sr_aload_n (i := 1) (q := 1812) C (show decode cL_law 1811 = .ok (.aload_n 1, 1) from by decide +kernel) rfl rfl rfl ?_
  refine sr_aload_n (i := 0) (q := 1813) C (show decode cL_law 1812 = .ok (.aload_n 0, 1) from by decide +kernel) rfl rfl rfl ?_
  refine sr_iload_n (i := 3) (q := 1814) C (show decode cL_law 1813 = .ok (.iload_n 3, 1) from by decide +kernel) rfl rfl rfl ?_
  refine sr_iconst (v := (1 : Int32)) (q := 1815) C (show decode cL_law 1814 = .ok (.iconst 1, 1) from by decide +kernel) (by decide) rfl ?_
  refine sr_iadd (q := 1816) C (show decode cL_law 1815 = .ok (.iadd, 1) from by decide +kernel) rfl ?_
  refine sr_sld (q := 1817) C HX Hb HbA (show decode cL_law 1816 = .ok (.iaload, 1) from by decide +kernel) rfl ?_
  refine sr_cVi (As := [.int (sx (v3 + (1 : Int32)).toNatClampNeg)]) (st := []) (b := v1) (q := 1820) C yvX11_back ml_L_210 (cnX11_back (xo κ) v1 (sx (v3 + (1 : Int32)).toNatClampNeg) hv1) hv1 (by decide) rfl rfl rfl (by decide) (by decide) (Nat.le_of_ble_eq_true rfl) rfl (show decode cL_law 1817 = .ok (.invokevirtual 210, 3) from by decide +kernel) rfl (fun x1817 => ?_)
  refine sr_aload_n (i := 2) (q := 1821) C (show decode cL_law 1820 = .ok (.aload_n 2, 1) from by decide +kernel) rfl rfl rfl ?_
  refine sr_aload_n (i := 0) (q := 1822) C (show decode cL_law 1821 = .ok (.aload_n 0, 1) from by decide +kernel) rfl rfl rfl ?_
  refine sr_iload_n (i := 3) (q := 1823) C (show decode cL_law 1822 = .ok (.iload_n 3, 1) from by decide +kernel) rfl rfl rfl ?_
  refine sr_iconst (v := (1 : Int32)) (q := 1824) C (show decode cL_law 1823 = .ok (.iconst 1, 1) from by decide +kernel) (by decide) rfl ?_
  refine sr_iadd (q := 1825) C (show decode cL_law 1824 = .ok (.iadd, 1) from by decide +kernel) rfl ?_
  refine sr_sld (q := 1826) C HX Hb HbA (show decode cL_law 1825 = .ok (.iaload, 1) from by decide +kernel) rfl ?_
  refine sr_cVi (As := [.int (sx (v3 + (1 : Int32)).toNatClampNeg)]) (st := [.int x1817]) (b := v2) (q := 1829) C yvX12_back ml_L_213 (cnX12_back (xo κ) v2 (sx (v3 + (1 : Int32)).toNatClampNeg) hv2) hv2 (by decide) rfl rfl rfl (by decide) (by decide) (Nat.le_of_ble_eq_true rfl) rfl (show decode cL_law 1826 = .ok (.invokevirtual 213, 3) from by decide +kernel) rfl (fun x1826 => ?_)
  refine sr_icmp_eq (q := 1832) C 2013 (show decode cL_law 1829 = .ok (.if_icmp .eq 184, 3) from by decide +kernel) (by decide) rfl ?_ ?_
  · exact slL_law_J2013 C HX Hb HbA K18 v1 v2 v3 hv1 hv2
  · refine sr_iconst (v := (0 : Int32)) (q := 1833) C (show decode cL_law 1832 = .ok (.iconst 0, 1) from by decide +kernel) (by decide) rfl ?_
    exact sr_ireturn C false rfl (show decode cL_law 1833 = .ok (.ireturn, 1) from by decide +kernel)
def fnL_law_J1834 (sx : Nat → Int32) (Ln : Nat) (k18 : Nat → Nat → Int32 → sm_M Bool) (v1 : Nat) (v2 : Nat) (v3 : Int32) : sm_M Bool := m_gd (¬ ((v3 + (1 : Int32)) < 0 ∨ Ln ≤ (v3 + (1 : Int32)).toNatClampNeg)) <| m_gd (¬ ((v3 + (2 : Int32)) < 0 ∨ Ln ≤ (v3 + (2 : Int32)).toNatClampNeg)) <| m_gd (¬ ((v3 + (3 : Int32)) < 0 ∨ Ln ≤ (v3 + (3 : Int32)).toNatClampNeg)) <| m_bnd (fnX11_row v1 (sx (v3 + (1 : Int32)).toNatClampNeg) (sx (v3 + (2 : Int32)).toNatClampNeg) (sx (v3 + (3 : Int32)).toNatClampNeg)) fun x1850 => m_gd (¬ ((v3 + (1 : Int32)) < 0 ∨ Ln ≤ (v3 + (1 : Int32)).toNatClampNeg)) <| m_gd (¬ ((v3 + (2 : Int32)) < 0 ∨ Ln ≤ (v3 + (2 : Int32)).toNatClampNeg)) <| m_gd (¬ ((v3 + (3 : Int32)) < 0 ∨ Ln ≤ (v3 + (3 : Int32)).toNatClampNeg)) <| m_bnd (fnX12_row v2 (sx (v3 + (1 : Int32)).toNatClampNeg) (sx (v3 + (2 : Int32)).toNatClampNeg) (sx (v3 + (3 : Int32)).toNatClampNeg)) fun x1869 => m_br (x1850 = x1869)
    (fnL_law_J2013 sx Ln k18 v1 v2 v3)
    (m_ret false)
set_option maxHeartbeats 4000000 in
set_option maxRecDepth 100000 in
theorem slL_law_J1834 {κ : sm_X} (C : sm_C κ R_law cL_law 4 16) {sx : Nat → Int32} {Ln b : Nat} (HX : va_X b Ln sx (xs κ) (xs κ).heap) (Hb : b < (xs κ).heap.size) (HbA : ¬ sm_A (xo κ) b) {k18 : Nat → Nat → Int32 → sm_M Bool} (K18 : ∀ (v1 : Nat) (v2 : Nat) (v3 : Int32) (hv1 : kd v1 = 11) (hv2 : kd v2 = 12), sm_S κ (fun r : Bool => .inr (some (.int (bI r)))) (.inl (18, [some (.ref b), some (xad κ v1), some (xad κ v2), some (.int v3)], [])) (k18 v1 v2 v3)) (v1 : Nat) (v2 : Nat) (v3 : Int32) (hv1 : kd v1 = 11) (hv2 : kd v2 = 12) : sm_S κ (fun r : Bool => .inr (some (.int (bI r)))) (.inl (1834, [some (.ref b), some (xad κ v1), some (xad κ v2), some (.int v3)], [])) (fnL_law_J1834 sx Ln k18 v1 v2 v3) := by
  unfold fnL_law_J1834
  refine sr_aload_n (i := 1) (q := 1835) C (show decode cL_law 1834 = .ok (.aload_n 1, 1) from by decide +kernel) rfl rfl rfl ?_
  refine sr_aload_n (i := 0) (q := 1836) C (show decode cL_law 1835 = .ok (.aload_n 0, 1) from by decide +kernel) rfl rfl rfl ?_
  refine sr_iload_n (i := 3) (q := 1837) C (show decode cL_law 1836 = .ok (.iload_n 3, 1) from by decide +kernel) rfl rfl rfl ?_
  refine sr_iconst (v := (1 : Int32)) (q := 1838) C (show decode cL_law 1837 = .ok (.iconst 1, 1) from by decide +kernel) (by decide) rfl ?_
  refine sr_iadd (q := 1839) C (show decode cL_law 1838 = .ok (.iadd, 1) from by decide +kernel) rfl ?_
  refine sr_sld (q := 1840) C HX Hb HbA (show decode cL_law 1839 = .ok (.iaload, 1) from by decide +kernel) rfl ?_
  refine sr_aload_n (i := 0) (q := 1841) C (show decode cL_law 1840 = .ok (.aload_n 0, 1) from by decide +kernel) rfl rfl rfl ?_
  refine sr_iload_n (i := 3) (q := 1842) C (show decode cL_law 1841 = .ok (.iload_n 3, 1) from by decide +kernel) rfl rfl rfl ?_
  refine sr_iconst (v := (2 : Int32)) (q := 1843) C (show decode cL_law 1842 = .ok (.iconst 2, 1) from by decide +kernel) (by decide) rfl ?_
  refine sr_iadd (q := 1844) C (show decode cL_law 1843 = .ok (.iadd, 1) from by decide +kernel) rfl ?_
  refine sr_sld (q := 1845) C HX Hb HbA (show decode cL_law 1844 = .ok (.iaload, 1) from by decide +kernel) rfl ?_
  refine sr_aload_n (i := 0) (q := 1846) C (show decode cL_law 1845 = .ok (.aload_n 0, 1) from by decide +kernel) rfl rfl rfl ?_
  refine sr_iload_n (i := 3) (q := 1847) C (show decode cL_law 1846 = .ok (.iload_n 3, 1) from by decide +kernel) rfl rfl rfl ?_
  refine sr_iconst (v := (3 : Int32)) (q := 1848) C (show decode cL_law 1847 = .ok (.iconst 3, 1) from by decide +kernel) (by decide) rfl ?_
  refine sr_iadd (q := 1849) C (show decode cL_law 1848 = .ok (.iadd, 1) from by decide +kernel) rfl ?_
  refine sr_sld (q := 1850) C HX Hb HbA (show decode cL_law 1849 = .ok (.iaload, 1) from by decide +kernel) rfl ?_
  refine sr_cVi (As := [.int (sx (v3 + (1 : Int32)).toNatClampNeg), .int (sx (v3 + (2 : Int32)).toNatClampNeg), .int (sx (v3 + (3 : Int32)).toNatClampNeg)]) (st := []) (b := v1) (q := 1853) C yvX11_row ml_L_214 (cnX11_row (xo κ) v1 (sx (v3 + (1 : Int32)).toNatClampNeg) (sx (v3 + (2 : Int32)).toNatClampNeg) (sx (v3 + (3 : Int32)).toNatClampNeg) hv1) hv1 (by decide) rfl rfl rfl (by decide) (by decide) (Nat.le_of_ble_eq_true rfl) rfl (show decode cL_law 1850 = .ok (.invokevirtual 214, 3) from by decide +kernel) rfl (fun x1850 => ?_)
  refine sr_aload_n (i := 2) (q := 1854) C (show decode cL_law 1853 = .ok (.aload_n 2, 1) from by decide +kernel) rfl rfl rfl ?_
  refine sr_aload_n (i := 0) (q := 1855) C (show decode cL_law 1854 = .ok (.aload_n 0, 1) from by decide +kernel) rfl rfl rfl ?_
  refine sr_iload_n (i := 3) (q := 1856) C (show decode cL_law 1855 = .ok (.iload_n 3, 1) from by decide +kernel) rfl rfl rfl ?_
  refine sr_iconst (v := (1 : Int32)) (q := 1857) C (show decode cL_law 1856 = .ok (.iconst 1, 1) from by decide +kernel) (by decide) rfl ?_
  refine sr_iadd (q := 1858) C (show decode cL_law 1857 = .ok (.iadd, 1) from by decide +kernel) rfl ?_
  refine sr_sld (q := 1859) C HX Hb HbA (show decode cL_law 1858 = .ok (.iaload, 1) from by decide +kernel) rfl ?_
  refine sr_aload_n (i := 0) (q := 1860) C (show decode cL_law 1859 = .ok (.aload_n 0, 1) from by decide +kernel) rfl rfl rfl ?_
  refine sr_iload_n (i := 3) (q := 1861) C (show decode cL_law 1860 = .ok (.iload_n 3, 1) from by decide +kernel) rfl rfl rfl ?_
  refine sr_iconst (v := (2 : Int32)) (q := 1862) C (show decode cL_law 1861 = .ok (.iconst 2, 1) from by decide +kernel) (by decide) rfl ?_
  refine sr_iadd (q := 1863) C (show decode cL_law 1862 = .ok (.iadd, 1) from by decide +kernel) rfl ?_
  refine sr_sld (q := 1864) C HX Hb HbA (show decode cL_law 1863 = .ok (.iaload, 1) from by decide +kernel) rfl ?_
  refine sr_aload_n (i := 0) (q := 1865) C (show decode cL_law 1864 = .ok (.aload_n 0, 1) from by decide +kernel) rfl rfl rfl ?_
  refine sr_iload_n (i := 3) (q := 1866) C (show decode cL_law 1865 = .ok (.iload_n 3, 1) from by decide +kernel) rfl rfl rfl ?_
  refine sr_iconst (v := (3 : Int32)) (q := 1867) C (show decode cL_law 1866 = .ok (.iconst 3, 1) from by decide +kernel) (by decide) rfl ?_
  refine sr_iadd (q := 1868) C (show decode cL_law 1867 = .ok (.iadd, 1) from by decide +kernel) rfl ?_
  refine sr_sld (q := 1869) C HX Hb HbA (show decode cL_law 1868 = .ok (.iaload, 1) from by decide +kernel) rfl ?_
  refine sr_cVi (As := [.int (sx (v3 + (1 : Int32)).toNatClampNeg), .int (sx (v3 + (2 : Int32)).toNatClampNeg), .int (sx (v3 + (3 : Int32)).toNatClampNeg)]) (st := [.int x1850]) (b := v2) (q := 1872) C yvX12_row ml_L_217 (cnX12_row (xo κ) v2 (sx (v3 + (1 : Int32)).toNatClampNeg) (sx (v3 + (2 : Int32)).toNatClampNeg) (sx (v3 + (3 : Int32)).toNatClampNeg) hv2) hv2 (by decide) rfl rfl rfl (by decide) (by decide) (Nat.le_of_ble_eq_true rfl) rfl (show decode cL_law 1869 = .ok (.invokevirtual 217, 3) from by decide +kernel) rfl (fun x1869 => ?_)
  refine sr_icmp_eq (q := 1875) C 2013 (show decode cL_law 1872 = .ok (.if_icmp .eq 141, 3) from by decide +kernel) (by decide) rfl ?_ ?_
  · exact slL_law_J2013 C HX Hb HbA K18 v1 v2 v3 hv1 hv2
  · refine sr_iconst (v := (0 : Int32)) (q := 1876) C (show decode cL_law 1875 = .ok (.iconst 0, 1) from by decide +kernel) (by decide) rfl ?_
    exact sr_ireturn C false rfl (show decode cL_law 1876 = .ok (.ireturn, 1) from by decide +kernel)
def fnL_law_J1877 (sx : Nat → Int32) (Ln : Nat) (k18 : Nat → Nat → Int32 → sm_M Bool) (v1 : Nat) (v2 : Nat) (v3 : Int32) : sm_M Bool := m_gd (¬ ((v3 + (1 : Int32)) < 0 ∨ Ln ≤ (v3 + (1 : Int32)).toNatClampNeg)) <| m_gd (¬ ((v3 + (2 : Int32)) < 0 ∨ Ln ≤ (v3 + (2 : Int32)).toNatClampNeg)) <| m_gd (¬ ((v3 + (3 : Int32)) < 0 ∨ Ln ≤ (v3 + (3 : Int32)).toNatClampNeg)) <| m_gd (¬ ((v3 + (4 : Int32)) < 0 ∨ Ln ≤ (v3 + (4 : Int32)).toNatClampNeg)) <| m_bnd (fnX11_write v1 (sx (v3 + (1 : Int32)).toNatClampNeg) (sx (v3 + (2 : Int32)).toNatClampNeg) ((((sx (v3 + (3 : Int32)).toNatClampNeg).toInt64) <<< ((32 : Int32).toInt64 &&& 63)) ||| (((sx (v3 + (4 : Int32)).toNatClampNeg).toInt64) &&& (4294967295 : Int64)))) fun x1908 => m_gd (¬ ((v3 + (1 : Int32)) < 0 ∨ Ln ≤ (v3 + (1 : Int32)).toNatClampNeg)) <| m_gd (¬ ((v3 + (2 : Int32)) < 0 ∨ Ln ≤ (v3 + (2 : Int32)).toNatClampNeg)) <| m_gd (¬ ((v3 + (3 : Int32)) < 0 ∨ Ln ≤ (v3 + (3 : Int32)).toNatClampNeg)) <| m_gd (¬ ((v3 + (4 : Int32)) < 0 ∨ Ln ≤ (v3 + (4 : Int32)).toNatClampNeg)) <| m_bnd (fnX12_write v2 (sx (v3 + (1 : Int32)).toNatClampNeg) (sx (v3 + (2 : Int32)).toNatClampNeg) ((((sx (v3 + (3 : Int32)).toNatClampNeg).toInt64) <<< ((32 : Int32).toInt64 &&& 63)) ||| (((sx (v3 + (4 : Int32)).toNatClampNeg).toInt64) &&& (4294967295 : Int64)))) fun x1942 => m_br (x1908 = x1942)
    (fnL_law_J2013 sx Ln k18 v1 v2 v3)
    (m_ret false)
set_option maxHeartbeats 4000000 in
set_option maxRecDepth 100000 in
theorem slL_law_J1877 {κ : sm_X} (C : sm_C κ R_law cL_law 4 16) {sx : Nat → Int32} {Ln b : Nat} (HX : va_X b Ln sx (xs κ) (xs κ).heap) (Hb : b < (xs κ).heap.size) (HbA : ¬ sm_A (xo κ) b) {k18 : Nat → Nat → Int32 → sm_M Bool} (K18 : ∀ (v1 : Nat) (v2 : Nat) (v3 : Int32) (hv1 : kd v1 = 11) (hv2 : kd v2 = 12), sm_S κ (fun r : Bool => .inr (some (.int (bI r)))) (.inl (18, [some (.ref b), some (xad κ v1), some (xad κ v2), some (.int v3)], [])) (k18 v1 v2 v3)) (v1 : Nat) (v2 : Nat) (v3 : Int32) (hv1 : kd v1 = 11) (hv2 : kd v2 = 12) : sm_S κ (fun r : Bool => .inr (some (.int (bI r)))) (.inl (1877, [some (.ref b), some (xad κ v1), some (xad κ v2), some (.int v3)], [])) (fnL_law_J1877 sx Ln k18 v1 v2 v3) := by
  unfold fnL_law_J1877
  refine sr_aload_n (i := 1) (q := 1878) C (show decode cL_law 1877 = .ok (.aload_n 1, 1) from by decide +kernel) rfl rfl rfl ?_
  refine sr_aload_n (i := 0) (q := 1879) C (show decode cL_law 1878 = .ok (.aload_n 0, 1) from by decide +kernel) rfl rfl rfl ?_
  refine sr_iload_n (i := 3) (q := 1880) C (show decode cL_law 1879 = .ok (.iload_n 3, 1) from by decide +kernel) rfl rfl rfl ?_
  refine sr_iconst (v := (1 : Int32)) (q := 1881) C (show decode cL_law 1880 = .ok (.iconst 1, 1) from by decide +kernel) (by decide) rfl ?_
  refine sr_iadd (q := 1882) C (show decode cL_law 1881 = .ok (.iadd, 1) from by decide +kernel) rfl ?_
  refine sr_sld (q := 1883) C HX Hb HbA (show decode cL_law 1882 = .ok (.iaload, 1) from by decide +kernel) rfl ?_
  refine sr_aload_n (i := 0) (q := 1884) C (show decode cL_law 1883 = .ok (.aload_n 0, 1) from by decide +kernel) rfl rfl rfl ?_
  refine sr_iload_n (i := 3) (q := 1885) C (show decode cL_law 1884 = .ok (.iload_n 3, 1) from by decide +kernel) rfl rfl rfl ?_
  refine sr_iconst (v := (2 : Int32)) (q := 1886) C (show decode cL_law 1885 = .ok (.iconst 2, 1) from by decide +kernel) (by decide) rfl ?_
  refine sr_iadd (q := 1887) C (show decode cL_law 1886 = .ok (.iadd, 1) from by decide +kernel) rfl ?_
  refine sr_sld (q := 1888) C HX Hb HbA (show decode cL_law 1887 = .ok (.iaload, 1) from by decide +kernel) rfl ?_
  refine sr_aload_n (i := 0) (q := 1889) C (show decode cL_law 1888 = .ok (.aload_n 0, 1) from by decide +kernel) rfl rfl rfl ?_
  refine sr_iload_n (i := 3) (q := 1890) C (show decode cL_law 1889 = .ok (.iload_n 3, 1) from by decide +kernel) rfl rfl rfl ?_
  refine sr_iconst (v := (3 : Int32)) (q := 1891) C (show decode cL_law 1890 = .ok (.iconst 3, 1) from by decide +kernel) (by decide) rfl ?_
  refine sr_iadd (q := 1892) C (show decode cL_law 1891 = .ok (.iadd, 1) from by decide +kernel) rfl ?_
  refine sr_sld (q := 1893) C HX Hb HbA (show decode cL_law 1892 = .ok (.iaload, 1) from by decide +kernel) rfl ?_
  refine sr_i2l (q := 1894) C (show decode cL_law 1893 = .ok (.i2l, 1) from by decide +kernel) rfl ?_
  refine sr_bipush (v := (32 : Int32)) (q := 1896) C (show decode cL_law 1894 = .ok (.bipush 32, 2) from by decide +kernel) (by decide) rfl ?_
  refine sr_lshl (q := 1897) C (show decode cL_law 1896 = .ok (.lshl, 1) from by decide +kernel) rfl ?_
  refine sr_aload_n (i := 0) (q := 1898) C (show decode cL_law 1897 = .ok (.aload_n 0, 1) from by decide +kernel) rfl rfl rfl ?_
  refine sr_iload_n (i := 3) (q := 1899) C (show decode cL_law 1898 = .ok (.iload_n 3, 1) from by decide +kernel) rfl rfl rfl ?_
  refine sr_iconst (v := (4 : Int32)) (q := 1900) C (show decode cL_law 1899 = .ok (.iconst 4, 1) from by decide +kernel) (by decide) rfl ?_
  refine sr_iadd (q := 1901) C (show decode cL_law 1900 = .ok (.iadd, 1) from by decide +kernel) rfl ?_
  refine sr_sld (q := 1902) C HX Hb HbA (show decode cL_law 1901 = .ok (.iaload, 1) from by decide +kernel) rfl ?_
  refine sr_i2l (q := 1903) C (show decode cL_law 1902 = .ok (.i2l, 1) from by decide +kernel) rfl ?_
  refine sr_ldc2 (q := 1906) C co_L_218 (show decode cL_law 1903 = .ok (.ldc2_w 218, 3) from by decide +kernel) rfl ?_
  refine sr_land (q := 1907) C (show decode cL_law 1906 = .ok (.land, 1) from by decide +kernel) rfl ?_
  refine sr_lor (q := 1908) C (show decode cL_law 1907 = .ok (.lor, 1) from by decide +kernel) rfl ?_
  refine sr_cVi (As := [.int (sx (v3 + (1 : Int32)).toNatClampNeg), .int (sx (v3 + (2 : Int32)).toNatClampNeg), .long ((((sx (v3 + (3 : Int32)).toNatClampNeg).toInt64) <<< ((32 : Int32).toInt64 &&& 63)) ||| (((sx (v3 + (4 : Int32)).toNatClampNeg).toInt64) &&& (4294967295 : Int64)))]) (st := []) (b := v1) (q := 1911) C yvX11_write ml_L_220 (cnX11_write (xo κ) v1 (sx (v3 + (1 : Int32)).toNatClampNeg) (sx (v3 + (2 : Int32)).toNatClampNeg) ((((sx (v3 + (3 : Int32)).toNatClampNeg).toInt64) <<< ((32 : Int32).toInt64 &&& 63)) ||| (((sx (v3 + (4 : Int32)).toNatClampNeg).toInt64) &&& (4294967295 : Int64))) hv1) hv1 (by decide) rfl rfl rfl (by decide) (by decide) (Nat.le_of_ble_eq_true rfl) rfl (show decode cL_law 1908 = .ok (.invokevirtual 220, 3) from by decide +kernel) rfl (fun x1908 => ?_)
  refine sr_aload_n (i := 2) (q := 1912) C (show decode cL_law 1911 = .ok (.aload_n 2, 1) from by decide +kernel) rfl rfl rfl ?_
  refine sr_aload_n (i := 0) (q := 1913) C (show decode cL_law 1912 = .ok (.aload_n 0, 1) from by decide +kernel) rfl rfl rfl ?_
  refine sr_iload_n (i := 3) (q := 1914) C (show decode cL_law 1913 = .ok (.iload_n 3, 1) from by decide +kernel) rfl rfl rfl ?_
  refine sr_iconst (v := (1 : Int32)) (q := 1915) C (show decode cL_law 1914 = .ok (.iconst 1, 1) from by decide +kernel) (by decide) rfl ?_
  refine sr_iadd (q := 1916) C (show decode cL_law 1915 = .ok (.iadd, 1) from by decide +kernel) rfl ?_
  refine sr_sld (q := 1917) C HX Hb HbA (show decode cL_law 1916 = .ok (.iaload, 1) from by decide +kernel) rfl ?_
  refine sr_aload_n (i := 0) (q := 1918) C (show decode cL_law 1917 = .ok (.aload_n 0, 1) from by decide +kernel) rfl rfl rfl ?_
  refine sr_iload_n (i := 3) (q := 1919) C (show decode cL_law 1918 = .ok (.iload_n 3, 1) from by decide +kernel) rfl rfl rfl ?_
  refine sr_iconst (v := (2 : Int32)) (q := 1920) C (show decode cL_law 1919 = .ok (.iconst 2, 1) from by decide +kernel) (by decide) rfl ?_
  refine sr_iadd (q := 1921) C (show decode cL_law 1920 = .ok (.iadd, 1) from by decide +kernel) rfl ?_
  refine sr_sld (q := 1922) C HX Hb HbA (show decode cL_law 1921 = .ok (.iaload, 1) from by decide +kernel) rfl ?_
  refine sr_aload_n (i := 0) (q := 1923) C (show decode cL_law 1922 = .ok (.aload_n 0, 1) from by decide +kernel) rfl rfl rfl ?_
  refine sr_iload_n (i := 3) (q := 1924) C (show decode cL_law 1923 = .ok (.iload_n 3, 1) from by decide +kernel) rfl rfl rfl ?_
  refine sr_iconst (v := (3 : Int32)) (q := 1925) C (show decode cL_law 1924 = .ok (.iconst 3, 1) from by decide +kernel) (by decide) rfl ?_
  refine sr_iadd (q := 1926) C (show decode cL_law 1925 = .ok (.iadd, 1) from by decide +kernel) rfl ?_
  refine sr_sld (q := 1927) C HX Hb HbA (show decode cL_law 1926 = .ok (.iaload, 1) from by decide +kernel) rfl ?_
  refine sr_i2l (q := 1928) C (show decode cL_law 1927 = .ok (.i2l, 1) from by decide +kernel) rfl ?_
  refine sr_bipush (v := (32 : Int32)) (q := 1930) C (show decode cL_law 1928 = .ok (.bipush 32, 2) from by decide +kernel) (by decide) rfl ?_
  refine sr_lshl (q := 1931) C (show decode cL_law 1930 = .ok (.lshl, 1) from by decide +kernel) rfl ?_
  refine sr_aload_n (i := 0) (q := 1932) C (show decode cL_law 1931 = .ok (.aload_n 0, 1) from by decide +kernel) rfl rfl rfl ?_
  refine sr_iload_n (i := 3) (q := 1933) C (show decode cL_law 1932 = .ok (.iload_n 3, 1) from by decide +kernel) rfl rfl rfl ?_
  refine sr_iconst (v := (4 : Int32)) (q := 1934) C (show decode cL_law 1933 = .ok (.iconst 4, 1) from by decide +kernel) (by decide) rfl ?_
  refine sr_iadd (q := 1935) C (show decode cL_law 1934 = .ok (.iadd, 1) from by decide +kernel) rfl ?_
  refine sr_sld (q := 1936) C HX Hb HbA (show decode cL_law 1935 = .ok (.iaload, 1) from by decide +kernel) rfl ?_
  refine sr_i2l (q := 1937) C (show decode cL_law 1936 = .ok (.i2l, 1) from by decide +kernel) rfl ?_
  refine sr_ldc2 (q := 1940) C co_L_218 (show decode cL_law 1937 = .ok (.ldc2_w 218, 3) from by decide +kernel) rfl ?_
  refine sr_land (q := 1941) C (show decode cL_law 1940 = .ok (.land, 1) from by decide +kernel) rfl ?_
  refine sr_lor (q := 1942) C (show decode cL_law 1941 = .ok (.lor, 1) from by decide +kernel) rfl ?_
  refine sr_cVi (As := [.int (sx (v3 + (1 : Int32)).toNatClampNeg), .int (sx (v3 + (2 : Int32)).toNatClampNeg), .long ((((sx (v3 + (3 : Int32)).toNatClampNeg).toInt64) <<< ((32 : Int32).toInt64 &&& 63)) ||| (((sx (v3 + (4 : Int32)).toNatClampNeg).toInt64) &&& (4294967295 : Int64)))]) (st := [.int x1908]) (b := v2) (q := 1945) C yvX12_write ml_L_224 (cnX12_write (xo κ) v2 (sx (v3 + (1 : Int32)).toNatClampNeg) (sx (v3 + (2 : Int32)).toNatClampNeg) ((((sx (v3 + (3 : Int32)).toNatClampNeg).toInt64) <<< ((32 : Int32).toInt64 &&& 63)) ||| (((sx (v3 + (4 : Int32)).toNatClampNeg).toInt64) &&& (4294967295 : Int64))) hv2) hv2 (by decide) rfl rfl rfl (by decide) (by decide) (Nat.le_of_ble_eq_true rfl) rfl (show decode cL_law 1942 = .ok (.invokevirtual 224, 3) from by decide +kernel) rfl (fun x1942 => ?_)
  refine sr_icmp_eq (q := 1948) C 2013 (show decode cL_law 1945 = .ok (.if_icmp .eq 68, 3) from by decide +kernel) (by decide) rfl ?_ ?_
  · exact slL_law_J2013 C HX Hb HbA K18 v1 v2 v3 hv1 hv2
  · refine sr_iconst (v := (0 : Int32)) (q := 1949) C (show decode cL_law 1948 = .ok (.iconst 0, 1) from by decide +kernel) (by decide) rfl ?_
    exact sr_ireturn C false rfl (show decode cL_law 1949 = .ok (.ireturn, 1) from by decide +kernel)
def fnL_law_J1950 (sx : Nat → Int32) (Ln : Nat) (k18 : Nat → Nat → Int32 → sm_M Bool) (v1 : Nat) (v2 : Nat) (v3 : Int32) : sm_M Bool := m_gd (¬ ((v3 + (1 : Int32)) < 0 ∨ Ln ≤ (v3 + (1 : Int32)).toNatClampNeg)) <| m_gd (¬ ((v3 + (2 : Int32)) < 0 ∨ Ln ≤ (v3 + (2 : Int32)).toNatClampNeg)) <| m_gd (¬ ((v3 + (3 : Int32)) < 0 ∨ Ln ≤ (v3 + (3 : Int32)).toNatClampNeg)) <| m_gd (¬ ((v3 + (4 : Int32)) < 0 ∨ Ln ≤ (v3 + (4 : Int32)).toNatClampNeg)) <| m_gd (¬ ((v3 + (5 : Int32)) < 0 ∨ Ln ≤ (v3 + (5 : Int32)).toNatClampNeg)) <| m_bnd (fnX11_paste v1 (sx (v3 + (1 : Int32)).toNatClampNeg) (sx (v3 + (2 : Int32)).toNatClampNeg) (sx (v3 + (3 : Int32)).toNatClampNeg) (sx (v3 + (4 : Int32)).toNatClampNeg) (sx (v3 + (5 : Int32)).toNatClampNeg)) fun x1976 => m_gd (¬ ((v3 + (1 : Int32)) < 0 ∨ Ln ≤ (v3 + (1 : Int32)).toNatClampNeg)) <| m_gd (¬ ((v3 + (2 : Int32)) < 0 ∨ Ln ≤ (v3 + (2 : Int32)).toNatClampNeg)) <| m_gd (¬ ((v3 + (3 : Int32)) < 0 ∨ Ln ≤ (v3 + (3 : Int32)).toNatClampNeg)) <| m_gd (¬ ((v3 + (4 : Int32)) < 0 ∨ Ln ≤ (v3 + (4 : Int32)).toNatClampNeg)) <| m_gd (¬ ((v3 + (5 : Int32)) < 0 ∨ Ln ≤ (v3 + (5 : Int32)).toNatClampNeg)) <| m_bnd (fnX12_paste v2 (sx (v3 + (1 : Int32)).toNatClampNeg) (sx (v3 + (2 : Int32)).toNatClampNeg) (sx (v3 + (3 : Int32)).toNatClampNeg) (sx (v3 + (4 : Int32)).toNatClampNeg) (sx (v3 + (5 : Int32)).toNatClampNeg)) fun x2005 => m_br (x1976 = x2005)
    (fnL_law_J2013 sx Ln k18 v1 v2 v3)
    (m_ret false)
set_option maxHeartbeats 4000000 in
set_option maxRecDepth 100000 in
theorem slL_law_J1950 {κ : sm_X} (C : sm_C κ R_law cL_law 4 16) {sx : Nat → Int32} {Ln b : Nat} (HX : va_X b Ln sx (xs κ) (xs κ).heap) (Hb : b < (xs κ).heap.size) (HbA : ¬ sm_A (xo κ) b) {k18 : Nat → Nat → Int32 → sm_M Bool} (K18 : ∀ (v1 : Nat) (v2 : Nat) (v3 : Int32) (hv1 : kd v1 = 11) (hv2 : kd v2 = 12), sm_S κ (fun r : Bool => .inr (some (.int (bI r)))) (.inl (18, [some (.ref b), some (xad κ v1), some (xad κ v2), some (.int v3)], [])) (k18 v1 v2 v3)) (v1 : Nat) (v2 : Nat) (v3 : Int32) (hv1 : kd v1 = 11) (hv2 : kd v2 = 12) : sm_S κ (fun r : Bool => .inr (some (.int (bI r)))) (.inl (1950, [some (.ref b), some (xad κ v1), some (xad κ v2), some (.int v3)], [])) (fnL_law_J1950 sx Ln k18 v1 v2 v3) := by
  unfold fnL_law_J1950
  refine sr_aload_n (i := 1) (q := 1951) C (show decode cL_law 1950 = .ok (.aload_n 1, 1) from by decide +kernel) rfl rfl rfl ?_
  refine sr_aload_n (i := 0) (q := 1952) C (show decode cL_law 1951 = .ok (.aload_n 0, 1) from by decide +kernel) rfl rfl rfl ?_
  refine sr_iload_n (i := 3) (q := 1953) C (show decode cL_law 1952 = .ok (.iload_n 3, 1) from by decide +kernel) rfl rfl rfl ?_
  refine sr_iconst (v := (1 : Int32)) (q := 1954) C (show decode cL_law 1953 = .ok (.iconst 1, 1) from by decide +kernel) (by decide) rfl ?_
  refine sr_iadd (q := 1955) C (show decode cL_law 1954 = .ok (.iadd, 1) from by decide +kernel) rfl ?_
  refine sr_sld (q := 1956) C HX Hb HbA (show decode cL_law 1955 = .ok (.iaload, 1) from by decide +kernel) rfl ?_
  refine sr_aload_n (i := 0) (q := 1957) C (show decode cL_law 1956 = .ok (.aload_n 0, 1) from by decide +kernel) rfl rfl rfl ?_
  refine sr_iload_n (i := 3) (q := 1958) C (show decode cL_law 1957 = .ok (.iload_n 3, 1) from by decide +kernel) rfl rfl rfl ?_
  refine sr_iconst (v := (2 : Int32)) (q := 1959) C (show decode cL_law 1958 = .ok (.iconst 2, 1) from by decide +kernel) (by decide) rfl ?_
  refine sr_iadd (q := 1960) C (show decode cL_law 1959 = .ok (.iadd, 1) from by decide +kernel) rfl ?_
  refine sr_sld (q := 1961) C HX Hb HbA (show decode cL_law 1960 = .ok (.iaload, 1) from by decide +kernel) rfl ?_
  refine sr_aload_n (i := 0) (q := 1962) C (show decode cL_law 1961 = .ok (.aload_n 0, 1) from by decide +kernel) rfl rfl rfl ?_
  refine sr_iload_n (i := 3) (q := 1963) C (show decode cL_law 1962 = .ok (.iload_n 3, 1) from by decide +kernel) rfl rfl rfl ?_
  refine sr_iconst (v := (3 : Int32)) (q := 1964) C (show decode cL_law 1963 = .ok (.iconst 3, 1) from by decide +kernel) (by decide) rfl ?_
  refine sr_iadd (q := 1965) C (show decode cL_law 1964 = .ok (.iadd, 1) from by decide +kernel) rfl ?_
  refine sr_sld (q := 1966) C HX Hb HbA (show decode cL_law 1965 = .ok (.iaload, 1) from by decide +kernel) rfl ?_
  refine sr_aload_n (i := 0) (q := 1967) C (show decode cL_law 1966 = .ok (.aload_n 0, 1) from by decide +kernel) rfl rfl rfl ?_
  refine sr_iload_n (i := 3) (q := 1968) C (show decode cL_law 1967 = .ok (.iload_n 3, 1) from by decide +kernel) rfl rfl rfl ?_
  refine sr_iconst (v := (4 : Int32)) (q := 1969) C (show decode cL_law 1968 = .ok (.iconst 4, 1) from by decide +kernel) (by decide) rfl ?_
  refine sr_iadd (q := 1970) C (show decode cL_law 1969 = .ok (.iadd, 1) from by decide +kernel) rfl ?_
  refine sr_sld (q := 1971) C HX Hb HbA (show decode cL_law 1970 = .ok (.iaload, 1) from by decide +kernel) rfl ?_
  refine sr_aload_n (i := 0) (q := 1972) C (show decode cL_law 1971 = .ok (.aload_n 0, 1) from by decide +kernel) rfl rfl rfl ?_
  refine sr_iload_n (i := 3) (q := 1973) C (show decode cL_law 1972 = .ok (.iload_n 3, 1) from by decide +kernel) rfl rfl rfl ?_
  refine sr_iconst (v := (5 : Int32)) (q := 1974) C (show decode cL_law 1973 = .ok (.iconst 5, 1) from by decide +kernel) (by decide) rfl ?_
  refine sr_iadd (q := 1975) C (show decode cL_law 1974 = .ok (.iadd, 1) from by decide +kernel) rfl ?_
  refine sr_sld (q := 1976) C HX Hb HbA (show decode cL_law 1975 = .ok (.iaload, 1) from by decide +kernel) rfl ?_
  refine sr_cVi (As := [.int (sx (v3 + (1 : Int32)).toNatClampNeg), .int (sx (v3 + (2 : Int32)).toNatClampNeg), .int (sx (v3 + (3 : Int32)).toNatClampNeg), .int (sx (v3 + (4 : Int32)).toNatClampNeg), .int (sx (v3 + (5 : Int32)).toNatClampNeg)]) (st := []) (b := v1) (q := 1979) C yvX11_paste ml_L_225 (cnX11_paste (xo κ) v1 (sx (v3 + (1 : Int32)).toNatClampNeg) (sx (v3 + (2 : Int32)).toNatClampNeg) (sx (v3 + (3 : Int32)).toNatClampNeg) (sx (v3 + (4 : Int32)).toNatClampNeg) (sx (v3 + (5 : Int32)).toNatClampNeg) hv1) hv1 (by decide) rfl rfl rfl (by decide) (by decide) (Nat.le_of_ble_eq_true rfl) rfl (show decode cL_law 1976 = .ok (.invokevirtual 225, 3) from by decide +kernel) rfl (fun x1976 => ?_)
  refine sr_aload_n (i := 2) (q := 1980) C (show decode cL_law 1979 = .ok (.aload_n 2, 1) from by decide +kernel) rfl rfl rfl ?_
  refine sr_aload_n (i := 0) (q := 1981) C (show decode cL_law 1980 = .ok (.aload_n 0, 1) from by decide +kernel) rfl rfl rfl ?_
  refine sr_iload_n (i := 3) (q := 1982) C (show decode cL_law 1981 = .ok (.iload_n 3, 1) from by decide +kernel) rfl rfl rfl ?_
  refine sr_iconst (v := (1 : Int32)) (q := 1983) C (show decode cL_law 1982 = .ok (.iconst 1, 1) from by decide +kernel) (by decide) rfl ?_
  refine sr_iadd (q := 1984) C (show decode cL_law 1983 = .ok (.iadd, 1) from by decide +kernel) rfl ?_
  refine sr_sld (q := 1985) C HX Hb HbA (show decode cL_law 1984 = .ok (.iaload, 1) from by decide +kernel) rfl ?_
  refine sr_aload_n (i := 0) (q := 1986) C (show decode cL_law 1985 = .ok (.aload_n 0, 1) from by decide +kernel) rfl rfl rfl ?_
  refine sr_iload_n (i := 3) (q := 1987) C (show decode cL_law 1986 = .ok (.iload_n 3, 1) from by decide +kernel) rfl rfl rfl ?_
  refine sr_iconst (v := (2 : Int32)) (q := 1988) C (show decode cL_law 1987 = .ok (.iconst 2, 1) from by decide +kernel) (by decide) rfl ?_
  refine sr_iadd (q := 1989) C (show decode cL_law 1988 = .ok (.iadd, 1) from by decide +kernel) rfl ?_
  refine sr_sld (q := 1990) C HX Hb HbA (show decode cL_law 1989 = .ok (.iaload, 1) from by decide +kernel) rfl ?_
  refine sr_aload_n (i := 0) (q := 1991) C (show decode cL_law 1990 = .ok (.aload_n 0, 1) from by decide +kernel) rfl rfl rfl ?_
  refine sr_iload_n (i := 3) (q := 1992) C (show decode cL_law 1991 = .ok (.iload_n 3, 1) from by decide +kernel) rfl rfl rfl ?_
  refine sr_iconst (v := (3 : Int32)) (q := 1993) C (show decode cL_law 1992 = .ok (.iconst 3, 1) from by decide +kernel) (by decide) rfl ?_
  refine sr_iadd (q := 1994) C (show decode cL_law 1993 = .ok (.iadd, 1) from by decide +kernel) rfl ?_
  refine sr_sld (q := 1995) C HX Hb HbA (show decode cL_law 1994 = .ok (.iaload, 1) from by decide +kernel) rfl ?_
  refine sr_aload_n (i := 0) (q := 1996) C (show decode cL_law 1995 = .ok (.aload_n 0, 1) from by decide +kernel) rfl rfl rfl ?_
  refine sr_iload_n (i := 3) (q := 1997) C (show decode cL_law 1996 = .ok (.iload_n 3, 1) from by decide +kernel) rfl rfl rfl ?_
  refine sr_iconst (v := (4 : Int32)) (q := 1998) C (show decode cL_law 1997 = .ok (.iconst 4, 1) from by decide +kernel) (by decide) rfl ?_
  refine sr_iadd (q := 1999) C (show decode cL_law 1998 = .ok (.iadd, 1) from by decide +kernel) rfl ?_
  refine sr_sld (q := 2000) C HX Hb HbA (show decode cL_law 1999 = .ok (.iaload, 1) from by decide +kernel) rfl ?_
  refine sr_aload_n (i := 0) (q := 2001) C (show decode cL_law 2000 = .ok (.aload_n 0, 1) from by decide +kernel) rfl rfl rfl ?_
  refine sr_iload_n (i := 3) (q := 2002) C (show decode cL_law 2001 = .ok (.iload_n 3, 1) from by decide +kernel) rfl rfl rfl ?_
  refine sr_iconst (v := (5 : Int32)) (q := 2003) C (show decode cL_law 2002 = .ok (.iconst 5, 1) from by decide +kernel) (by decide) rfl ?_
  refine sr_iadd (q := 2004) C (show decode cL_law 2003 = .ok (.iadd, 1) from by decide +kernel) rfl ?_
  refine sr_sld (q := 2005) C HX Hb HbA (show decode cL_law 2004 = .ok (.iaload, 1) from by decide +kernel) rfl ?_
  refine sr_cVi (As := [.int (sx (v3 + (1 : Int32)).toNatClampNeg), .int (sx (v3 + (2 : Int32)).toNatClampNeg), .int (sx (v3 + (3 : Int32)).toNatClampNeg), .int (sx (v3 + (4 : Int32)).toNatClampNeg), .int (sx (v3 + (5 : Int32)).toNatClampNeg)]) (st := [.int x1976]) (b := v2) (q := 2008) C yvX12_paste ml_L_228 (cnX12_paste (xo κ) v2 (sx (v3 + (1 : Int32)).toNatClampNeg) (sx (v3 + (2 : Int32)).toNatClampNeg) (sx (v3 + (3 : Int32)).toNatClampNeg) (sx (v3 + (4 : Int32)).toNatClampNeg) (sx (v3 + (5 : Int32)).toNatClampNeg) hv2) hv2 (by decide) rfl rfl rfl (by decide) (by decide) (Nat.le_of_ble_eq_true rfl) rfl (show decode cL_law 2005 = .ok (.invokevirtual 228, 3) from by decide +kernel) rfl (fun x2005 => ?_)
  refine sr_icmp_eq (q := 2011) C 2013 (show decode cL_law 2008 = .ok (.if_icmp .eq 5, 3) from by decide +kernel) (by decide) rfl ?_ ?_
  · exact slL_law_J2013 C HX Hb HbA K18 v1 v2 v3 hv1 hv2
  · refine sr_iconst (v := (0 : Int32)) (q := 2012) C (show decode cL_law 2011 = .ok (.iconst 0, 1) from by decide +kernel) (by decide) rfl ?_
    exact sr_ireturn C false rfl (show decode cL_law 2012 = .ok (.ireturn, 1) from by decide +kernel)
def fnL_law_L18 (sx : Nat → Int32) (Ln : Nat) : Nat → Nat → Nat → Int32 → sm_M Bool
  | 0, _, _, _ => m_fail
  | n + 1, v1, v2, v3 => m_br (((nI Ln) - (6 : Int32)) < v3)
    (m_ret true)
    (m_gd (¬ (v3 < 0 ∨ Ln ≤ v3.toNatClampNeg)) <| m_nm ((sx v3.toNatClampNeg) &&& (63 : Int32)) fun y33 => m_br (y33 = (0 : Int32))
    (fnL_law_J252 sx Ln (fnL_law_L18 sx Ln n) v1 v2 v3)
    (m_br (y33 = (1 : Int32))
    (fnL_law_J315 sx Ln (fnL_law_L18 sx Ln n) v1 v2 v3)
    (m_br (y33 = (2 : Int32))
    (fnL_law_J338 sx Ln (fnL_law_L18 sx Ln n) v1 v2 v3)
    (m_br (y33 = (3 : Int32))
    (fnL_law_J351 sx Ln (fnL_law_L18 sx Ln n) v1 v2 v3)
    (m_br (y33 = (4 : Int32))
    (fnL_law_J374 sx Ln (fnL_law_L18 sx Ln n) v1 v2 v3)
    (m_br (y33 = (5 : Int32))
    (fnL_law_J407 sx Ln (fnL_law_L18 sx Ln n) v1 v2 v3)
    (m_br (y33 = (6 : Int32))
    (fnL_law_J440 sx Ln (fnL_law_L18 sx Ln n) v1 v2 v3)
    (m_br (y33 = (7 : Int32))
    (fnL_law_J483 sx Ln (fnL_law_L18 sx Ln n) v1 v2 v3)
    (m_br (y33 = (8 : Int32))
    (fnL_law_J506 sx Ln (fnL_law_L18 sx Ln n) v1 v2 v3)
    (m_br (y33 = (9 : Int32))
    (fnL_law_J529 sx Ln (fnL_law_L18 sx Ln n) v1 v2 v3)
    (m_br (y33 = (10 : Int32))
    (fnL_law_J542 sx Ln (fnL_law_L18 sx Ln n) v1 v2 v3)
    (m_br (y33 = (11 : Int32))
    (fnL_law_J585 sx Ln (fnL_law_L18 sx Ln n) v1 v2 v3)
    (m_br (y33 = (12 : Int32))
    (fnL_law_J638 sx Ln (fnL_law_L18 sx Ln n) v1 v2 v3)
    (m_br (y33 = (13 : Int32))
    (fnL_law_J671 sx Ln (fnL_law_L18 sx Ln n) v1 v2 v3)
    (m_br (y33 = (14 : Int32))
    (fnL_law_J694 sx Ln (fnL_law_L18 sx Ln n) v1 v2 v3)
    (m_br (y33 = (15 : Int32))
    (fnL_law_J727 sx Ln (fnL_law_L18 sx Ln n) v1 v2 v3)
    (m_br (y33 = (16 : Int32))
    (fnL_law_J760 sx Ln (fnL_law_L18 sx Ln n) v1 v2 v3)
    (m_br (y33 = (17 : Int32))
    (fnL_law_J793 sx Ln (fnL_law_L18 sx Ln n) v1 v2 v3)
    (m_br (y33 = (18 : Int32))
    (fnL_law_J816 sx Ln (fnL_law_L18 sx Ln n) v1 v2 v3)
    (m_br (y33 = (19 : Int32))
    (fnL_law_J849 sx Ln (fnL_law_L18 sx Ln n) v1 v2 v3)
    (m_br (y33 = (20 : Int32))
    (fnL_law_J872 sx Ln (fnL_law_L18 sx Ln n) v1 v2 v3)
    (m_br (y33 = (21 : Int32))
    (fnL_law_J895 sx Ln (fnL_law_L18 sx Ln n) v1 v2 v3)
    (m_br (y33 = (22 : Int32))
    (fnL_law_J918 sx Ln (fnL_law_L18 sx Ln n) v1 v2 v3)
    (m_br (y33 = (23 : Int32))
    (fnL_law_J931 sx Ln (fnL_law_L18 sx Ln n) v1 v2 v3)
    (m_br (y33 = (24 : Int32))
    (fnL_law_J964 sx Ln (fnL_law_L18 sx Ln n) v1 v2 v3)
    (m_br (y33 = (25 : Int32))
    (fnL_law_J997 sx Ln (fnL_law_L18 sx Ln n) v1 v2 v3)
    (m_br (y33 = (26 : Int32))
    (fnL_law_J1040 sx Ln (fnL_law_L18 sx Ln n) v1 v2 v3)
    (m_br (y33 = (27 : Int32))
    (fnL_law_J1083 sx Ln (fnL_law_L18 sx Ln n) v1 v2 v3)
    (m_br (y33 = (28 : Int32))
    (fnL_law_J1136 sx Ln (fnL_law_L18 sx Ln n) v1 v2 v3)
    (m_br (y33 = (29 : Int32))
    (fnL_law_J1169 sx Ln (fnL_law_L18 sx Ln n) v1 v2 v3)
    (m_br (y33 = (30 : Int32))
    (fnL_law_J1212 sx Ln (fnL_law_L18 sx Ln n) v1 v2 v3)
    (m_br (y33 = (31 : Int32))
    (fnL_law_J1245 sx Ln (fnL_law_L18 sx Ln n) v1 v2 v3)
    (m_br (y33 = (32 : Int32))
    (fnL_law_J1288 sx Ln (fnL_law_L18 sx Ln n) v1 v2 v3)
    (m_br (y33 = (33 : Int32))
    (fnL_law_J1311 sx Ln (fnL_law_L18 sx Ln n) v1 v2 v3)
    (m_br (y33 = (34 : Int32))
    (fnL_law_J1360 sx Ln (fnL_law_L18 sx Ln n) v1 v2 v3)
    (m_br (y33 = (35 : Int32))
    (fnL_law_J1394 sx Ln (fnL_law_L18 sx Ln n) v1 v2 v3)
    (m_br (y33 = (36 : Int32))
    (fnL_law_J1438 sx Ln (fnL_law_L18 sx Ln n) v1 v2 v3)
    (m_br (y33 = (37 : Int32))
    (fnL_law_J1471 sx Ln (fnL_law_L18 sx Ln n) v1 v2 v3)
    (m_br (y33 = (38 : Int32))
    (fnL_law_J1514 sx Ln (fnL_law_L18 sx Ln n) v1 v2 v3)
    (m_br (y33 = (39 : Int32))
    (fnL_law_J1547 sx Ln (fnL_law_L18 sx Ln n) v1 v2 v3)
    (m_br (y33 = (40 : Int32))
    (fnL_law_J1580 sx Ln (fnL_law_L18 sx Ln n) v1 v2 v3)
    (m_br (y33 = (41 : Int32))
    (fnL_law_J1613 sx Ln (fnL_law_L18 sx Ln n) v1 v2 v3)
    (m_br (y33 = (42 : Int32))
    (fnL_law_J1646 sx Ln (fnL_law_L18 sx Ln n) v1 v2 v3)
    (m_br (y33 = (43 : Int32))
    (fnL_law_J1679 sx Ln (fnL_law_L18 sx Ln n) v1 v2 v3)
    (m_br (y33 = (44 : Int32))
    (fnL_law_J1712 sx Ln (fnL_law_L18 sx Ln n) v1 v2 v3)
    (m_br (y33 = (45 : Int32))
    (fnL_law_J1765 sx Ln (fnL_law_L18 sx Ln n) v1 v2 v3)
    (m_br (y33 = (46 : Int32))
    (fnL_law_J1788 sx Ln (fnL_law_L18 sx Ln n) v1 v2 v3)
    (m_br (y33 = (47 : Int32))
    (fnL_law_J1811 sx Ln (fnL_law_L18 sx Ln n) v1 v2 v3)
    (m_br (y33 = (48 : Int32))
    (fnL_law_J1834 sx Ln (fnL_law_L18 sx Ln n) v1 v2 v3)
    (m_br (y33 = (49 : Int32))
    (fnL_law_J1877 sx Ln (fnL_law_L18 sx Ln n) v1 v2 v3)
    (m_br (y33 = (50 : Int32))
    (fnL_law_J1950 sx Ln (fnL_law_L18 sx Ln n) v1 v2 v3)
    (fnL_law_J2013 sx Ln (fnL_law_L18 sx Ln n) v1 v2 v3))))))))))))))))))))))))))))))))))))))))))))))))))))
set_option maxHeartbeats 4000000 in
set_option maxRecDepth 100000 in
theorem slL_law_L18 {κ : sm_X} (C : sm_C κ R_law cL_law 4 16) {sx : Nat → Int32} {Ln b : Nat} (HX : va_X b Ln sx (xs κ) (xs κ).heap) (Hb : b < (xs κ).heap.size) (HbA : ¬ sm_A (xo κ) b) : ∀ (n : Nat) (v1 : Nat) (v2 : Nat) (v3 : Int32) (hv1 : kd v1 = 11) (hv2 : kd v2 = 12), sm_S κ (fun r : Bool => .inr (some (.int (bI r)))) (.inl (18, [some (.ref b), some (xad κ v1), some (xad κ v2), some (.int v3)], [])) (fnL_law_L18 sx Ln n v1 v2 v3) := by
  intro n
  induction n with
  | zero =>
    intros
    exact sr_fail
  | succ n K18 =>
    intro v1 v2 v3 hv1 hv2
    unfold fnL_law_L18
    refine sr_iload_n (i := 3) (q := 19) C (show decode cL_law 18 = .ok (.iload_n 3, 1) from by decide +kernel) rfl rfl rfl ?_
    refine sr_aload_n (i := 0) (q := 20) C (show decode cL_law 19 = .ok (.aload_n 0, 1) from by decide +kernel) rfl rfl rfl ?_
    refine sr_slen (q := 21) C HX Hb HbA (show decode cL_law 20 = .ok (.arraylength, 1) from by decide +kernel) rfl ?_
    refine sr_bipush (v := (6 : Int32)) (q := 23) C (show decode cL_law 21 = .ok (.bipush 6, 2) from by decide +kernel) (by decide) rfl ?_
    refine sr_isub (q := 24) C (show decode cL_law 23 = .ok (.isub, 1) from by decide +kernel) rfl ?_
    refine sr_icmp_gt (q := 27) C 2019 (show decode cL_law 24 = .ok (.if_icmp .gt 1995, 3) from by decide +kernel) (by decide) rfl ?_ ?_
    · refine sr_iconst (v := (1 : Int32)) (q := 2020) C (show decode cL_law 2019 = .ok (.iconst 1, 1) from by decide +kernel) (by decide) rfl ?_
      exact sr_ireturn C true rfl (show decode cL_law 2020 = .ok (.ireturn, 1) from by decide +kernel)
    · refine sr_aload_n (i := 0) (q := 28) C (show decode cL_law 27 = .ok (.aload_n 0, 1) from by decide +kernel) rfl rfl rfl ?_
      refine sr_iload_n (i := 3) (q := 29) C (show decode cL_law 28 = .ok (.iload_n 3, 1) from by decide +kernel) rfl rfl rfl ?_
      refine sr_sld (q := 30) C HX Hb HbA (show decode cL_law 29 = .ok (.iaload, 1) from by decide +kernel) rfl ?_
      refine sr_bipush (v := (63 : Int32)) (q := 32) C (show decode cL_law 30 = .ok (.bipush 63, 2) from by decide +kernel) (by decide) rfl ?_
      refine sr_iand (q := 33) C (show decode cL_law 32 = .ok (.iand, 1) from by decide +kernel) rfl ?_
      refine sr_nmi (fun y33 => ?_)
      refine sr_case (fun hw0 => ?_) (fun hw0 => ?_)
      · refine sr_tabIn (q := 252) C hw0 (show decode cL_law 33 = .ok (.tableswitch 1980 0 50 #[219, 282, 305, 318, 341, 374, 407, 450, 473, 496, 509, 552, 605, 638, 661, 694, 727, 760, 783, 816, 839, 862, 885, 898, 931, 964, 1007, 1050, 1103, 1136, 1179, 1212, 1255, 1278, 1327, 1361, 1405, 1438, 1481, 1514, 1547, 1580, 1613, 1646, 1679, 1732, 1755, 1778, 1801, 1844, 1917], 219) from by decide +kernel) (by decide) (by decide) rfl (by decide) ?_
        exact slL_law_J252 C HX Hb HbA K18 v1 v2 v3 hv1 hv2
      · refine sr_case (fun hw1 => ?_) (fun hw1 => ?_)
        · refine sr_tabIn (q := 315) C hw1 (show decode cL_law 33 = .ok (.tableswitch 1980 0 50 #[219, 282, 305, 318, 341, 374, 407, 450, 473, 496, 509, 552, 605, 638, 661, 694, 727, 760, 783, 816, 839, 862, 885, 898, 931, 964, 1007, 1050, 1103, 1136, 1179, 1212, 1255, 1278, 1327, 1361, 1405, 1438, 1481, 1514, 1547, 1580, 1613, 1646, 1679, 1732, 1755, 1778, 1801, 1844, 1917], 219) from by decide +kernel) (by decide) (by decide) rfl (by decide) ?_
          exact slL_law_J315 C HX Hb HbA K18 v1 v2 v3 hv1 hv2
        · refine sr_case (fun hw2 => ?_) (fun hw2 => ?_)
          · refine sr_tabIn (q := 338) C hw2 (show decode cL_law 33 = .ok (.tableswitch 1980 0 50 #[219, 282, 305, 318, 341, 374, 407, 450, 473, 496, 509, 552, 605, 638, 661, 694, 727, 760, 783, 816, 839, 862, 885, 898, 931, 964, 1007, 1050, 1103, 1136, 1179, 1212, 1255, 1278, 1327, 1361, 1405, 1438, 1481, 1514, 1547, 1580, 1613, 1646, 1679, 1732, 1755, 1778, 1801, 1844, 1917], 219) from by decide +kernel) (by decide) (by decide) rfl (by decide) ?_
            exact slL_law_J338 C HX Hb HbA K18 v1 v2 v3 hv1 hv2
          · refine sr_case (fun hw3 => ?_) (fun hw3 => ?_)
            · refine sr_tabIn (q := 351) C hw3 (show decode cL_law 33 = .ok (.tableswitch 1980 0 50 #[219, 282, 305, 318, 341, 374, 407, 450, 473, 496, 509, 552, 605, 638, 661, 694, 727, 760, 783, 816, 839, 862, 885, 898, 931, 964, 1007, 1050, 1103, 1136, 1179, 1212, 1255, 1278, 1327, 1361, 1405, 1438, 1481, 1514, 1547, 1580, 1613, 1646, 1679, 1732, 1755, 1778, 1801, 1844, 1917], 219) from by decide +kernel) (by decide) (by decide) rfl (by decide) ?_
              exact slL_law_J351 C HX Hb HbA K18 v1 v2 v3 hv1 hv2
            · refine sr_case (fun hw4 => ?_) (fun hw4 => ?_)
              · refine sr_tabIn (q := 374) C hw4 (show decode cL_law 33 = .ok (.tableswitch 1980 0 50 #[219, 282, 305, 318, 341, 374, 407, 450, 473, 496, 509, 552, 605, 638, 661, 694, 727, 760, 783, 816, 839, 862, 885, 898, 931, 964, 1007, 1050, 1103, 1136, 1179, 1212, 1255, 1278, 1327, 1361, 1405, 1438, 1481, 1514, 1547, 1580, 1613, 1646, 1679, 1732, 1755, 1778, 1801, 1844, 1917], 219) from by decide +kernel) (by decide) (by decide) rfl (by decide) ?_
                exact slL_law_J374 C HX Hb HbA K18 v1 v2 v3 hv1 hv2
              · refine sr_case (fun hw5 => ?_) (fun hw5 => ?_)
                · refine sr_tabIn (q := 407) C hw5 (show decode cL_law 33 = .ok (.tableswitch 1980 0 50 #[219, 282, 305, 318, 341, 374, 407, 450, 473, 496, 509, 552, 605, 638, 661, 694, 727, 760, 783, 816, 839, 862, 885, 898, 931, 964, 1007, 1050, 1103, 1136, 1179, 1212, 1255, 1278, 1327, 1361, 1405, 1438, 1481, 1514, 1547, 1580, 1613, 1646, 1679, 1732, 1755, 1778, 1801, 1844, 1917], 219) from by decide +kernel) (by decide) (by decide) rfl (by decide) ?_
                  exact slL_law_J407 C HX Hb HbA K18 v1 v2 v3 hv1 hv2
                · refine sr_case (fun hw6 => ?_) (fun hw6 => ?_)
                  · refine sr_tabIn (q := 440) C hw6 (show decode cL_law 33 = .ok (.tableswitch 1980 0 50 #[219, 282, 305, 318, 341, 374, 407, 450, 473, 496, 509, 552, 605, 638, 661, 694, 727, 760, 783, 816, 839, 862, 885, 898, 931, 964, 1007, 1050, 1103, 1136, 1179, 1212, 1255, 1278, 1327, 1361, 1405, 1438, 1481, 1514, 1547, 1580, 1613, 1646, 1679, 1732, 1755, 1778, 1801, 1844, 1917], 219) from by decide +kernel) (by decide) (by decide) rfl (by decide) ?_
                    exact slL_law_J440 C HX Hb HbA K18 v1 v2 v3 hv1 hv2
                  · refine sr_case (fun hw7 => ?_) (fun hw7 => ?_)
                    · refine sr_tabIn (q := 483) C hw7 (show decode cL_law 33 = .ok (.tableswitch 1980 0 50 #[219, 282, 305, 318, 341, 374, 407, 450, 473, 496, 509, 552, 605, 638, 661, 694, 727, 760, 783, 816, 839, 862, 885, 898, 931, 964, 1007, 1050, 1103, 1136, 1179, 1212, 1255, 1278, 1327, 1361, 1405, 1438, 1481, 1514, 1547, 1580, 1613, 1646, 1679, 1732, 1755, 1778, 1801, 1844, 1917], 219) from by decide +kernel) (by decide) (by decide) rfl (by decide) ?_
                      exact slL_law_J483 C HX Hb HbA K18 v1 v2 v3 hv1 hv2
                    · refine sr_case (fun hw8 => ?_) (fun hw8 => ?_)
                      · refine sr_tabIn (q := 506) C hw8 (show decode cL_law 33 = .ok (.tableswitch 1980 0 50 #[219, 282, 305, 318, 341, 374, 407, 450, 473, 496, 509, 552, 605, 638, 661, 694, 727, 760, 783, 816, 839, 862, 885, 898, 931, 964, 1007, 1050, 1103, 1136, 1179, 1212, 1255, 1278, 1327, 1361, 1405, 1438, 1481, 1514, 1547, 1580, 1613, 1646, 1679, 1732, 1755, 1778, 1801, 1844, 1917], 219) from by decide +kernel) (by decide) (by decide) rfl (by decide) ?_
                        exact slL_law_J506 C HX Hb HbA K18 v1 v2 v3 hv1 hv2
                      · refine sr_case (fun hw9 => ?_) (fun hw9 => ?_)
                        · refine sr_tabIn (q := 529) C hw9 (show decode cL_law 33 = .ok (.tableswitch 1980 0 50 #[219, 282, 305, 318, 341, 374, 407, 450, 473, 496, 509, 552, 605, 638, 661, 694, 727, 760, 783, 816, 839, 862, 885, 898, 931, 964, 1007, 1050, 1103, 1136, 1179, 1212, 1255, 1278, 1327, 1361, 1405, 1438, 1481, 1514, 1547, 1580, 1613, 1646, 1679, 1732, 1755, 1778, 1801, 1844, 1917], 219) from by decide +kernel) (by decide) (by decide) rfl (by decide) ?_
                          exact slL_law_J529 C HX Hb HbA K18 v1 v2 v3 hv1 hv2
                        · refine sr_case (fun hw10 => ?_) (fun hw10 => ?_)
                          · refine sr_tabIn (q := 542) C hw10 (show decode cL_law 33 = .ok (.tableswitch 1980 0 50 #[219, 282, 305, 318, 341, 374, 407, 450, 473, 496, 509, 552, 605, 638, 661, 694, 727, 760, 783, 816, 839, 862, 885, 898, 931, 964, 1007, 1050, 1103, 1136, 1179, 1212, 1255, 1278, 1327, 1361, 1405, 1438, 1481, 1514, 1547, 1580, 1613, 1646, 1679, 1732, 1755, 1778, 1801, 1844, 1917], 219) from by decide +kernel) (by decide) (by decide) rfl (by decide) ?_
                            exact slL_law_J542 C HX Hb HbA K18 v1 v2 v3 hv1 hv2
                          · refine sr_case (fun hw11 => ?_) (fun hw11 => ?_)
                            · refine sr_tabIn (q := 585) C hw11 (show decode cL_law 33 = .ok (.tableswitch 1980 0 50 #[219, 282, 305, 318, 341, 374, 407, 450, 473, 496, 509, 552, 605, 638, 661, 694, 727, 760, 783, 816, 839, 862, 885, 898, 931, 964, 1007, 1050, 1103, 1136, 1179, 1212, 1255, 1278, 1327, 1361, 1405, 1438, 1481, 1514, 1547, 1580, 1613, 1646, 1679, 1732, 1755, 1778, 1801, 1844, 1917], 219) from by decide +kernel) (by decide) (by decide) rfl (by decide) ?_
                              exact slL_law_J585 C HX Hb HbA K18 v1 v2 v3 hv1 hv2
                            · refine sr_case (fun hw12 => ?_) (fun hw12 => ?_)
                              · refine sr_tabIn (q := 638) C hw12 (show decode cL_law 33 = .ok (.tableswitch 1980 0 50 #[219, 282, 305, 318, 341, 374, 407, 450, 473, 496, 509, 552, 605, 638, 661, 694, 727, 760, 783, 816, 839, 862, 885, 898, 931, 964, 1007, 1050, 1103, 1136, 1179, 1212, 1255, 1278, 1327, 1361, 1405, 1438, 1481, 1514, 1547, 1580, 1613, 1646, 1679, 1732, 1755, 1778, 1801, 1844, 1917], 219) from by decide +kernel) (by decide) (by decide) rfl (by decide) ?_
                                exact slL_law_J638 C HX Hb HbA K18 v1 v2 v3 hv1 hv2
                              · refine sr_case (fun hw13 => ?_) (fun hw13 => ?_)
                                · refine sr_tabIn (q := 671) C hw13 (show decode cL_law 33 = .ok (.tableswitch 1980 0 50 #[219, 282, 305, 318, 341, 374, 407, 450, 473, 496, 509, 552, 605, 638, 661, 694, 727, 760, 783, 816, 839, 862, 885, 898, 931, 964, 1007, 1050, 1103, 1136, 1179, 1212, 1255, 1278, 1327, 1361, 1405, 1438, 1481, 1514, 1547, 1580, 1613, 1646, 1679, 1732, 1755, 1778, 1801, 1844, 1917], 219) from by decide +kernel) (by decide) (by decide) rfl (by decide) ?_
                                  exact slL_law_J671 C HX Hb HbA K18 v1 v2 v3 hv1 hv2
                                · refine sr_case (fun hw14 => ?_) (fun hw14 => ?_)
                                  · refine sr_tabIn (q := 694) C hw14 (show decode cL_law 33 = .ok (.tableswitch 1980 0 50 #[219, 282, 305, 318, 341, 374, 407, 450, 473, 496, 509, 552, 605, 638, 661, 694, 727, 760, 783, 816, 839, 862, 885, 898, 931, 964, 1007, 1050, 1103, 1136, 1179, 1212, 1255, 1278, 1327, 1361, 1405, 1438, 1481, 1514, 1547, 1580, 1613, 1646, 1679, 1732, 1755, 1778, 1801, 1844, 1917], 219) from by decide +kernel) (by decide) (by decide) rfl (by decide) ?_
                                    exact slL_law_J694 C HX Hb HbA K18 v1 v2 v3 hv1 hv2
                                  · refine sr_case (fun hw15 => ?_) (fun hw15 => ?_)
                                    · refine sr_tabIn (q := 727) C hw15 (show decode cL_law 33 = .ok (.tableswitch 1980 0 50 #[219, 282, 305, 318, 341, 374, 407, 450, 473, 496, 509, 552, 605, 638, 661, 694, 727, 760, 783, 816, 839, 862, 885, 898, 931, 964, 1007, 1050, 1103, 1136, 1179, 1212, 1255, 1278, 1327, 1361, 1405, 1438, 1481, 1514, 1547, 1580, 1613, 1646, 1679, 1732, 1755, 1778, 1801, 1844, 1917], 219) from by decide +kernel) (by decide) (by decide) rfl (by decide) ?_
                                      exact slL_law_J727 C HX Hb HbA K18 v1 v2 v3 hv1 hv2
                                    · refine sr_case (fun hw16 => ?_) (fun hw16 => ?_)
                                      · refine sr_tabIn (q := 760) C hw16 (show decode cL_law 33 = .ok (.tableswitch 1980 0 50 #[219, 282, 305, 318, 341, 374, 407, 450, 473, 496, 509, 552, 605, 638, 661, 694, 727, 760, 783, 816, 839, 862, 885, 898, 931, 964, 1007, 1050, 1103, 1136, 1179, 1212, 1255, 1278, 1327, 1361, 1405, 1438, 1481, 1514, 1547, 1580, 1613, 1646, 1679, 1732, 1755, 1778, 1801, 1844, 1917], 219) from by decide +kernel) (by decide) (by decide) rfl (by decide) ?_
                                        exact slL_law_J760 C HX Hb HbA K18 v1 v2 v3 hv1 hv2
                                      · refine sr_case (fun hw17 => ?_) (fun hw17 => ?_)
                                        · refine sr_tabIn (q := 793) C hw17 (show decode cL_law 33 = .ok (.tableswitch 1980 0 50 #[219, 282, 305, 318, 341, 374, 407, 450, 473, 496, 509, 552, 605, 638, 661, 694, 727, 760, 783, 816, 839, 862, 885, 898, 931, 964, 1007, 1050, 1103, 1136, 1179, 1212, 1255, 1278, 1327, 1361, 1405, 1438, 1481, 1514, 1547, 1580, 1613, 1646, 1679, 1732, 1755, 1778, 1801, 1844, 1917], 219) from by decide +kernel) (by decide) (by decide) rfl (by decide) ?_
                                          exact slL_law_J793 C HX Hb HbA K18 v1 v2 v3 hv1 hv2
                                        · refine sr_case (fun hw18 => ?_) (fun hw18 => ?_)
                                          · refine sr_tabIn (q := 816) C hw18 (show decode cL_law 33 = .ok (.tableswitch 1980 0 50 #[219, 282, 305, 318, 341, 374, 407, 450, 473, 496, 509, 552, 605, 638, 661, 694, 727, 760, 783, 816, 839, 862, 885, 898, 931, 964, 1007, 1050, 1103, 1136, 1179, 1212, 1255, 1278, 1327, 1361, 1405, 1438, 1481, 1514, 1547, 1580, 1613, 1646, 1679, 1732, 1755, 1778, 1801, 1844, 1917], 219) from by decide +kernel) (by decide) (by decide) rfl (by decide) ?_
                                            exact slL_law_J816 C HX Hb HbA K18 v1 v2 v3 hv1 hv2
                                          · refine sr_case (fun hw19 => ?_) (fun hw19 => ?_)
                                            · refine sr_tabIn (q := 849) C hw19 (show decode cL_law 33 = .ok (.tableswitch 1980 0 50 #[219, 282, 305, 318, 341, 374, 407, 450, 473, 496, 509, 552, 605, 638, 661, 694, 727, 760, 783, 816, 839, 862, 885, 898, 931, 964, 1007, 1050, 1103, 1136, 1179, 1212, 1255, 1278, 1327, 1361, 1405, 1438, 1481, 1514, 1547, 1580, 1613, 1646, 1679, 1732, 1755, 1778, 1801, 1844, 1917], 219) from by decide +kernel) (by decide) (by decide) rfl (by decide) ?_
                                              exact slL_law_J849 C HX Hb HbA K18 v1 v2 v3 hv1 hv2
                                            · refine sr_case (fun hw20 => ?_) (fun hw20 => ?_)
                                              · refine sr_tabIn (q := 872) C hw20 (show decode cL_law 33 = .ok (.tableswitch 1980 0 50 #[219, 282, 305, 318, 341, 374, 407, 450, 473, 496, 509, 552, 605, 638, 661, 694, 727, 760, 783, 816, 839, 862, 885, 898, 931, 964, 1007, 1050, 1103, 1136, 1179, 1212, 1255, 1278, 1327, 1361, 1405, 1438, 1481, 1514, 1547, 1580, 1613, 1646, 1679, 1732, 1755, 1778, 1801, 1844, 1917], 219) from by decide +kernel) (by decide) (by decide) rfl (by decide) ?_
                                                exact slL_law_J872 C HX Hb HbA K18 v1 v2 v3 hv1 hv2
                                              · refine sr_case (fun hw21 => ?_) (fun hw21 => ?_)
                                                · refine sr_tabIn (q := 895) C hw21 (show decode cL_law 33 = .ok (.tableswitch 1980 0 50 #[219, 282, 305, 318, 341, 374, 407, 450, 473, 496, 509, 552, 605, 638, 661, 694, 727, 760, 783, 816, 839, 862, 885, 898, 931, 964, 1007, 1050, 1103, 1136, 1179, 1212, 1255, 1278, 1327, 1361, 1405, 1438, 1481, 1514, 1547, 1580, 1613, 1646, 1679, 1732, 1755, 1778, 1801, 1844, 1917], 219) from by decide +kernel) (by decide) (by decide) rfl (by decide) ?_
                                                  exact slL_law_J895 C HX Hb HbA K18 v1 v2 v3 hv1 hv2
                                                · refine sr_case (fun hw22 => ?_) (fun hw22 => ?_)
                                                  · refine sr_tabIn (q := 918) C hw22 (show decode cL_law 33 = .ok (.tableswitch 1980 0 50 #[219, 282, 305, 318, 341, 374, 407, 450, 473, 496, 509, 552, 605, 638, 661, 694, 727, 760, 783, 816, 839, 862, 885, 898, 931, 964, 1007, 1050, 1103, 1136, 1179, 1212, 1255, 1278, 1327, 1361, 1405, 1438, 1481, 1514, 1547, 1580, 1613, 1646, 1679, 1732, 1755, 1778, 1801, 1844, 1917], 219) from by decide +kernel) (by decide) (by decide) rfl (by decide) ?_
                                                    exact slL_law_J918 C HX Hb HbA K18 v1 v2 v3 hv1 hv2
                                                  · refine sr_case (fun hw23 => ?_) (fun hw23 => ?_)
                                                    · refine sr_tabIn (q := 931) C hw23 (show decode cL_law 33 = .ok (.tableswitch 1980 0 50 #[219, 282, 305, 318, 341, 374, 407, 450, 473, 496, 509, 552, 605, 638, 661, 694, 727, 760, 783, 816, 839, 862, 885, 898, 931, 964, 1007, 1050, 1103, 1136, 1179, 1212, 1255, 1278, 1327, 1361, 1405, 1438, 1481, 1514, 1547, 1580, 1613, 1646, 1679, 1732, 1755, 1778, 1801, 1844, 1917], 219) from by decide +kernel) (by decide) (by decide) rfl (by decide) ?_
                                                      exact slL_law_J931 C HX Hb HbA K18 v1 v2 v3 hv1 hv2
                                                    · refine sr_case (fun hw24 => ?_) (fun hw24 => ?_)
                                                      · refine sr_tabIn (q := 964) C hw24 (show decode cL_law 33 = .ok (.tableswitch 1980 0 50 #[219, 282, 305, 318, 341, 374, 407, 450, 473, 496, 509, 552, 605, 638, 661, 694, 727, 760, 783, 816, 839, 862, 885, 898, 931, 964, 1007, 1050, 1103, 1136, 1179, 1212, 1255, 1278, 1327, 1361, 1405, 1438, 1481, 1514, 1547, 1580, 1613, 1646, 1679, 1732, 1755, 1778, 1801, 1844, 1917], 219) from by decide +kernel) (by decide) (by decide) rfl (by decide) ?_
                                                        exact slL_law_J964 C HX Hb HbA K18 v1 v2 v3 hv1 hv2
                                                      · refine sr_case (fun hw25 => ?_) (fun hw25 => ?_)
                                                        · refine sr_tabIn (q := 997) C hw25 (show decode cL_law 33 = .ok (.tableswitch 1980 0 50 #[219, 282, 305, 318, 341, 374, 407, 450, 473, 496, 509, 552, 605, 638, 661, 694, 727, 760, 783, 816, 839, 862, 885, 898, 931, 964, 1007, 1050, 1103, 1136, 1179, 1212, 1255, 1278, 1327, 1361, 1405, 1438, 1481, 1514, 1547, 1580, 1613, 1646, 1679, 1732, 1755, 1778, 1801, 1844, 1917], 219) from by decide +kernel) (by decide) (by decide) rfl (by decide) ?_
                                                          exact slL_law_J997 C HX Hb HbA K18 v1 v2 v3 hv1 hv2
                                                        · refine sr_case (fun hw26 => ?_) (fun hw26 => ?_)
                                                          · refine sr_tabIn (q := 1040) C hw26 (show decode cL_law 33 = .ok (.tableswitch 1980 0 50 #[219, 282, 305, 318, 341, 374, 407, 450, 473, 496, 509, 552, 605, 638, 661, 694, 727, 760, 783, 816, 839, 862, 885, 898, 931, 964, 1007, 1050, 1103, 1136, 1179, 1212, 1255, 1278, 1327, 1361, 1405, 1438, 1481, 1514, 1547, 1580, 1613, 1646, 1679, 1732, 1755, 1778, 1801, 1844, 1917], 219) from by decide +kernel) (by decide) (by decide) rfl (by decide) ?_
                                                            exact slL_law_J1040 C HX Hb HbA K18 v1 v2 v3 hv1 hv2
                                                          · refine sr_case (fun hw27 => ?_) (fun hw27 => ?_)
                                                            · refine sr_tabIn (q := 1083) C hw27 (show decode cL_law 33 = .ok (.tableswitch 1980 0 50 #[219, 282, 305, 318, 341, 374, 407, 450, 473, 496, 509, 552, 605, 638, 661, 694, 727, 760, 783, 816, 839, 862, 885, 898, 931, 964, 1007, 1050, 1103, 1136, 1179, 1212, 1255, 1278, 1327, 1361, 1405, 1438, 1481, 1514, 1547, 1580, 1613, 1646, 1679, 1732, 1755, 1778, 1801, 1844, 1917], 219) from by decide +kernel) (by decide) (by decide) rfl (by decide) ?_
                                                              exact slL_law_J1083 C HX Hb HbA K18 v1 v2 v3 hv1 hv2
                                                            · refine sr_case (fun hw28 => ?_) (fun hw28 => ?_)
                                                              · refine sr_tabIn (q := 1136) C hw28 (show decode cL_law 33 = .ok (.tableswitch 1980 0 50 #[219, 282, 305, 318, 341, 374, 407, 450, 473, 496, 509, 552, 605, 638, 661, 694, 727, 760, 783, 816, 839, 862, 885, 898, 931, 964, 1007, 1050, 1103, 1136, 1179, 1212, 1255, 1278, 1327, 1361, 1405, 1438, 1481, 1514, 1547, 1580, 1613, 1646, 1679, 1732, 1755, 1778, 1801, 1844, 1917], 219) from by decide +kernel) (by decide) (by decide) rfl (by decide) ?_
                                                                exact slL_law_J1136 C HX Hb HbA K18 v1 v2 v3 hv1 hv2
                                                              · refine sr_case (fun hw29 => ?_) (fun hw29 => ?_)
                                                                · refine sr_tabIn (q := 1169) C hw29 (show decode cL_law 33 = .ok (.tableswitch 1980 0 50 #[219, 282, 305, 318, 341, 374, 407, 450, 473, 496, 509, 552, 605, 638, 661, 694, 727, 760, 783, 816, 839, 862, 885, 898, 931, 964, 1007, 1050, 1103, 1136, 1179, 1212, 1255, 1278, 1327, 1361, 1405, 1438, 1481, 1514, 1547, 1580, 1613, 1646, 1679, 1732, 1755, 1778, 1801, 1844, 1917], 219) from by decide +kernel) (by decide) (by decide) rfl (by decide) ?_
                                                                  exact slL_law_J1169 C HX Hb HbA K18 v1 v2 v3 hv1 hv2
                                                                · refine sr_case (fun hw30 => ?_) (fun hw30 => ?_)
                                                                  · refine sr_tabIn (q := 1212) C hw30 (show decode cL_law 33 = .ok (.tableswitch 1980 0 50 #[219, 282, 305, 318, 341, 374, 407, 450, 473, 496, 509, 552, 605, 638, 661, 694, 727, 760, 783, 816, 839, 862, 885, 898, 931, 964, 1007, 1050, 1103, 1136, 1179, 1212, 1255, 1278, 1327, 1361, 1405, 1438, 1481, 1514, 1547, 1580, 1613, 1646, 1679, 1732, 1755, 1778, 1801, 1844, 1917], 219) from by decide +kernel) (by decide) (by decide) rfl (by decide) ?_
                                                                    exact slL_law_J1212 C HX Hb HbA K18 v1 v2 v3 hv1 hv2
                                                                  · refine sr_case (fun hw31 => ?_) (fun hw31 => ?_)
                                                                    · refine sr_tabIn (q := 1245) C hw31 (show decode cL_law 33 = .ok (.tableswitch 1980 0 50 #[219, 282, 305, 318, 341, 374, 407, 450, 473, 496, 509, 552, 605, 638, 661, 694, 727, 760, 783, 816, 839, 862, 885, 898, 931, 964, 1007, 1050, 1103, 1136, 1179, 1212, 1255, 1278, 1327, 1361, 1405, 1438, 1481, 1514, 1547, 1580, 1613, 1646, 1679, 1732, 1755, 1778, 1801, 1844, 1917], 219) from by decide +kernel) (by decide) (by decide) rfl (by decide) ?_
                                                                      exact slL_law_J1245 C HX Hb HbA K18 v1 v2 v3 hv1 hv2
                                                                    · refine sr_case (fun hw32 => ?_) (fun hw32 => ?_)
                                                                      · refine sr_tabIn (q := 1288) C hw32 (show decode cL_law 33 = .ok (.tableswitch 1980 0 50 #[219, 282, 305, 318, 341, 374, 407, 450, 473, 496, 509, 552, 605, 638, 661, 694, 727, 760, 783, 816, 839, 862, 885, 898, 931, 964, 1007, 1050, 1103, 1136, 1179, 1212, 1255, 1278, 1327, 1361, 1405, 1438, 1481, 1514, 1547, 1580, 1613, 1646, 1679, 1732, 1755, 1778, 1801, 1844, 1917], 219) from by decide +kernel) (by decide) (by decide) rfl (by decide) ?_
                                                                        exact slL_law_J1288 C HX Hb HbA K18 v1 v2 v3 hv1 hv2
                                                                      · refine sr_case (fun hw33 => ?_) (fun hw33 => ?_)
                                                                        · refine sr_tabIn (q := 1311) C hw33 (show decode cL_law 33 = .ok (.tableswitch 1980 0 50 #[219, 282, 305, 318, 341, 374, 407, 450, 473, 496, 509, 552, 605, 638, 661, 694, 727, 760, 783, 816, 839, 862, 885, 898, 931, 964, 1007, 1050, 1103, 1136, 1179, 1212, 1255, 1278, 1327, 1361, 1405, 1438, 1481, 1514, 1547, 1580, 1613, 1646, 1679, 1732, 1755, 1778, 1801, 1844, 1917], 219) from by decide +kernel) (by decide) (by decide) rfl (by decide) ?_
                                                                          exact slL_law_J1311 C HX Hb HbA K18 v1 v2 v3 hv1 hv2
                                                                        · refine sr_case (fun hw34 => ?_) (fun hw34 => ?_)
                                                                          · refine sr_tabIn (q := 1360) C hw34 (show decode cL_law 33 = .ok (.tableswitch 1980 0 50 #[219, 282, 305, 318, 341, 374, 407, 450, 473, 496, 509, 552, 605, 638, 661, 694, 727, 760, 783, 816, 839, 862, 885, 898, 931, 964, 1007, 1050, 1103, 1136, 1179, 1212, 1255, 1278, 1327, 1361, 1405, 1438, 1481, 1514, 1547, 1580, 1613, 1646, 1679, 1732, 1755, 1778, 1801, 1844, 1917], 219) from by decide +kernel) (by decide) (by decide) rfl (by decide) ?_
                                                                            exact slL_law_J1360 C HX Hb HbA K18 v1 v2 v3 hv1 hv2
                                                                          · refine sr_case (fun hw35 => ?_) (fun hw35 => ?_)
                                                                            · refine sr_tabIn (q := 1394) C hw35 (show decode cL_law 33 = .ok (.tableswitch 1980 0 50 #[219, 282, 305, 318, 341, 374, 407, 450, 473, 496, 509, 552, 605, 638, 661, 694, 727, 760, 783, 816, 839, 862, 885, 898, 931, 964, 1007, 1050, 1103, 1136, 1179, 1212, 1255, 1278, 1327, 1361, 1405, 1438, 1481, 1514, 1547, 1580, 1613, 1646, 1679, 1732, 1755, 1778, 1801, 1844, 1917], 219) from by decide +kernel) (by decide) (by decide) rfl (by decide) ?_
                                                                              exact slL_law_J1394 C HX Hb HbA K18 v1 v2 v3 hv1 hv2
                                                                            · refine sr_case (fun hw36 => ?_) (fun hw36 => ?_)
                                                                              · refine sr_tabIn (q := 1438) C hw36 (show decode cL_law 33 = .ok (.tableswitch 1980 0 50 #[219, 282, 305, 318, 341, 374, 407, 450, 473, 496, 509, 552, 605, 638, 661, 694, 727, 760, 783, 816, 839, 862, 885, 898, 931, 964, 1007, 1050, 1103, 1136, 1179, 1212, 1255, 1278, 1327, 1361, 1405, 1438, 1481, 1514, 1547, 1580, 1613, 1646, 1679, 1732, 1755, 1778, 1801, 1844, 1917], 219) from by decide +kernel) (by decide) (by decide) rfl (by decide) ?_
                                                                                exact slL_law_J1438 C HX Hb HbA K18 v1 v2 v3 hv1 hv2
                                                                              · refine sr_case (fun hw37 => ?_) (fun hw37 => ?_)
                                                                                · refine sr_tabIn (q := 1471) C hw37 (show decode cL_law 33 = .ok (.tableswitch 1980 0 50 #[219, 282, 305, 318, 341, 374, 407, 450, 473, 496, 509, 552, 605, 638, 661, 694, 727, 760, 783, 816, 839, 862, 885, 898, 931, 964, 1007, 1050, 1103, 1136, 1179, 1212, 1255, 1278, 1327, 1361, 1405, 1438, 1481, 1514, 1547, 1580, 1613, 1646, 1679, 1732, 1755, 1778, 1801, 1844, 1917], 219) from by decide +kernel) (by decide) (by decide) rfl (by decide) ?_
                                                                                  exact slL_law_J1471 C HX Hb HbA K18 v1 v2 v3 hv1 hv2
                                                                                · refine sr_case (fun hw38 => ?_) (fun hw38 => ?_)
                                                                                  · refine sr_tabIn (q := 1514) C hw38 (show decode cL_law 33 = .ok (.tableswitch 1980 0 50 #[219, 282, 305, 318, 341, 374, 407, 450, 473, 496, 509, 552, 605, 638, 661, 694, 727, 760, 783, 816, 839, 862, 885, 898, 931, 964, 1007, 1050, 1103, 1136, 1179, 1212, 1255, 1278, 1327, 1361, 1405, 1438, 1481, 1514, 1547, 1580, 1613, 1646, 1679, 1732, 1755, 1778, 1801, 1844, 1917], 219) from by decide +kernel) (by decide) (by decide) rfl (by decide) ?_
                                                                                    exact slL_law_J1514 C HX Hb HbA K18 v1 v2 v3 hv1 hv2
                                                                                  · refine sr_case (fun hw39 => ?_) (fun hw39 => ?_)
                                                                                    · refine sr_tabIn (q := 1547) C hw39 (show decode cL_law 33 = .ok (.tableswitch 1980 0 50 #[219, 282, 305, 318, 341, 374, 407, 450, 473, 496, 509, 552, 605, 638, 661, 694, 727, 760, 783, 816, 839, 862, 885, 898, 931, 964, 1007, 1050, 1103, 1136, 1179, 1212, 1255, 1278, 1327, 1361, 1405, 1438, 1481, 1514, 1547, 1580, 1613, 1646, 1679, 1732, 1755, 1778, 1801, 1844, 1917], 219) from by decide +kernel) (by decide) (by decide) rfl (by decide) ?_
                                                                                      exact slL_law_J1547 C HX Hb HbA K18 v1 v2 v3 hv1 hv2
                                                                                    · refine sr_case (fun hw40 => ?_) (fun hw40 => ?_)
                                                                                      · refine sr_tabIn (q := 1580) C hw40 (show decode cL_law 33 = .ok (.tableswitch 1980 0 50 #[219, 282, 305, 318, 341, 374, 407, 450, 473, 496, 509, 552, 605, 638, 661, 694, 727, 760, 783, 816, 839, 862, 885, 898, 931, 964, 1007, 1050, 1103, 1136, 1179, 1212, 1255, 1278, 1327, 1361, 1405, 1438, 1481, 1514, 1547, 1580, 1613, 1646, 1679, 1732, 1755, 1778, 1801, 1844, 1917], 219) from by decide +kernel) (by decide) (by decide) rfl (by decide) ?_
                                                                                        exact slL_law_J1580 C HX Hb HbA K18 v1 v2 v3 hv1 hv2
                                                                                      · refine sr_case (fun hw41 => ?_) (fun hw41 => ?_)
                                                                                        · refine sr_tabIn (q := 1613) C hw41 (show decode cL_law 33 = .ok (.tableswitch 1980 0 50 #[219, 282, 305, 318, 341, 374, 407, 450, 473, 496, 509, 552, 605, 638, 661, 694, 727, 760, 783, 816, 839, 862, 885, 898, 931, 964, 1007, 1050, 1103, 1136, 1179, 1212, 1255, 1278, 1327, 1361, 1405, 1438, 1481, 1514, 1547, 1580, 1613, 1646, 1679, 1732, 1755, 1778, 1801, 1844, 1917], 219) from by decide +kernel) (by decide) (by decide) rfl (by decide) ?_
                                                                                          exact slL_law_J1613 C HX Hb HbA K18 v1 v2 v3 hv1 hv2
                                                                                        · refine sr_case (fun hw42 => ?_) (fun hw42 => ?_)
                                                                                          · refine sr_tabIn (q := 1646) C hw42 (show decode cL_law 33 = .ok (.tableswitch 1980 0 50 #[219, 282, 305, 318, 341, 374, 407, 450, 473, 496, 509, 552, 605, 638, 661, 694, 727, 760, 783, 816, 839, 862, 885, 898, 931, 964, 1007, 1050, 1103, 1136, 1179, 1212, 1255, 1278, 1327, 1361, 1405, 1438, 1481, 1514, 1547, 1580, 1613, 1646, 1679, 1732, 1755, 1778, 1801, 1844, 1917], 219) from by decide +kernel) (by decide) (by decide) rfl (by decide) ?_
                                                                                            exact slL_law_J1646 C HX Hb HbA K18 v1 v2 v3 hv1 hv2
                                                                                          · refine sr_case (fun hw43 => ?_) (fun hw43 => ?_)
                                                                                            · refine sr_tabIn (q := 1679) C hw43 (show decode cL_law 33 = .ok (.tableswitch 1980 0 50 #[219, 282, 305, 318, 341, 374, 407, 450, 473, 496, 509, 552, 605, 638, 661, 694, 727, 760, 783, 816, 839, 862, 885, 898, 931, 964, 1007, 1050, 1103, 1136, 1179, 1212, 1255, 1278, 1327, 1361, 1405, 1438, 1481, 1514, 1547, 1580, 1613, 1646, 1679, 1732, 1755, 1778, 1801, 1844, 1917], 219) from by decide +kernel) (by decide) (by decide) rfl (by decide) ?_
                                                                                              exact slL_law_J1679 C HX Hb HbA K18 v1 v2 v3 hv1 hv2
                                                                                            · refine sr_case (fun hw44 => ?_) (fun hw44 => ?_)
                                                                                              · refine sr_tabIn (q := 1712) C hw44 (show decode cL_law 33 = .ok (.tableswitch 1980 0 50 #[219, 282, 305, 318, 341, 374, 407, 450, 473, 496, 509, 552, 605, 638, 661, 694, 727, 760, 783, 816, 839, 862, 885, 898, 931, 964, 1007, 1050, 1103, 1136, 1179, 1212, 1255, 1278, 1327, 1361, 1405, 1438, 1481, 1514, 1547, 1580, 1613, 1646, 1679, 1732, 1755, 1778, 1801, 1844, 1917], 219) from by decide +kernel) (by decide) (by decide) rfl (by decide) ?_
                                                                                                exact slL_law_J1712 C HX Hb HbA K18 v1 v2 v3 hv1 hv2
                                                                                              · refine sr_case (fun hw45 => ?_) (fun hw45 => ?_)
                                                                                                · refine sr_tabIn (q := 1765) C hw45 (show decode cL_law 33 = .ok (.tableswitch 1980 0 50 #[219, 282, 305, 318, 341, 374, 407, 450, 473, 496, 509, 552, 605, 638, 661, 694, 727, 760, 783, 816, 839, 862, 885, 898, 931, 964, 1007, 1050, 1103, 1136, 1179, 1212, 1255, 1278, 1327, 1361, 1405, 1438, 1481, 1514, 1547, 1580, 1613, 1646, 1679, 1732, 1755, 1778, 1801, 1844, 1917], 219) from by decide +kernel) (by decide) (by decide) rfl (by decide) ?_
                                                                                                  exact slL_law_J1765 C HX Hb HbA K18 v1 v2 v3 hv1 hv2
                                                                                                · refine sr_case (fun hw46 => ?_) (fun hw46 => ?_)
                                                                                                  · refine sr_tabIn (q := 1788) C hw46 (show decode cL_law 33 = .ok (.tableswitch 1980 0 50 #[219, 282, 305, 318, 341, 374, 407, 450, 473, 496, 509, 552, 605, 638, 661, 694, 727, 760, 783, 816, 839, 862, 885, 898, 931, 964, 1007, 1050, 1103, 1136, 1179, 1212, 1255, 1278, 1327, 1361, 1405, 1438, 1481, 1514, 1547, 1580, 1613, 1646, 1679, 1732, 1755, 1778, 1801, 1844, 1917], 219) from by decide +kernel) (by decide) (by decide) rfl (by decide) ?_
                                                                                                    exact slL_law_J1788 C HX Hb HbA K18 v1 v2 v3 hv1 hv2
                                                                                                  · refine sr_case (fun hw47 => ?_) (fun hw47 => ?_)
                                                                                                    · refine sr_tabIn (q := 1811) C hw47 (show decode cL_law 33 = .ok (.tableswitch 1980 0 50 #[219, 282, 305, 318, 341, 374, 407, 450, 473, 496, 509, 552, 605, 638, 661, 694, 727, 760, 783, 816, 839, 862, 885, 898, 931, 964, 1007, 1050, 1103, 1136, 1179, 1212, 1255, 1278, 1327, 1361, 1405, 1438, 1481, 1514, 1547, 1580, 1613, 1646, 1679, 1732, 1755, 1778, 1801, 1844, 1917], 219) from by decide +kernel) (by decide) (by decide) rfl (by decide) ?_
                                                                                                      exact slL_law_J1811 C HX Hb HbA K18 v1 v2 v3 hv1 hv2
                                                                                                    · refine sr_case (fun hw48 => ?_) (fun hw48 => ?_)
                                                                                                      · refine sr_tabIn (q := 1834) C hw48 (show decode cL_law 33 = .ok (.tableswitch 1980 0 50 #[219, 282, 305, 318, 341, 374, 407, 450, 473, 496, 509, 552, 605, 638, 661, 694, 727, 760, 783, 816, 839, 862, 885, 898, 931, 964, 1007, 1050, 1103, 1136, 1179, 1212, 1255, 1278, 1327, 1361, 1405, 1438, 1481, 1514, 1547, 1580, 1613, 1646, 1679, 1732, 1755, 1778, 1801, 1844, 1917], 219) from by decide +kernel) (by decide) (by decide) rfl (by decide) ?_
                                                                                                        exact slL_law_J1834 C HX Hb HbA K18 v1 v2 v3 hv1 hv2
                                                                                                      · refine sr_case (fun hw49 => ?_) (fun hw49 => ?_)
                                                                                                        · refine sr_tabIn (q := 1877) C hw49 (show decode cL_law 33 = .ok (.tableswitch 1980 0 50 #[219, 282, 305, 318, 341, 374, 407, 450, 473, 496, 509, 552, 605, 638, 661, 694, 727, 760, 783, 816, 839, 862, 885, 898, 931, 964, 1007, 1050, 1103, 1136, 1179, 1212, 1255, 1278, 1327, 1361, 1405, 1438, 1481, 1514, 1547, 1580, 1613, 1646, 1679, 1732, 1755, 1778, 1801, 1844, 1917], 219) from by decide +kernel) (by decide) (by decide) rfl (by decide) ?_
                                                                                                          exact slL_law_J1877 C HX Hb HbA K18 v1 v2 v3 hv1 hv2
                                                                                                        · refine sr_case (fun hw50 => ?_) (fun hw50 => ?_)
                                                                                                          · refine sr_tabIn (q := 1950) C hw50 (show decode cL_law 33 = .ok (.tableswitch 1980 0 50 #[219, 282, 305, 318, 341, 374, 407, 450, 473, 496, 509, 552, 605, 638, 661, 694, 727, 760, 783, 816, 839, 862, 885, 898, 931, 964, 1007, 1050, 1103, 1136, 1179, 1212, 1255, 1278, 1327, 1361, 1405, 1438, 1481, 1514, 1547, 1580, 1613, 1646, 1679, 1732, 1755, 1778, 1801, 1844, 1917], 219) from by decide +kernel) (by decide) (by decide) rfl (by decide) ?_
                                                                                                            exact slL_law_J1950 C HX Hb HbA K18 v1 v2 v3 hv1 hv2
                                                                                                          · refine sr_tabOut (q := 2013) C (sw51_out hw0 hw1 hw2 hw3 hw4 hw5 hw6 hw7 hw8 hw9 hw10 hw11 hw12 hw13 hw14 hw15 hw16 hw17 hw18 hw19 hw20 hw21 hw22 hw23 hw24 hw25 hw26 hw27 hw28 hw29 hw30 hw31 hw32 hw33 hw34 hw35 hw36 hw37 hw38 hw39 hw40 hw41 hw42 hw43 hw44 hw45 hw46 hw47 hw48 hw49 hw50) (show decode cL_law 33 = .ok (.tableswitch 1980 0 50 #[219, 282, 305, 318, 341, 374, 407, 450, 473, 496, 509, 552, 605, 638, 661, 694, 727, 760, 783, 816, 839, 862, 885, 898, 931, 964, 1007, 1050, 1103, 1136, 1179, 1212, 1255, 1278, 1327, 1361, 1405, 1438, 1481, 1514, 1547, 1580, 1613, 1646, 1679, 1732, 1755, 1778, 1801, 1844, 1917], 219) from by decide +kernel) (by decide) ?_
                                                                                                            exact slL_law_J2013 C HX Hb HbA K18 v1 v2 v3 hv1 hv2
