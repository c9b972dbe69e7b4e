/-! ===== THE LOOP OF THE LAW out of the pairs of calls (written by loopgen.py) ===== -/
def AllOps (Inv : sm_Mem → Prop) : Prop :=
  (∀ (a : Int32) (b : Int32) (c : Int32) (d : Int32) (e : Int32), op2 Inv (fnX11_feed 0 a b c d e) (fnX12_feed 146 a b c d e)) ∧
  (∀ (a : Int32), op2 Inv (fnX11_end 0 a) (fnX12_end 146 a)) ∧
  (op2 Inv (fnX11_river 0) (fnX12_river 146)) ∧
  (∀ (a : Int32), op2 Inv (fnX11_fault 0 a) (fnX12_fault 146 a)) ∧
  (∀ (a : Int32) (b : Int32), op2 Inv (fnX11_stone 0 a b) (fnX12_stone 146 a b)) ∧
  (∀ (a : Int32) (b : Int32), op2 Inv (fnX11_person 0 a b) (fnX12_person 146 a b)) ∧
  (∀ (a : Int32) (b : Int32) (c : Int32), op2 Inv (fnX11_may 0 a b c) (fnX12_may 146 a b c)) ∧
  (∀ (a : Int32), op2 Inv (fnX11_reach 0 a) (fnX12_reach 146 a)) ∧
  (∀ (a : Int32), op2 Inv (fnX11_hour 0 a) (fnX12_hour 146 a)) ∧
  (op2 Inv (fnX11_fresh 0) (fnX12_fresh 146)) ∧
  (∀ (a : Int32) (b : Int32) (c : Int32), op2 Inv (fnX11_length 0 a b c) (fnX12_length 146 a b c)) ∧
  (∀ (a : Int32) (b : Int32) (c : Int32) (d : Int32), op2 Inv (fnX11_path 0 a b c d) (fnX12_path 146 a b c d)) ∧
  (∀ (a : Int32) (b : Int32), op2 Inv (fnX11_step 0 a b) (fnX12_step 146 a b)) ∧
  (∀ (a : Int32), op2 Inv (fnX11_judge 0 a) (fnX12_judge 146 a)) ∧
  (∀ (a : Int32) (b : Int32), op2 Inv (fnX11_ends 0 a b) (fnX12_ends 146 a b)) ∧
  (∀ (a : Int32) (b : Int32), op2 Inv (fnX11_go 0 a b) (fnX12_go 146 a b)) ∧
  (∀ (a : Int32) (b : Int32), op2 Inv (fnX11_over 0 a b) (fnX12_over 146 a b)) ∧
  (∀ (a : Int32), op2 Inv (fnX11_all 0 a) (fnX12_all 146 a)) ∧
  (∀ (a : Int32) (b : Int32), op2 Inv (fnX11_order 0 a b) (fnX12_order 146 a b)) ∧
  (∀ (a : Int32), op2 Inv (fnX11_gap 0 a) (fnX12_gap 146 a)) ∧
  (∀ (a : Int32), op2 Inv (fnX11_home 0 a) (fnX12_home 146 a)) ∧
  (∀ (a : Int32), op2 Inv (fnX11_days 0 a) (fnX12_days 146 a)) ∧
  (op2 Inv (fnX11_best 0) (fnX12_best 146)) ∧
  (∀ (a : Int32) (b : Int32), op2 Inv (fnX11_most 0 a b) (fnX12_most 146 a b)) ∧
  (∀ (a : Int32) (b : Int32), op2 Inv (fnX11_cut 0 a b) (fnX12_cut 146 a b)) ∧
  (∀ (a : Int32) (b : Int32) (c : Int32), op2 Inv (fnX11_bars 0 a b c) (fnX12_bars 146 a b c)) ∧
  (∀ (a : Int32) (b : Int32) (c : Int32), op2 Inv (fnX11_alike 0 a b c) (fnX12_alike 146 a b c)) ∧
  (∀ (a : Int32) (b : Int32) (c : Int32) (d : Int32), op2 Inv (fnX11_more 0 a b c d) (fnX12_more 146 a b c d)) ∧
  (∀ (a : Int32) (b : Int32), op2 Inv (fnX11_where 0 a b) (fnX12_where 146 a b)) ∧
  (∀ (a : Int32) (b : Int32) (c : Int32), op2 Inv (fnX11_moved 0 a b c) (fnX12_moved 146 a b c)) ∧
  (∀ (a : Int32) (b : Int32), op2 Inv (fnX11_move 0 a b) (fnX12_move 146 a b)) ∧
  (∀ (a : Int32) (b : Int32) (c : Int32), op2 Inv (fnX11_plank 0 a b c) (fnX12_plank 146 a b c)) ∧
  (∀ (a : Int32), op2 Inv (fnX11_planks 0 a) (fnX12_planks 146 a)) ∧
  (∀ (a : Int32) (b : Bool), op2 Inv (fnX11_know 0 a (bI b)) (fnX12_know 146 a (bI b))) ∧
  (∀ (a : Int32) (b : Int32), op2 Inv (fnX11_sure 0 a b) (fnX12_sure 146 a b)) ∧
  (∀ (a : Int32) (b : Int32) (c : Int32), op2 Inv (fnX11_tread 0 a b c) (fnX12_tread 146 a b c)) ∧
  (∀ (a : Int32) (b : Int32), op2 Inv (fnX11_first 0 a b) (fnX12_first 146 a b)) ∧
  (∀ (a : Int32) (b : Int32) (c : Int32), op2 Inv (fnX11_price 0 a b c) (fnX12_price 146 a b c)) ∧
  (∀ (a : Int32) (b : Int32), op2 Inv (fnX11_keep 0 a b) (fnX12_keep 146 a b)) ∧
  (∀ (a : Int32) (b : Int32), op2 Inv (fnX11_late 0 a b) (fnX12_late 146 a b)) ∧
  (∀ (a : Int32) (b : Int32), op2 Inv (fnX11_noon 0 a b) (fnX12_noon 146 a b)) ∧
  (∀ (a : Int32) (b : Int32), op2 Inv (fnX11_waits 0 a b) (fnX12_waits 146 a b)) ∧
  (∀ (a : Int32) (b : Int32), op2 Inv (fnX11_cross 0 a b) (fnX12_cross 146 a b)) ∧
  (∀ (a : Int32) (b : Int32), op2 Inv (fnX11_run 0 a b) (fnX12_run 146 a b)) ∧
  (∀ (a : Int32) (b : Int32) (c : Int32) (d : Int32), op2 Inv (fnX11_runs 0 a b c d) (fnX12_runs 146 a b c d)) ∧
  (∀ (a : Int32), op2 Inv (fnX11_count 0 a) (fnX12_count 146 a)) ∧
  (∀ (a : Int32), op2 Inv (fnX11_image 0 a) (fnX12_image 146 a)) ∧
  (∀ (a : Int32), op2 Inv (fnX11_back 0 a) (fnX12_back 146 a)) ∧
  (∀ (a : Int32) (b : Int32) (c : Int32), op2 Inv (fnX11_row 0 a b c) (fnX12_row 146 a b c)) ∧
  (∀ (a : Int32) (b : Int32) (c : Int64), op2 Inv (fnX11_write 0 a b c) (fnX12_write 146 a b c)) ∧
  (∀ (a : Int32) (b : Int32) (c : Int32) (d : Int32) (e : Int32), op2 Inv (fnX11_paste 0 a b c d e) (fnX12_paste 146 a b c d e))
theorem lp_gd {Ln i j : Nat} {v : Int32} (hL : Ln ≤ 3072) (hv : v = nI (i + j)) (h : i + j < Ln) : ¬ (v < 0 ∨ Ln ≤ v.toNatClampNeg) := by
  subst hv
  exact nI_in h (by omega)
theorem lp_cmp (x : Int64) : lg_cmp x x = 0 := by
  unfold lg_cmp
  simp
theorem bk_feed {Inv : sm_Mem → Prop} (hop : (∀ (a : Int32) (b : Int32) (c : Int32) (d : Int32) (e : Int32), op2 Inv (fnX11_feed 0 a b c d e) (fnX12_feed 146 a b c d e))) {sx : Nat → Int32} {Ln : Nat} {k18 : Nat → Nat → Int32 → sm_M Bool} {v3 : Int32} (h1 : ¬ ((v3 + (1 : Int32)) < 0 ∨ Ln ≤ (v3 + (1 : Int32)).toNatClampNeg)) (h2 : ¬ ((v3 + (2 : Int32)) < 0 ∨ Ln ≤ (v3 + (2 : Int32)).toNatClampNeg)) (h3 : ¬ ((v3 + (3 : Int32)) < 0 ∨ Ln ≤ (v3 + (3 : Int32)).toNatClampNeg)) (h4 : ¬ ((v3 + (4 : Int32)) < 0 ∨ Ln ≤ (v3 + (4 : Int32)).toNatClampNeg)) (h5 : ¬ ((v3 + (5 : Int32)) < 0 ∨ Ln ≤ (v3 + (5 : Int32)).toNatClampNeg)) (K : ∀ μ, Inv μ → Ends (k18 0 146 (v3 + (6 : Int32))) μ) {μ : sm_Mem} (hI : Inv μ) : Ends (fnL_law_J252 sx Ln k18 0 146 v3) μ := by
  unfold fnL_law_J252
  obtain ⟨r, μ1, μ2, a1, a2, hI2⟩ := hop _ _ _ _ _ μ hI
  exact e_gd h1 (e_gd h2 (e_gd h3 (e_gd h4 (e_gd h5 (e_bnd a1 (e_gd h1 (e_gd h2 (e_gd h3 (e_gd h4 (e_gd h5 (e_bnd a2 (e_brT rfl (K μ2 hI2)))))))))))))
theorem bk_end {Inv : sm_Mem → Prop} (hop : (∀ (a : Int32), op2 Inv (fnX11_end 0 a) (fnX12_end 146 a))) {sx : Nat → Int32} {Ln : Nat} {k18 : Nat → Nat → Int32 → sm_M Bool} {v3 : Int32} (h1 : ¬ ((v3 + (1 : Int32)) < 0 ∨ Ln ≤ (v3 + (1 : Int32)).toNatClampNeg)) (h2 : ¬ ((v3 + (2 : Int32)) < 0 ∨ Ln ≤ (v3 + (2 : Int32)).toNatClampNeg)) (h3 : ¬ ((v3 + (3 : Int32)) < 0 ∨ Ln ≤ (v3 + (3 : Int32)).toNatClampNeg)) (h4 : ¬ ((v3 + (4 : Int32)) < 0 ∨ Ln ≤ (v3 + (4 : Int32)).toNatClampNeg)) (h5 : ¬ ((v3 + (5 : Int32)) < 0 ∨ Ln ≤ (v3 + (5 : Int32)).toNatClampNeg)) (K : ∀ μ, Inv μ → Ends (k18 0 146 (v3 + (6 : Int32))) μ) {μ : sm_Mem} (hI : Inv μ) : Ends (fnL_law_J315 sx Ln k18 0 146 v3) μ := by
  unfold fnL_law_J315
  obtain ⟨r, μ1, μ2, a1, a2, hI2⟩ := hop _ μ hI
  exact e_gd h1 (e_bnd a1 (e_gd h1 (e_bnd a2 (e_brT rfl (K μ2 hI2)))))
theorem bk_river {Inv : sm_Mem → Prop} (hop : (op2 Inv (fnX11_river 0) (fnX12_river 146))) {sx : Nat → Int32} {Ln : Nat} {k18 : Nat → Nat → Int32 → sm_M Bool} {v3 : Int32} (h1 : ¬ ((v3 + (1 : Int32)) < 0 ∨ Ln ≤ (v3 + (1 : Int32)).toNatClampNeg)) (h2 : ¬ ((v3 + (2 : Int32)) < 0 ∨ Ln ≤ (v3 + (2 : Int32)).toNatClampNeg)) (h3 : ¬ ((v3 + (3 : Int32)) < 0 ∨ Ln ≤ (v3 + (3 : Int32)).toNatClampNeg)) (h4 : ¬ ((v3 + (4 : Int32)) < 0 ∨ Ln ≤ (v3 + (4 : Int32)).toNatClampNeg)) (h5 : ¬ ((v3 + (5 : Int32)) < 0 ∨ Ln ≤ (v3 + (5 : Int32)).toNatClampNeg)) (K : ∀ μ, Inv μ → Ends (k18 0 146 (v3 + (6 : Int32))) μ) {μ : sm_Mem} (hI : Inv μ) : Ends (fnL_law_J338 sx Ln k18 0 146 v3) μ := by
  unfold fnL_law_J338
  obtain ⟨r, μ1, μ2, a1, a2, hI2⟩ := hop  μ hI
  exact e_bnd a1 (e_bnd a2 (e_brT rfl (K μ2 hI2)))
theorem bk_fault {Inv : sm_Mem → Prop} (hop : (∀ (a : Int32), op2 Inv (fnX11_fault 0 a) (fnX12_fault 146 a))) {sx : Nat → Int32} {Ln : Nat} {k18 : Nat → Nat → Int32 → sm_M Bool} {v3 : Int32} (h1 : ¬ ((v3 + (1 : Int32)) < 0 ∨ Ln ≤ (v3 + (1 : Int32)).toNatClampNeg)) (h2 : ¬ ((v3 + (2 : Int32)) < 0 ∨ Ln ≤ (v3 + (2 : Int32)).toNatClampNeg)) (h3 : ¬ ((v3 + (3 : Int32)) < 0 ∨ Ln ≤ (v3 + (3 : Int32)).toNatClampNeg)) (h4 : ¬ ((v3 + (4 : Int32)) < 0 ∨ Ln ≤ (v3 + (4 : Int32)).toNatClampNeg)) (h5 : ¬ ((v3 + (5 : Int32)) < 0 ∨ Ln ≤ (v3 + (5 : Int32)).toNatClampNeg)) (K : ∀ μ, Inv μ → Ends (k18 0 146 (v3 + (6 : Int32))) μ) {μ : sm_Mem} (hI : Inv μ) : Ends (fnL_law_J351 sx Ln k18 0 146 v3) μ := by
  unfold fnL_law_J351
  obtain ⟨r, μ1, μ2, a1, a2, hI2⟩ := hop _ μ hI
  exact e_gd h1 (e_bnd a1 (e_gd h1 (e_bnd a2 (e_brT rfl (K μ2 hI2)))))
theorem bk_stone {Inv : sm_Mem → Prop} (hop : (∀ (a : Int32) (b : Int32), op2 Inv (fnX11_stone 0 a b) (fnX12_stone 146 a b))) {sx : Nat → Int32} {Ln : Nat} {k18 : Nat → Nat → Int32 → sm_M Bool} {v3 : Int32} (h1 : ¬ ((v3 + (1 : Int32)) < 0 ∨ Ln ≤ (v3 + (1 : Int32)).toNatClampNeg)) (h2 : ¬ ((v3 + (2 : Int32)) < 0 ∨ Ln ≤ (v3 + (2 : Int32)).toNatClampNeg)) (h3 : ¬ ((v3 + (3 : Int32)) < 0 ∨ Ln ≤ (v3 + (3 : Int32)).toNatClampNeg)) (h4 : ¬ ((v3 + (4 : Int32)) < 0 ∨ Ln ≤ (v3 + (4 : Int32)).toNatClampNeg)) (h5 : ¬ ((v3 + (5 : Int32)) < 0 ∨ Ln ≤ (v3 + (5 : Int32)).toNatClampNeg)) (K : ∀ μ, Inv μ → Ends (k18 0 146 (v3 + (6 : Int32))) μ) {μ : sm_Mem} (hI : Inv μ) : Ends (fnL_law_J374 sx Ln k18 0 146 v3) μ := by
  unfold fnL_law_J374
  obtain ⟨r, μ1, μ2, a1, a2, hI2⟩ := hop _ _ μ hI
  exact e_gd h1 (e_gd h2 (e_bnd a1 (e_gd h1 (e_gd h2 (e_bnd a2 (e_brT rfl (K μ2 hI2)))))))
theorem bk_person {Inv : sm_Mem → Prop} (hop : (∀ (a : Int32) (b : Int32), op2 Inv (fnX11_person 0 a b) (fnX12_person 146 a b))) {sx : Nat → Int32} {Ln : Nat} {k18 : Nat → Nat → Int32 → sm_M Bool} {v3 : Int32} (h1 : ¬ ((v3 + (1 : Int32)) < 0 ∨ Ln ≤ (v3 + (1 : Int32)).toNatClampNeg)) (h2 : ¬ ((v3 + (2 : Int32)) < 0 ∨ Ln ≤ (v3 + (2 : Int32)).toNatClampNeg)) (h3 : ¬ ((v3 + (3 : Int32)) < 0 ∨ Ln ≤ (v3 + (3 : Int32)).toNatClampNeg)) (h4 : ¬ ((v3 + (4 : Int32)) < 0 ∨ Ln ≤ (v3 + (4 : Int32)).toNatClampNeg)) (h5 : ¬ ((v3 + (5 : Int32)) < 0 ∨ Ln ≤ (v3 + (5 : Int32)).toNatClampNeg)) (K : ∀ μ, Inv μ → Ends (k18 0 146 (v3 + (6 : Int32))) μ) {μ : sm_Mem} (hI : Inv μ) : Ends (fnL_law_J407 sx Ln k18 0 146 v3) μ := by
  unfold fnL_law_J407
  obtain ⟨r, μ1, μ2, a1, a2, hI2⟩ := hop _ _ μ hI
  exact e_gd h1 (e_gd h2 (e_bnd a1 (e_gd h1 (e_gd h2 (e_bnd a2 (e_brT rfl (K μ2 hI2)))))))
theorem bk_may {Inv : sm_Mem → Prop} (hop : (∀ (a : Int32) (b : Int32) (c : Int32), op2 Inv (fnX11_may 0 a b c) (fnX12_may 146 a b c))) {sx : Nat → Int32} {Ln : Nat} {k18 : Nat → Nat → Int32 → sm_M Bool} {v3 : Int32} (h1 : ¬ ((v3 + (1 : Int32)) < 0 ∨ Ln ≤ (v3 + (1 : Int32)).toNatClampNeg)) (h2 : ¬ ((v3 + (2 : Int32)) < 0 ∨ Ln ≤ (v3 + (2 : Int32)).toNatClampNeg)) (h3 : ¬ ((v3 + (3 : Int32)) < 0 ∨ Ln ≤ (v3 + (3 : Int32)).toNatClampNeg)) (h4 : ¬ ((v3 + (4 : Int32)) < 0 ∨ Ln ≤ (v3 + (4 : Int32)).toNatClampNeg)) (h5 : ¬ ((v3 + (5 : Int32)) < 0 ∨ Ln ≤ (v3 + (5 : Int32)).toNatClampNeg)) (K : ∀ μ, Inv μ → Ends (k18 0 146 (v3 + (6 : Int32))) μ) {μ : sm_Mem} (hI : Inv μ) : Ends (fnL_law_J440 sx Ln k18 0 146 v3) μ := by
  unfold fnL_law_J440
  obtain ⟨r, μ1, μ2, a1, a2, hI2⟩ := hop _ _ _ μ hI
  exact e_gd h1 (e_gd h2 (e_gd h3 (e_bnd a1 (e_gd h1 (e_gd h2 (e_gd h3 (e_bnd a2 (e_brT rfl (K μ2 hI2)))))))))
theorem bk_reach {Inv : sm_Mem → Prop} (hop : (∀ (a : Int32), op2 Inv (fnX11_reach 0 a) (fnX12_reach 146 a))) {sx : Nat → Int32} {Ln : Nat} {k18 : Nat → Nat → Int32 → sm_M Bool} {v3 : Int32} (h1 : ¬ ((v3 + (1 : Int32)) < 0 ∨ Ln ≤ (v3 + (1 : Int32)).toNatClampNeg)) (h2 : ¬ ((v3 + (2 : Int32)) < 0 ∨ Ln ≤ (v3 + (2 : Int32)).toNatClampNeg)) (h3 : ¬ ((v3 + (3 : Int32)) < 0 ∨ Ln ≤ (v3 + (3 : Int32)).toNatClampNeg)) (h4 : ¬ ((v3 + (4 : Int32)) < 0 ∨ Ln ≤ (v3 + (4 : Int32)).toNatClampNeg)) (h5 : ¬ ((v3 + (5 : Int32)) < 0 ∨ Ln ≤ (v3 + (5 : Int32)).toNatClampNeg)) (K : ∀ μ, Inv μ → Ends (k18 0 146 (v3 + (6 : Int32))) μ) {μ : sm_Mem} (hI : Inv μ) : Ends (fnL_law_J483 sx Ln k18 0 146 v3) μ := by
  unfold fnL_law_J483
  obtain ⟨r, μ1, μ2, a1, a2, hI2⟩ := hop _ μ hI
  exact e_gd h1 (e_bnd a1 (e_gd h1 (e_bnd a2 (e_brT rfl (K μ2 hI2)))))
theorem bk_hour {Inv : sm_Mem → Prop} (hop : (∀ (a : Int32), op2 Inv (fnX11_hour 0 a) (fnX12_hour 146 a))) {sx : Nat → Int32} {Ln : Nat} {k18 : Nat → Nat → Int32 → sm_M Bool} {v3 : Int32} (h1 : ¬ ((v3 + (1 : Int32)) < 0 ∨ Ln ≤ (v3 + (1 : Int32)).toNatClampNeg)) (h2 : ¬ ((v3 + (2 : Int32)) < 0 ∨ Ln ≤ (v3 + (2 : Int32)).toNatClampNeg)) (h3 : ¬ ((v3 + (3 : Int32)) < 0 ∨ Ln ≤ (v3 + (3 : Int32)).toNatClampNeg)) (h4 : ¬ ((v3 + (4 : Int32)) < 0 ∨ Ln ≤ (v3 + (4 : Int32)).toNatClampNeg)) (h5 : ¬ ((v3 + (5 : Int32)) < 0 ∨ Ln ≤ (v3 + (5 : Int32)).toNatClampNeg)) (K : ∀ μ, Inv μ → Ends (k18 0 146 (v3 + (6 : Int32))) μ) {μ : sm_Mem} (hI : Inv μ) : Ends (fnL_law_J506 sx Ln k18 0 146 v3) μ := by
  unfold fnL_law_J506
  obtain ⟨r, μ1, μ2, a1, a2, hI2⟩ := hop _ μ hI
  exact e_gd h1 (e_bnd a1 (e_gd h1 (e_bnd a2 (e_brT rfl (K μ2 hI2)))))
theorem bk_fresh {Inv : sm_Mem → Prop} (hop : (op2 Inv (fnX11_fresh 0) (fnX12_fresh 146))) {sx : Nat → Int32} {Ln : Nat} {k18 : Nat → Nat → Int32 → sm_M Bool} {v3 : Int32} (h1 : ¬ ((v3 + (1 : Int32)) < 0 ∨ Ln ≤ (v3 + (1 : Int32)).toNatClampNeg)) (h2 : ¬ ((v3 + (2 : Int32)) < 0 ∨ Ln ≤ (v3 + (2 : Int32)).toNatClampNeg)) (h3 : ¬ ((v3 + (3 : Int32)) < 0 ∨ Ln ≤ (v3 + (3 : Int32)).toNatClampNeg)) (h4 : ¬ ((v3 + (4 : Int32)) < 0 ∨ Ln ≤ (v3 + (4 : Int32)).toNatClampNeg)) (h5 : ¬ ((v3 + (5 : Int32)) < 0 ∨ Ln ≤ (v3 + (5 : Int32)).toNatClampNeg)) (K : ∀ μ, Inv μ → Ends (k18 0 146 (v3 + (6 : Int32))) μ) {μ : sm_Mem} (hI : Inv μ) : Ends (fnL_law_J529 sx Ln k18 0 146 v3) μ := by
  unfold fnL_law_J529
  obtain ⟨r, μ1, μ2, a1, a2, hI2⟩ := hop  μ hI
  exact e_bnd a1 (e_bnd a2 (e_brT rfl (K μ2 hI2)))
theorem bk_length {Inv : sm_Mem → Prop} (hop : (∀ (a : Int32) (b : Int32) (c : Int32), op2 Inv (fnX11_length 0 a b c) (fnX12_length 146 a b c))) {sx : Nat → Int32} {Ln : Nat} {k18 : Nat → Nat → Int32 → sm_M Bool} {v3 : Int32} (h1 : ¬ ((v3 + (1 : Int32)) < 0 ∨ Ln ≤ (v3 + (1 : Int32)).toNatClampNeg)) (h2 : ¬ ((v3 + (2 : Int32)) < 0 ∨ Ln ≤ (v3 + (2 : Int32)).toNatClampNeg)) (h3 : ¬ ((v3 + (3 : Int32)) < 0 ∨ Ln ≤ (v3 + (3 : Int32)).toNatClampNeg)) (h4 : ¬ ((v3 + (4 : Int32)) < 0 ∨ Ln ≤ (v3 + (4 : Int32)).toNatClampNeg)) (h5 : ¬ ((v3 + (5 : Int32)) < 0 ∨ Ln ≤ (v3 + (5 : Int32)).toNatClampNeg)) (K : ∀ μ, Inv μ → Ends (k18 0 146 (v3 + (6 : Int32))) μ) {μ : sm_Mem} (hI : Inv μ) : Ends (fnL_law_J542 sx Ln k18 0 146 v3) μ := by
  unfold fnL_law_J542
  obtain ⟨r, μ1, μ2, a1, a2, hI2⟩ := hop _ _ _ μ hI
  exact e_gd h1 (e_gd h2 (e_gd h3 (e_bnd a1 (e_gd h1 (e_gd h2 (e_gd h3 (e_bnd a2 (e_brT rfl (K μ2 hI2)))))))))
theorem bk_path {Inv : sm_Mem → Prop} (hop : (∀ (a : Int32) (b : Int32) (c : Int32) (d : Int32), op2 Inv (fnX11_path 0 a b c d) (fnX12_path 146 a b c d))) {sx : Nat → Int32} {Ln : Nat} {k18 : Nat → Nat → Int32 → sm_M Bool} {v3 : Int32} (h1 : ¬ ((v3 + (1 : Int32)) < 0 ∨ Ln ≤ (v3 + (1 : Int32)).toNatClampNeg)) (h2 : ¬ ((v3 + (2 : Int32)) < 0 ∨ Ln ≤ (v3 + (2 : Int32)).toNatClampNeg)) (h3 : ¬ ((v3 + (3 : Int32)) < 0 ∨ Ln ≤ (v3 + (3 : Int32)).toNatClampNeg)) (h4 : ¬ ((v3 + (4 : Int32)) < 0 ∨ Ln ≤ (v3 + (4 : Int32)).toNatClampNeg)) (h5 : ¬ ((v3 + (5 : Int32)) < 0 ∨ Ln ≤ (v3 + (5 : Int32)).toNatClampNeg)) (K : ∀ μ, Inv μ → Ends (k18 0 146 (v3 + (6 : Int32))) μ) {μ : sm_Mem} (hI : Inv μ) : Ends (fnL_law_J585 sx Ln k18 0 146 v3) μ := by
  unfold fnL_law_J585
  obtain ⟨r, μ1, μ2, a1, a2, hI2⟩ := hop _ _ _ _ μ hI
  exact e_gd h1 (e_gd h2 (e_gd h3 (e_gd h4 (e_bnd a1 (e_gd h1 (e_gd h2 (e_gd h3 (e_gd h4 (e_bnd a2 (e_brT rfl (K μ2 hI2)))))))))))
theorem bk_step {Inv : sm_Mem → Prop} (hop : (∀ (a : Int32) (b : Int32), op2 Inv (fnX11_step 0 a b) (fnX12_step 146 a b))) {sx : Nat → Int32} {Ln : Nat} {k18 : Nat → Nat → Int32 → sm_M Bool} {v3 : Int32} (h1 : ¬ ((v3 + (1 : Int32)) < 0 ∨ Ln ≤ (v3 + (1 : Int32)).toNatClampNeg)) (h2 : ¬ ((v3 + (2 : Int32)) < 0 ∨ Ln ≤ (v3 + (2 : Int32)).toNatClampNeg)) (h3 : ¬ ((v3 + (3 : Int32)) < 0 ∨ Ln ≤ (v3 + (3 : Int32)).toNatClampNeg)) (h4 : ¬ ((v3 + (4 : Int32)) < 0 ∨ Ln ≤ (v3 + (4 : Int32)).toNatClampNeg)) (h5 : ¬ ((v3 + (5 : Int32)) < 0 ∨ Ln ≤ (v3 + (5 : Int32)).toNatClampNeg)) (K : ∀ μ, Inv μ → Ends (k18 0 146 (v3 + (6 : Int32))) μ) {μ : sm_Mem} (hI : Inv μ) : Ends (fnL_law_J638 sx Ln k18 0 146 v3) μ := by
  unfold fnL_law_J638
  obtain ⟨r, μ1, μ2, a1, a2, hI2⟩ := hop _ _ μ hI
  exact e_gd h1 (e_gd h2 (e_bnd a1 (e_gd h1 (e_gd h2 (e_bnd a2 (e_brT rfl (K μ2 hI2)))))))
theorem bk_judge {Inv : sm_Mem → Prop} (hop : (∀ (a : Int32), op2 Inv (fnX11_judge 0 a) (fnX12_judge 146 a))) {sx : Nat → Int32} {Ln : Nat} {k18 : Nat → Nat → Int32 → sm_M Bool} {v3 : Int32} (h1 : ¬ ((v3 + (1 : Int32)) < 0 ∨ Ln ≤ (v3 + (1 : Int32)).toNatClampNeg)) (h2 : ¬ ((v3 + (2 : Int32)) < 0 ∨ Ln ≤ (v3 + (2 : Int32)).toNatClampNeg)) (h3 : ¬ ((v3 + (3 : Int32)) < 0 ∨ Ln ≤ (v3 + (3 : Int32)).toNatClampNeg)) (h4 : ¬ ((v3 + (4 : Int32)) < 0 ∨ Ln ≤ (v3 + (4 : Int32)).toNatClampNeg)) (h5 : ¬ ((v3 + (5 : Int32)) < 0 ∨ Ln ≤ (v3 + (5 : Int32)).toNatClampNeg)) (K : ∀ μ, Inv μ → Ends (k18 0 146 (v3 + (6 : Int32))) μ) {μ : sm_Mem} (hI : Inv μ) : Ends (fnL_law_J671 sx Ln k18 0 146 v3) μ := by
  unfold fnL_law_J671
  obtain ⟨r, μ1, μ2, a1, a2, hI2⟩ := hop _ μ hI
  exact e_gd h1 (e_bnd a1 (e_gd h1 (e_bnd a2 (e_brT rfl (K μ2 hI2)))))
theorem bk_ends {Inv : sm_Mem → Prop} (hop : (∀ (a : Int32) (b : Int32), op2 Inv (fnX11_ends 0 a b) (fnX12_ends 146 a b))) {sx : Nat → Int32} {Ln : Nat} {k18 : Nat → Nat → Int32 → sm_M Bool} {v3 : Int32} (h1 : ¬ ((v3 + (1 : Int32)) < 0 ∨ Ln ≤ (v3 + (1 : Int32)).toNatClampNeg)) (h2 : ¬ ((v3 + (2 : Int32)) < 0 ∨ Ln ≤ (v3 + (2 : Int32)).toNatClampNeg)) (h3 : ¬ ((v3 + (3 : Int32)) < 0 ∨ Ln ≤ (v3 + (3 : Int32)).toNatClampNeg)) (h4 : ¬ ((v3 + (4 : Int32)) < 0 ∨ Ln ≤ (v3 + (4 : Int32)).toNatClampNeg)) (h5 : ¬ ((v3 + (5 : Int32)) < 0 ∨ Ln ≤ (v3 + (5 : Int32)).toNatClampNeg)) (K : ∀ μ, Inv μ → Ends (k18 0 146 (v3 + (6 : Int32))) μ) {μ : sm_Mem} (hI : Inv μ) : Ends (fnL_law_J694 sx Ln k18 0 146 v3) μ := by
  unfold fnL_law_J694
  obtain ⟨r, μ1, μ2, a1, a2, hI2⟩ := hop _ _ μ hI
  exact e_gd h1 (e_gd h2 (e_bnd a1 (e_gd h1 (e_gd h2 (e_bnd a2 (e_brT rfl (K μ2 hI2)))))))
theorem bk_go {Inv : sm_Mem → Prop} (hop : (∀ (a : Int32) (b : Int32), op2 Inv (fnX11_go 0 a b) (fnX12_go 146 a b))) {sx : Nat → Int32} {Ln : Nat} {k18 : Nat → Nat → Int32 → sm_M Bool} {v3 : Int32} (h1 : ¬ ((v3 + (1 : Int32)) < 0 ∨ Ln ≤ (v3 + (1 : Int32)).toNatClampNeg)) (h2 : ¬ ((v3 + (2 : Int32)) < 0 ∨ Ln ≤ (v3 + (2 : Int32)).toNatClampNeg)) (h3 : ¬ ((v3 + (3 : Int32)) < 0 ∨ Ln ≤ (v3 + (3 : Int32)).toNatClampNeg)) (h4 : ¬ ((v3 + (4 : Int32)) < 0 ∨ Ln ≤ (v3 + (4 : Int32)).toNatClampNeg)) (h5 : ¬ ((v3 + (5 : Int32)) < 0 ∨ Ln ≤ (v3 + (5 : Int32)).toNatClampNeg)) (K : ∀ μ, Inv μ → Ends (k18 0 146 (v3 + (6 : Int32))) μ) {μ : sm_Mem} (hI : Inv μ) : Ends (fnL_law_J727 sx Ln k18 0 146 v3) μ := by
  unfold fnL_law_J727
  obtain ⟨r, μ1, μ2, a1, a2, hI2⟩ := hop _ _ μ hI
  exact e_gd h1 (e_gd h2 (e_bnd a1 (e_gd h1 (e_gd h2 (e_bnd a2 (e_brT rfl (K μ2 hI2)))))))
theorem bk_over {Inv : sm_Mem → Prop} (hop : (∀ (a : Int32) (b : Int32), op2 Inv (fnX11_over 0 a b) (fnX12_over 146 a b))) {sx : Nat → Int32} {Ln : Nat} {k18 : Nat → Nat → Int32 → sm_M Bool} {v3 : Int32} (h1 : ¬ ((v3 + (1 : Int32)) < 0 ∨ Ln ≤ (v3 + (1 : Int32)).toNatClampNeg)) (h2 : ¬ ((v3 + (2 : Int32)) < 0 ∨ Ln ≤ (v3 + (2 : Int32)).toNatClampNeg)) (h3 : ¬ ((v3 + (3 : Int32)) < 0 ∨ Ln ≤ (v3 + (3 : Int32)).toNatClampNeg)) (h4 : ¬ ((v3 + (4 : Int32)) < 0 ∨ Ln ≤ (v3 + (4 : Int32)).toNatClampNeg)) (h5 : ¬ ((v3 + (5 : Int32)) < 0 ∨ Ln ≤ (v3 + (5 : Int32)).toNatClampNeg)) (K : ∀ μ, Inv μ → Ends (k18 0 146 (v3 + (6 : Int32))) μ) {μ : sm_Mem} (hI : Inv μ) : Ends (fnL_law_J760 sx Ln k18 0 146 v3) μ := by
  unfold fnL_law_J760
  obtain ⟨r, μ1, μ2, a1, a2, hI2⟩ := hop _ _ μ hI
  exact e_gd h1 (e_gd h2 (e_bnd a1 (e_gd h1 (e_gd h2 (e_bnd a2 (e_brT rfl (K μ2 hI2)))))))
theorem bk_all {Inv : sm_Mem → Prop} (hop : (∀ (a : Int32), op2 Inv (fnX11_all 0 a) (fnX12_all 146 a))) {sx : Nat → Int32} {Ln : Nat} {k18 : Nat → Nat → Int32 → sm_M Bool} {v3 : Int32} (h1 : ¬ ((v3 + (1 : Int32)) < 0 ∨ Ln ≤ (v3 + (1 : Int32)).toNatClampNeg)) (h2 : ¬ ((v3 + (2 : Int32)) < 0 ∨ Ln ≤ (v3 + (2 : Int32)).toNatClampNeg)) (h3 : ¬ ((v3 + (3 : Int32)) < 0 ∨ Ln ≤ (v3 + (3 : Int32)).toNatClampNeg)) (h4 : ¬ ((v3 + (4 : Int32)) < 0 ∨ Ln ≤ (v3 + (4 : Int32)).toNatClampNeg)) (h5 : ¬ ((v3 + (5 : Int32)) < 0 ∨ Ln ≤ (v3 + (5 : Int32)).toNatClampNeg)) (K : ∀ μ, Inv μ → Ends (k18 0 146 (v3 + (6 : Int32))) μ) {μ : sm_Mem} (hI : Inv μ) : Ends (fnL_law_J793 sx Ln k18 0 146 v3) μ := by
  unfold fnL_law_J793
  obtain ⟨r, μ1, μ2, a1, a2, hI2⟩ := hop _ μ hI
  exact e_gd h1 (e_bnd a1 (e_gd h1 (e_bnd a2 (e_brT rfl (K μ2 hI2)))))
theorem bk_order {Inv : sm_Mem → Prop} (hop : (∀ (a : Int32) (b : Int32), op2 Inv (fnX11_order 0 a b) (fnX12_order 146 a b))) {sx : Nat → Int32} {Ln : Nat} {k18 : Nat → Nat → Int32 → sm_M Bool} {v3 : Int32} (h1 : ¬ ((v3 + (1 : Int32)) < 0 ∨ Ln ≤ (v3 + (1 : Int32)).toNatClampNeg)) (h2 : ¬ ((v3 + (2 : Int32)) < 0 ∨ Ln ≤ (v3 + (2 : Int32)).toNatClampNeg)) (h3 : ¬ ((v3 + (3 : Int32)) < 0 ∨ Ln ≤ (v3 + (3 : Int32)).toNatClampNeg)) (h4 : ¬ ((v3 + (4 : Int32)) < 0 ∨ Ln ≤ (v3 + (4 : Int32)).toNatClampNeg)) (h5 : ¬ ((v3 + (5 : Int32)) < 0 ∨ Ln ≤ (v3 + (5 : Int32)).toNatClampNeg)) (K : ∀ μ, Inv μ → Ends (k18 0 146 (v3 + (6 : Int32))) μ) {μ : sm_Mem} (hI : Inv μ) : Ends (fnL_law_J816 sx Ln k18 0 146 v3) μ := by
  unfold fnL_law_J816
  obtain ⟨r, μ1, μ2, a1, a2, hI2⟩ := hop _ _ μ hI
  exact e_gd h1 (e_gd h2 (e_bnd a1 (e_gd h1 (e_gd h2 (e_bnd a2 (e_brT rfl (K μ2 hI2)))))))
theorem bk_gap {Inv : sm_Mem → Prop} (hop : (∀ (a : Int32), op2 Inv (fnX11_gap 0 a) (fnX12_gap 146 a))) {sx : Nat → Int32} {Ln : Nat} {k18 : Nat → Nat → Int32 → sm_M Bool} {v3 : Int32} (h1 : ¬ ((v3 + (1 : Int32)) < 0 ∨ Ln ≤ (v3 + (1 : Int32)).toNatClampNeg)) (h2 : ¬ ((v3 + (2 : Int32)) < 0 ∨ Ln ≤ (v3 + (2 : Int32)).toNatClampNeg)) (h3 : ¬ ((v3 + (3 : Int32)) < 0 ∨ Ln ≤ (v3 + (3 : Int32)).toNatClampNeg)) (h4 : ¬ ((v3 + (4 : Int32)) < 0 ∨ Ln ≤ (v3 + (4 : Int32)).toNatClampNeg)) (h5 : ¬ ((v3 + (5 : Int32)) < 0 ∨ Ln ≤ (v3 + (5 : Int32)).toNatClampNeg)) (K : ∀ μ, Inv μ → Ends (k18 0 146 (v3 + (6 : Int32))) μ) {μ : sm_Mem} (hI : Inv μ) : Ends (fnL_law_J849 sx Ln k18 0 146 v3) μ := by
  unfold fnL_law_J849
  obtain ⟨r, μ1, μ2, a1, a2, hI2⟩ := hop _ μ hI
  exact e_gd h1 (e_bnd a1 (e_gd h1 (e_bnd a2 (e_brT rfl (K μ2 hI2)))))
theorem bk_home {Inv : sm_Mem → Prop} (hop : (∀ (a : Int32), op2 Inv (fnX11_home 0 a) (fnX12_home 146 a))) {sx : Nat → Int32} {Ln : Nat} {k18 : Nat → Nat → Int32 → sm_M Bool} {v3 : Int32} (h1 : ¬ ((v3 + (1 : Int32)) < 0 ∨ Ln ≤ (v3 + (1 : Int32)).toNatClampNeg)) (h2 : ¬ ((v3 + (2 : Int32)) < 0 ∨ Ln ≤ (v3 + (2 : Int32)).toNatClampNeg)) (h3 : ¬ ((v3 + (3 : Int32)) < 0 ∨ Ln ≤ (v3 + (3 : Int32)).toNatClampNeg)) (h4 : ¬ ((v3 + (4 : Int32)) < 0 ∨ Ln ≤ (v3 + (4 : Int32)).toNatClampNeg)) (h5 : ¬ ((v3 + (5 : Int32)) < 0 ∨ Ln ≤ (v3 + (5 : Int32)).toNatClampNeg)) (K : ∀ μ, Inv μ → Ends (k18 0 146 (v3 + (6 : Int32))) μ) {μ : sm_Mem} (hI : Inv μ) : Ends (fnL_law_J872 sx Ln k18 0 146 v3) μ := by
  unfold fnL_law_J872
  obtain ⟨r, μ1, μ2, a1, a2, hI2⟩ := hop _ μ hI
  exact e_gd h1 (e_bnd a1 (e_gd h1 (e_bnd a2 (e_brT rfl (K μ2 hI2)))))
theorem bk_days {Inv : sm_Mem → Prop} (hop : (∀ (a : Int32), op2 Inv (fnX11_days 0 a) (fnX12_days 146 a))) {sx : Nat → Int32} {Ln : Nat} {k18 : Nat → Nat → Int32 → sm_M Bool} {v3 : Int32} (h1 : ¬ ((v3 + (1 : Int32)) < 0 ∨ Ln ≤ (v3 + (1 : Int32)).toNatClampNeg)) (h2 : ¬ ((v3 + (2 : Int32)) < 0 ∨ Ln ≤ (v3 + (2 : Int32)).toNatClampNeg)) (h3 : ¬ ((v3 + (3 : Int32)) < 0 ∨ Ln ≤ (v3 + (3 : Int32)).toNatClampNeg)) (h4 : ¬ ((v3 + (4 : Int32)) < 0 ∨ Ln ≤ (v3 + (4 : Int32)).toNatClampNeg)) (h5 : ¬ ((v3 + (5 : Int32)) < 0 ∨ Ln ≤ (v3 + (5 : Int32)).toNatClampNeg)) (K : ∀ μ, Inv μ → Ends (k18 0 146 (v3 + (6 : Int32))) μ) {μ : sm_Mem} (hI : Inv μ) : Ends (fnL_law_J895 sx Ln k18 0 146 v3) μ := by
  unfold fnL_law_J895
  obtain ⟨r, μ1, μ2, a1, a2, hI2⟩ := hop _ μ hI
  exact e_gd h1 (e_bnd a1 (e_gd h1 (e_bnd a2 (e_brT rfl (K μ2 hI2)))))
theorem bk_best {Inv : sm_Mem → Prop} (hop : (op2 Inv (fnX11_best 0) (fnX12_best 146))) {sx : Nat → Int32} {Ln : Nat} {k18 : Nat → Nat → Int32 → sm_M Bool} {v3 : Int32} (h1 : ¬ ((v3 + (1 : Int32)) < 0 ∨ Ln ≤ (v3 + (1 : Int32)).toNatClampNeg)) (h2 : ¬ ((v3 + (2 : Int32)) < 0 ∨ Ln ≤ (v3 + (2 : Int32)).toNatClampNeg)) (h3 : ¬ ((v3 + (3 : Int32)) < 0 ∨ Ln ≤ (v3 + (3 : Int32)).toNatClampNeg)) (h4 : ¬ ((v3 + (4 : Int32)) < 0 ∨ Ln ≤ (v3 + (4 : Int32)).toNatClampNeg)) (h5 : ¬ ((v3 + (5 : Int32)) < 0 ∨ Ln ≤ (v3 + (5 : Int32)).toNatClampNeg)) (K : ∀ μ, Inv μ → Ends (k18 0 146 (v3 + (6 : Int32))) μ) {μ : sm_Mem} (hI : Inv μ) : Ends (fnL_law_J918 sx Ln k18 0 146 v3) μ := by
  unfold fnL_law_J918
  obtain ⟨r, μ1, μ2, a1, a2, hI2⟩ := hop  μ hI
  exact e_bnd a1 (e_bnd a2 (e_brT rfl (K μ2 hI2)))
theorem bk_most {Inv : sm_Mem → Prop} (hop : (∀ (a : Int32) (b : Int32), op2 Inv (fnX11_most 0 a b) (fnX12_most 146 a b))) {sx : Nat → Int32} {Ln : Nat} {k18 : Nat → Nat → Int32 → sm_M Bool} {v3 : Int32} (h1 : ¬ ((v3 + (1 : Int32)) < 0 ∨ Ln ≤ (v3 + (1 : Int32)).toNatClampNeg)) (h2 : ¬ ((v3 + (2 : Int32)) < 0 ∨ Ln ≤ (v3 + (2 : Int32)).toNatClampNeg)) (h3 : ¬ ((v3 + (3 : Int32)) < 0 ∨ Ln ≤ (v3 + (3 : Int32)).toNatClampNeg)) (h4 : ¬ ((v3 + (4 : Int32)) < 0 ∨ Ln ≤ (v3 + (4 : Int32)).toNatClampNeg)) (h5 : ¬ ((v3 + (5 : Int32)) < 0 ∨ Ln ≤ (v3 + (5 : Int32)).toNatClampNeg)) (K : ∀ μ, Inv μ → Ends (k18 0 146 (v3 + (6 : Int32))) μ) {μ : sm_Mem} (hI : Inv μ) : Ends (fnL_law_J931 sx Ln k18 0 146 v3) μ := by
  unfold fnL_law_J931
  obtain ⟨r, μ1, μ2, a1, a2, hI2⟩ := hop _ _ μ hI
  exact e_gd h1 (e_gd h2 (e_bnd a1 (e_gd h1 (e_gd h2 (e_bnd a2 (e_brT rfl (K μ2 hI2)))))))
theorem bk_cut {Inv : sm_Mem → Prop} (hop : (∀ (a : Int32) (b : Int32), op2 Inv (fnX11_cut 0 a b) (fnX12_cut 146 a b))) {sx : Nat → Int32} {Ln : Nat} {k18 : Nat → Nat → Int32 → sm_M Bool} {v3 : Int32} (h1 : ¬ ((v3 + (1 : Int32)) < 0 ∨ Ln ≤ (v3 + (1 : Int32)).toNatClampNeg)) (h2 : ¬ ((v3 + (2 : Int32)) < 0 ∨ Ln ≤ (v3 + (2 : Int32)).toNatClampNeg)) (h3 : ¬ ((v3 + (3 : Int32)) < 0 ∨ Ln ≤ (v3 + (3 : Int32)).toNatClampNeg)) (h4 : ¬ ((v3 + (4 : Int32)) < 0 ∨ Ln ≤ (v3 + (4 : Int32)).toNatClampNeg)) (h5 : ¬ ((v3 + (5 : Int32)) < 0 ∨ Ln ≤ (v3 + (5 : Int32)).toNatClampNeg)) (K : ∀ μ, Inv μ → Ends (k18 0 146 (v3 + (6 : Int32))) μ) {μ : sm_Mem} (hI : Inv μ) : Ends (fnL_law_J964 sx Ln k18 0 146 v3) μ := by
  unfold fnL_law_J964
  obtain ⟨r, μ1, μ2, a1, a2, hI2⟩ := hop _ _ μ hI
  exact e_gd h1 (e_gd h2 (e_bnd a1 (e_gd h1 (e_gd h2 (e_bnd a2 (e_brT rfl (K μ2 hI2)))))))
theorem bk_bars {Inv : sm_Mem → Prop} (hop : (∀ (a : Int32) (b : Int32) (c : Int32), op2 Inv (fnX11_bars 0 a b c) (fnX12_bars 146 a b c))) {sx : Nat → Int32} {Ln : Nat} {k18 : Nat → Nat → Int32 → sm_M Bool} {v3 : Int32} (h1 : ¬ ((v3 + (1 : Int32)) < 0 ∨ Ln ≤ (v3 + (1 : Int32)).toNatClampNeg)) (h2 : ¬ ((v3 + (2 : Int32)) < 0 ∨ Ln ≤ (v3 + (2 : Int32)).toNatClampNeg)) (h3 : ¬ ((v3 + (3 : Int32)) < 0 ∨ Ln ≤ (v3 + (3 : Int32)).toNatClampNeg)) (h4 : ¬ ((v3 + (4 : Int32)) < 0 ∨ Ln ≤ (v3 + (4 : Int32)).toNatClampNeg)) (h5 : ¬ ((v3 + (5 : Int32)) < 0 ∨ Ln ≤ (v3 + (5 : Int32)).toNatClampNeg)) (K : ∀ μ, Inv μ → Ends (k18 0 146 (v3 + (6 : Int32))) μ) {μ : sm_Mem} (hI : Inv μ) : Ends (fnL_law_J997 sx Ln k18 0 146 v3) μ := by
  unfold fnL_law_J997
  obtain ⟨r, μ1, μ2, a1, a2, hI2⟩ := hop _ _ _ μ hI
  exact e_gd h1 (e_gd h2 (e_gd h3 (e_bnd a1 (e_gd h1 (e_gd h2 (e_gd h3 (e_bnd a2 (e_brT rfl (K μ2 hI2)))))))))
theorem bk_alike {Inv : sm_Mem → Prop} (hop : (∀ (a : Int32) (b : Int32) (c : Int32), op2 Inv (fnX11_alike 0 a b c) (fnX12_alike 146 a b c))) {sx : Nat → Int32} {Ln : Nat} {k18 : Nat → Nat → Int32 → sm_M Bool} {v3 : Int32} (h1 : ¬ ((v3 + (1 : Int32)) < 0 ∨ Ln ≤ (v3 + (1 : Int32)).toNatClampNeg)) (h2 : ¬ ((v3 + (2 : Int32)) < 0 ∨ Ln ≤ (v3 + (2 : Int32)).toNatClampNeg)) (h3 : ¬ ((v3 + (3 : Int32)) < 0 ∨ Ln ≤ (v3 + (3 : Int32)).toNatClampNeg)) (h4 : ¬ ((v3 + (4 : Int32)) < 0 ∨ Ln ≤ (v3 + (4 : Int32)).toNatClampNeg)) (h5 : ¬ ((v3 + (5 : Int32)) < 0 ∨ Ln ≤ (v3 + (5 : Int32)).toNatClampNeg)) (K : ∀ μ, Inv μ → Ends (k18 0 146 (v3 + (6 : Int32))) μ) {μ : sm_Mem} (hI : Inv μ) : Ends (fnL_law_J1040 sx Ln k18 0 146 v3) μ := by
  unfold fnL_law_J1040
  obtain ⟨r, μ1, μ2, a1, a2, hI2⟩ := hop _ _ _ μ hI
  exact e_gd h1 (e_gd h2 (e_gd h3 (e_bnd a1 (e_gd h1 (e_gd h2 (e_gd h3 (e_bnd a2 (e_brT rfl (K μ2 hI2)))))))))
theorem bk_more {Inv : sm_Mem → Prop} (hop : (∀ (a : Int32) (b : Int32) (c : Int32) (d : Int32), op2 Inv (fnX11_more 0 a b c d) (fnX12_more 146 a b c d))) {sx : Nat → Int32} {Ln : Nat} {k18 : Nat → Nat → Int32 → sm_M Bool} {v3 : Int32} (h1 : ¬ ((v3 + (1 : Int32)) < 0 ∨ Ln ≤ (v3 + (1 : Int32)).toNatClampNeg)) (h2 : ¬ ((v3 + (2 : Int32)) < 0 ∨ Ln ≤ (v3 + (2 : Int32)).toNatClampNeg)) (h3 : ¬ ((v3 + (3 : Int32)) < 0 ∨ Ln ≤ (v3 + (3 : Int32)).toNatClampNeg)) (h4 : ¬ ((v3 + (4 : Int32)) < 0 ∨ Ln ≤ (v3 + (4 : Int32)).toNatClampNeg)) (h5 : ¬ ((v3 + (5 : Int32)) < 0 ∨ Ln ≤ (v3 + (5 : Int32)).toNatClampNeg)) (K : ∀ μ, Inv μ → Ends (k18 0 146 (v3 + (6 : Int32))) μ) {μ : sm_Mem} (hI : Inv μ) : Ends (fnL_law_J1083 sx Ln k18 0 146 v3) μ := by
  unfold fnL_law_J1083
  obtain ⟨r, μ1, μ2, a1, a2, hI2⟩ := hop _ _ _ _ μ hI
  exact e_gd h1 (e_gd h2 (e_gd h3 (e_gd h4 (e_bnd a1 (e_gd h1 (e_gd h2 (e_gd h3 (e_gd h4 (e_bnd a2 (e_brT rfl (K μ2 hI2)))))))))))
theorem bk_where {Inv : sm_Mem → Prop} (hop : (∀ (a : Int32) (b : Int32), op2 Inv (fnX11_where 0 a b) (fnX12_where 146 a b))) {sx : Nat → Int32} {Ln : Nat} {k18 : Nat → Nat → Int32 → sm_M Bool} {v3 : Int32} (h1 : ¬ ((v3 + (1 : Int32)) < 0 ∨ Ln ≤ (v3 + (1 : Int32)).toNatClampNeg)) (h2 : ¬ ((v3 + (2 : Int32)) < 0 ∨ Ln ≤ (v3 + (2 : Int32)).toNatClampNeg)) (h3 : ¬ ((v3 + (3 : Int32)) < 0 ∨ Ln ≤ (v3 + (3 : Int32)).toNatClampNeg)) (h4 : ¬ ((v3 + (4 : Int32)) < 0 ∨ Ln ≤ (v3 + (4 : Int32)).toNatClampNeg)) (h5 : ¬ ((v3 + (5 : Int32)) < 0 ∨ Ln ≤ (v3 + (5 : Int32)).toNatClampNeg)) (K : ∀ μ, Inv μ → Ends (k18 0 146 (v3 + (6 : Int32))) μ) {μ : sm_Mem} (hI : Inv μ) : Ends (fnL_law_J1136 sx Ln k18 0 146 v3) μ := by
  unfold fnL_law_J1136
  obtain ⟨r, μ1, μ2, a1, a2, hI2⟩ := hop _ _ μ hI
  exact e_gd h1 (e_gd h2 (e_bnd a1 (e_gd h1 (e_gd h2 (e_bnd a2 (e_brT rfl (K μ2 hI2)))))))
theorem bk_moved {Inv : sm_Mem → Prop} (hop : (∀ (a : Int32) (b : Int32) (c : Int32), op2 Inv (fnX11_moved 0 a b c) (fnX12_moved 146 a b c))) {sx : Nat → Int32} {Ln : Nat} {k18 : Nat → Nat → Int32 → sm_M Bool} {v3 : Int32} (h1 : ¬ ((v3 + (1 : Int32)) < 0 ∨ Ln ≤ (v3 + (1 : Int32)).toNatClampNeg)) (h2 : ¬ ((v3 + (2 : Int32)) < 0 ∨ Ln ≤ (v3 + (2 : Int32)).toNatClampNeg)) (h3 : ¬ ((v3 + (3 : Int32)) < 0 ∨ Ln ≤ (v3 + (3 : Int32)).toNatClampNeg)) (h4 : ¬ ((v3 + (4 : Int32)) < 0 ∨ Ln ≤ (v3 + (4 : Int32)).toNatClampNeg)) (h5 : ¬ ((v3 + (5 : Int32)) < 0 ∨ Ln ≤ (v3 + (5 : Int32)).toNatClampNeg)) (K : ∀ μ, Inv μ → Ends (k18 0 146 (v3 + (6 : Int32))) μ) {μ : sm_Mem} (hI : Inv μ) : Ends (fnL_law_J1169 sx Ln k18 0 146 v3) μ := by
  unfold fnL_law_J1169
  obtain ⟨r, μ1, μ2, a1, a2, hI2⟩ := hop _ _ _ μ hI
  exact e_gd h1 (e_gd h2 (e_gd h3 (e_bnd a1 (e_gd h1 (e_gd h2 (e_gd h3 (e_bnd a2 (e_brT rfl (K μ2 hI2)))))))))
theorem bk_move {Inv : sm_Mem → Prop} (hop : (∀ (a : Int32) (b : Int32), op2 Inv (fnX11_move 0 a b) (fnX12_move 146 a b))) {sx : Nat → Int32} {Ln : Nat} {k18 : Nat → Nat → Int32 → sm_M Bool} {v3 : Int32} (h1 : ¬ ((v3 + (1 : Int32)) < 0 ∨ Ln ≤ (v3 + (1 : Int32)).toNatClampNeg)) (h2 : ¬ ((v3 + (2 : Int32)) < 0 ∨ Ln ≤ (v3 + (2 : Int32)).toNatClampNeg)) (h3 : ¬ ((v3 + (3 : Int32)) < 0 ∨ Ln ≤ (v3 + (3 : Int32)).toNatClampNeg)) (h4 : ¬ ((v3 + (4 : Int32)) < 0 ∨ Ln ≤ (v3 + (4 : Int32)).toNatClampNeg)) (h5 : ¬ ((v3 + (5 : Int32)) < 0 ∨ Ln ≤ (v3 + (5 : Int32)).toNatClampNeg)) (K : ∀ μ, Inv μ → Ends (k18 0 146 (v3 + (6 : Int32))) μ) {μ : sm_Mem} (hI : Inv μ) : Ends (fnL_law_J1212 sx Ln k18 0 146 v3) μ := by
  unfold fnL_law_J1212
  obtain ⟨r, μ1, μ2, a1, a2, hI2⟩ := hop _ _ μ hI
  exact e_gd h1 (e_gd h2 (e_bnd a1 (e_gd h1 (e_gd h2 (e_bnd a2 (e_brT rfl (K μ2 hI2)))))))
theorem bk_plank {Inv : sm_Mem → Prop} (hop : (∀ (a : Int32) (b : Int32) (c : Int32), op2 Inv (fnX11_plank 0 a b c) (fnX12_plank 146 a b c))) {sx : Nat → Int32} {Ln : Nat} {k18 : Nat → Nat → Int32 → sm_M Bool} {v3 : Int32} (h1 : ¬ ((v3 + (1 : Int32)) < 0 ∨ Ln ≤ (v3 + (1 : Int32)).toNatClampNeg)) (h2 : ¬ ((v3 + (2 : Int32)) < 0 ∨ Ln ≤ (v3 + (2 : Int32)).toNatClampNeg)) (h3 : ¬ ((v3 + (3 : Int32)) < 0 ∨ Ln ≤ (v3 + (3 : Int32)).toNatClampNeg)) (h4 : ¬ ((v3 + (4 : Int32)) < 0 ∨ Ln ≤ (v3 + (4 : Int32)).toNatClampNeg)) (h5 : ¬ ((v3 + (5 : Int32)) < 0 ∨ Ln ≤ (v3 + (5 : Int32)).toNatClampNeg)) (K : ∀ μ, Inv μ → Ends (k18 0 146 (v3 + (6 : Int32))) μ) {μ : sm_Mem} (hI : Inv μ) : Ends (fnL_law_J1245 sx Ln k18 0 146 v3) μ := by
  unfold fnL_law_J1245
  obtain ⟨r, μ1, μ2, a1, a2, hI2⟩ := hop _ _ _ μ hI
  exact e_gd h1 (e_gd h2 (e_gd h3 (e_bnd a1 (e_gd h1 (e_gd h2 (e_gd h3 (e_bnd a2 (e_brT rfl (K μ2 hI2)))))))))
theorem bk_planks {Inv : sm_Mem → Prop} (hop : (∀ (a : Int32), op2 Inv (fnX11_planks 0 a) (fnX12_planks 146 a))) {sx : Nat → Int32} {Ln : Nat} {k18 : Nat → Nat → Int32 → sm_M Bool} {v3 : Int32} (h1 : ¬ ((v3 + (1 : Int32)) < 0 ∨ Ln ≤ (v3 + (1 : Int32)).toNatClampNeg)) (h2 : ¬ ((v3 + (2 : Int32)) < 0 ∨ Ln ≤ (v3 + (2 : Int32)).toNatClampNeg)) (h3 : ¬ ((v3 + (3 : Int32)) < 0 ∨ Ln ≤ (v3 + (3 : Int32)).toNatClampNeg)) (h4 : ¬ ((v3 + (4 : Int32)) < 0 ∨ Ln ≤ (v3 + (4 : Int32)).toNatClampNeg)) (h5 : ¬ ((v3 + (5 : Int32)) < 0 ∨ Ln ≤ (v3 + (5 : Int32)).toNatClampNeg)) (K : ∀ μ, Inv μ → Ends (k18 0 146 (v3 + (6 : Int32))) μ) {μ : sm_Mem} (hI : Inv μ) : Ends (fnL_law_J1288 sx Ln k18 0 146 v3) μ := by
  unfold fnL_law_J1288
  obtain ⟨r, μ1, μ2, a1, a2, hI2⟩ := hop _ μ hI
  exact e_gd h1 (e_bnd a1 (e_gd h1 (e_bnd a2 (e_brT rfl (K μ2 hI2)))))
theorem bk_know {Inv : sm_Mem → Prop} (hop : (∀ (a : Int32) (b : Bool), op2 Inv (fnX11_know 0 a (bI b)) (fnX12_know 146 a (bI b)))) {sx : Nat → Int32} {Ln : Nat} {k18 : Nat → Nat → Int32 → sm_M Bool} {v3 : Int32} (h1 : ¬ ((v3 + (1 : Int32)) < 0 ∨ Ln ≤ (v3 + (1 : Int32)).toNatClampNeg)) (h2 : ¬ ((v3 + (2 : Int32)) < 0 ∨ Ln ≤ (v3 + (2 : Int32)).toNatClampNeg)) (h3 : ¬ ((v3 + (3 : Int32)) < 0 ∨ Ln ≤ (v3 + (3 : Int32)).toNatClampNeg)) (h4 : ¬ ((v3 + (4 : Int32)) < 0 ∨ Ln ≤ (v3 + (4 : Int32)).toNatClampNeg)) (h5 : ¬ ((v3 + (5 : Int32)) < 0 ∨ Ln ≤ (v3 + (5 : Int32)).toNatClampNeg)) (K : ∀ μ, Inv μ → Ends (k18 0 146 (v3 + (6 : Int32))) μ) {μ : sm_Mem} (hI : Inv μ) : Ends (fnL_law_J1311 sx Ln k18 0 146 v3) μ := by
  unfold fnL_law_J1311
  refine e_gd h1 (e_gd h2 ?_)
  by_cases c : sx (v3 + (2 : Int32)).toNatClampNeg = 0
  · refine e_brT c ?_
    unfold fnL_law_J1330
    obtain ⟨r, μ1, μ2, a1, a2, hI2⟩ := hop (sx (v3 + (1 : Int32)).toNatClampNeg) false μ hI
    refine e_bnd a1 (e_gd h1 (e_gd h2 (e_brT c ?_)))
    unfold fnL_law_J1352
    exact e_bnd a2 (e_brT rfl (K μ2 hI2))
  · refine e_brF c ?_
    unfold fnL_law_J1330
    obtain ⟨r, μ1, μ2, a1, a2, hI2⟩ := hop (sx (v3 + (1 : Int32)).toNatClampNeg) true μ hI
    refine e_bnd a1 (e_gd h1 (e_gd h2 (e_brF c ?_)))
    unfold fnL_law_J1352
    exact e_bnd a2 (e_brT rfl (K μ2 hI2))
theorem bk_sure {Inv : sm_Mem → Prop} (hop : (∀ (a : Int32) (b : Int32), op2 Inv (fnX11_sure 0 a b) (fnX12_sure 146 a b))) {sx : Nat → Int32} {Ln : Nat} {k18 : Nat → Nat → Int32 → sm_M Bool} {v3 : Int32} (h1 : ¬ ((v3 + (1 : Int32)) < 0 ∨ Ln ≤ (v3 + (1 : Int32)).toNatClampNeg)) (h2 : ¬ ((v3 + (2 : Int32)) < 0 ∨ Ln ≤ (v3 + (2 : Int32)).toNatClampNeg)) (h3 : ¬ ((v3 + (3 : Int32)) < 0 ∨ Ln ≤ (v3 + (3 : Int32)).toNatClampNeg)) (h4 : ¬ ((v3 + (4 : Int32)) < 0 ∨ Ln ≤ (v3 + (4 : Int32)).toNatClampNeg)) (h5 : ¬ ((v3 + (5 : Int32)) < 0 ∨ Ln ≤ (v3 + (5 : Int32)).toNatClampNeg)) (K : ∀ μ, Inv μ → Ends (k18 0 146 (v3 + (6 : Int32))) μ) {μ : sm_Mem} (hI : Inv μ) : Ends (fnL_law_J1360 sx Ln k18 0 146 v3) μ := by
  unfold fnL_law_J1360
  obtain ⟨r, μ1, μ2, a1, a2, hI2⟩ := hop _ _ μ hI
  exact e_gd h1 (e_gd h2 (e_bnd a1 (e_gd h1 (e_gd h2 (e_bnd a2 (e_brT (lp_cmp r) (K μ2 hI2)))))))
theorem bk_tread {Inv : sm_Mem → Prop} (hop : (∀ (a : Int32) (b : Int32) (c : Int32), op2 Inv (fnX11_tread 0 a b c) (fnX12_tread 146 a b c))) {sx : Nat → Int32} {Ln : Nat} {k18 : Nat → Nat → Int32 → sm_M Bool} {v3 : Int32} (h1 : ¬ ((v3 + (1 : Int32)) < 0 ∨ Ln ≤ (v3 + (1 : Int32)).toNatClampNeg)) (h2 : ¬ ((v3 + (2 : Int32)) < 0 ∨ Ln ≤ (v3 + (2 : Int32)).toNatClampNeg)) (h3 : ¬ ((v3 + (3 : Int32)) < 0 ∨ Ln ≤ (v3 + (3 : Int32)).toNatClampNeg)) (h4 : ¬ ((v3 + (4 : Int32)) < 0 ∨ Ln ≤ (v3 + (4 : Int32)).toNatClampNeg)) (h5 : ¬ ((v3 + (5 : Int32)) < 0 ∨ Ln ≤ (v3 + (5 : Int32)).toNatClampNeg)) (K : ∀ μ, Inv μ → Ends (k18 0 146 (v3 + (6 : Int32))) μ) {μ : sm_Mem} (hI : Inv μ) : Ends (fnL_law_J1394 sx Ln k18 0 146 v3) μ := by
  unfold fnL_law_J1394
  obtain ⟨r, μ1, μ2, a1, a2, hI2⟩ := hop _ _ _ μ hI
  exact e_gd h1 (e_gd h2 (e_gd h3 (e_bnd a1 (e_gd h1 (e_gd h2 (e_gd h3 (e_bnd a2 (e_brT (lp_cmp r) (K μ2 hI2)))))))))
theorem bk_first {Inv : sm_Mem → Prop} (hop : (∀ (a : Int32) (b : Int32), op2 Inv (fnX11_first 0 a b) (fnX12_first 146 a b))) {sx : Nat → Int32} {Ln : Nat} {k18 : Nat → Nat → Int32 → sm_M Bool} {v3 : Int32} (h1 : ¬ ((v3 + (1 : Int32)) < 0 ∨ Ln ≤ (v3 + (1 : Int32)).toNatClampNeg)) (h2 : ¬ ((v3 + (2 : Int32)) < 0 ∨ Ln ≤ (v3 + (2 : Int32)).toNatClampNeg)) (h3 : ¬ ((v3 + (3 : Int32)) < 0 ∨ Ln ≤ (v3 + (3 : Int32)).toNatClampNeg)) (h4 : ¬ ((v3 + (4 : Int32)) < 0 ∨ Ln ≤ (v3 + (4 : Int32)).toNatClampNeg)) (h5 : ¬ ((v3 + (5 : Int32)) < 0 ∨ Ln ≤ (v3 + (5 : Int32)).toNatClampNeg)) (K : ∀ μ, Inv μ → Ends (k18 0 146 (v3 + (6 : Int32))) μ) {μ : sm_Mem} (hI : Inv μ) : Ends (fnL_law_J1438 sx Ln k18 0 146 v3) μ := by
  unfold fnL_law_J1438
  obtain ⟨r, μ1, μ2, a1, a2, hI2⟩ := hop _ _ μ hI
  exact e_gd h1 (e_gd h2 (e_bnd a1 (e_gd h1 (e_gd h2 (e_bnd a2 (e_brT rfl (K μ2 hI2)))))))
theorem bk_price {Inv : sm_Mem → Prop} (hop : (∀ (a : Int32) (b : Int32) (c : Int32), op2 Inv (fnX11_price 0 a b c) (fnX12_price 146 a b c))) {sx : Nat → Int32} {Ln : Nat} {k18 : Nat → Nat → Int32 → sm_M Bool} {v3 : Int32} (h1 : ¬ ((v3 + (1 : Int32)) < 0 ∨ Ln ≤ (v3 + (1 : Int32)).toNatClampNeg)) (h2 : ¬ ((v3 + (2 : Int32)) < 0 ∨ Ln ≤ (v3 + (2 : Int32)).toNatClampNeg)) (h3 : ¬ ((v3 + (3 : Int32)) < 0 ∨ Ln ≤ (v3 + (3 : Int32)).toNatClampNeg)) (h4 : ¬ ((v3 + (4 : Int32)) < 0 ∨ Ln ≤ (v3 + (4 : Int32)).toNatClampNeg)) (h5 : ¬ ((v3 + (5 : Int32)) < 0 ∨ Ln ≤ (v3 + (5 : Int32)).toNatClampNeg)) (K : ∀ μ, Inv μ → Ends (k18 0 146 (v3 + (6 : Int32))) μ) {μ : sm_Mem} (hI : Inv μ) : Ends (fnL_law_J1471 sx Ln k18 0 146 v3) μ := by
  unfold fnL_law_J1471
  obtain ⟨r, μ1, μ2, a1, a2, hI2⟩ := hop _ _ _ μ hI
  exact e_gd h1 (e_gd h2 (e_gd h3 (e_bnd a1 (e_gd h1 (e_gd h2 (e_gd h3 (e_bnd a2 (e_brT rfl (K μ2 hI2)))))))))
theorem bk_keep {Inv : sm_Mem → Prop} (hop : (∀ (a : Int32) (b : Int32), op2 Inv (fnX11_keep 0 a b) (fnX12_keep 146 a b))) {sx : Nat → Int32} {Ln : Nat} {k18 : Nat → Nat → Int32 → sm_M Bool} {v3 : Int32} (h1 : ¬ ((v3 + (1 : Int32)) < 0 ∨ Ln ≤ (v3 + (1 : Int32)).toNatClampNeg)) (h2 : ¬ ((v3 + (2 : Int32)) < 0 ∨ Ln ≤ (v3 + (2 : Int32)).toNatClampNeg)) (h3 : ¬ ((v3 + (3 : Int32)) < 0 ∨ Ln ≤ (v3 + (3 : Int32)).toNatClampNeg)) (h4 : ¬ ((v3 + (4 : Int32)) < 0 ∨ Ln ≤ (v3 + (4 : Int32)).toNatClampNeg)) (h5 : ¬ ((v3 + (5 : Int32)) < 0 ∨ Ln ≤ (v3 + (5 : Int32)).toNatClampNeg)) (K : ∀ μ, Inv μ → Ends (k18 0 146 (v3 + (6 : Int32))) μ) {μ : sm_Mem} (hI : Inv μ) : Ends (fnL_law_J1514 sx Ln k18 0 146 v3) μ := by
  unfold fnL_law_J1514
  obtain ⟨r, μ1, μ2, a1, a2, hI2⟩ := hop _ _ μ hI
  exact e_gd h1 (e_gd h2 (e_bnd a1 (e_gd h1 (e_gd h2 (e_bnd a2 (e_brT rfl (K μ2 hI2)))))))
theorem bk_late {Inv : sm_Mem → Prop} (hop : (∀ (a : Int32) (b : Int32), op2 Inv (fnX11_late 0 a b) (fnX12_late 146 a b))) {sx : Nat → Int32} {Ln : Nat} {k18 : Nat → Nat → Int32 → sm_M Bool} {v3 : Int32} (h1 : ¬ ((v3 + (1 : Int32)) < 0 ∨ Ln ≤ (v3 + (1 : Int32)).toNatClampNeg)) (h2 : ¬ ((v3 + (2 : Int32)) < 0 ∨ Ln ≤ (v3 + (2 : Int32)).toNatClampNeg)) (h3 : ¬ ((v3 + (3 : Int32)) < 0 ∨ Ln ≤ (v3 + (3 : Int32)).toNatClampNeg)) (h4 : ¬ ((v3 + (4 : Int32)) < 0 ∨ Ln ≤ (v3 + (4 : Int32)).toNatClampNeg)) (h5 : ¬ ((v3 + (5 : Int32)) < 0 ∨ Ln ≤ (v3 + (5 : Int32)).toNatClampNeg)) (K : ∀ μ, Inv μ → Ends (k18 0 146 (v3 + (6 : Int32))) μ) {μ : sm_Mem} (hI : Inv μ) : Ends (fnL_law_J1547 sx Ln k18 0 146 v3) μ := by
  unfold fnL_law_J1547
  obtain ⟨r, μ1, μ2, a1, a2, hI2⟩ := hop _ _ μ hI
  exact e_gd h1 (e_gd h2 (e_bnd a1 (e_gd h1 (e_gd h2 (e_bnd a2 (e_brT rfl (K μ2 hI2)))))))
theorem bk_noon {Inv : sm_Mem → Prop} (hop : (∀ (a : Int32) (b : Int32), op2 Inv (fnX11_noon 0 a b) (fnX12_noon 146 a b))) {sx : Nat → Int32} {Ln : Nat} {k18 : Nat → Nat → Int32 → sm_M Bool} {v3 : Int32} (h1 : ¬ ((v3 + (1 : Int32)) < 0 ∨ Ln ≤ (v3 + (1 : Int32)).toNatClampNeg)) (h2 : ¬ ((v3 + (2 : Int32)) < 0 ∨ Ln ≤ (v3 + (2 : Int32)).toNatClampNeg)) (h3 : ¬ ((v3 + (3 : Int32)) < 0 ∨ Ln ≤ (v3 + (3 : Int32)).toNatClampNeg)) (h4 : ¬ ((v3 + (4 : Int32)) < 0 ∨ Ln ≤ (v3 + (4 : Int32)).toNatClampNeg)) (h5 : ¬ ((v3 + (5 : Int32)) < 0 ∨ Ln ≤ (v3 + (5 : Int32)).toNatClampNeg)) (K : ∀ μ, Inv μ → Ends (k18 0 146 (v3 + (6 : Int32))) μ) {μ : sm_Mem} (hI : Inv μ) : Ends (fnL_law_J1580 sx Ln k18 0 146 v3) μ := by
  unfold fnL_law_J1580
  obtain ⟨r, μ1, μ2, a1, a2, hI2⟩ := hop _ _ μ hI
  exact e_gd h1 (e_gd h2 (e_bnd a1 (e_gd h1 (e_gd h2 (e_bnd a2 (e_brT rfl (K μ2 hI2)))))))
theorem bk_waits {Inv : sm_Mem → Prop} (hop : (∀ (a : Int32) (b : Int32), op2 Inv (fnX11_waits 0 a b) (fnX12_waits 146 a b))) {sx : Nat → Int32} {Ln : Nat} {k18 : Nat → Nat → Int32 → sm_M Bool} {v3 : Int32} (h1 : ¬ ((v3 + (1 : Int32)) < 0 ∨ Ln ≤ (v3 + (1 : Int32)).toNatClampNeg)) (h2 : ¬ ((v3 + (2 : Int32)) < 0 ∨ Ln ≤ (v3 + (2 : Int32)).toNatClampNeg)) (h3 : ¬ ((v3 + (3 : Int32)) < 0 ∨ Ln ≤ (v3 + (3 : Int32)).toNatClampNeg)) (h4 : ¬ ((v3 + (4 : Int32)) < 0 ∨ Ln ≤ (v3 + (4 : Int32)).toNatClampNeg)) (h5 : ¬ ((v3 + (5 : Int32)) < 0 ∨ Ln ≤ (v3 + (5 : Int32)).toNatClampNeg)) (K : ∀ μ, Inv μ → Ends (k18 0 146 (v3 + (6 : Int32))) μ) {μ : sm_Mem} (hI : Inv μ) : Ends (fnL_law_J1613 sx Ln k18 0 146 v3) μ := by
  unfold fnL_law_J1613
  obtain ⟨r, μ1, μ2, a1, a2, hI2⟩ := hop _ _ μ hI
  exact e_gd h1 (e_gd h2 (e_bnd a1 (e_gd h1 (e_gd h2 (e_bnd a2 (e_brT rfl (K μ2 hI2)))))))
theorem bk_cross {Inv : sm_Mem → Prop} (hop : (∀ (a : Int32) (b : Int32), op2 Inv (fnX11_cross 0 a b) (fnX12_cross 146 a b))) {sx : Nat → Int32} {Ln : Nat} {k18 : Nat → Nat → Int32 → sm_M Bool} {v3 : Int32} (h1 : ¬ ((v3 + (1 : Int32)) < 0 ∨ Ln ≤ (v3 + (1 : Int32)).toNatClampNeg)) (h2 : ¬ ((v3 + (2 : Int32)) < 0 ∨ Ln ≤ (v3 + (2 : Int32)).toNatClampNeg)) (h3 : ¬ ((v3 + (3 : Int32)) < 0 ∨ Ln ≤ (v3 + (3 : Int32)).toNatClampNeg)) (h4 : ¬ ((v3 + (4 : Int32)) < 0 ∨ Ln ≤ (v3 + (4 : Int32)).toNatClampNeg)) (h5 : ¬ ((v3 + (5 : Int32)) < 0 ∨ Ln ≤ (v3 + (5 : Int32)).toNatClampNeg)) (K : ∀ μ, Inv μ → Ends (k18 0 146 (v3 + (6 : Int32))) μ) {μ : sm_Mem} (hI : Inv μ) : Ends (fnL_law_J1646 sx Ln k18 0 146 v3) μ := by
  unfold fnL_law_J1646
  obtain ⟨r, μ1, μ2, a1, a2, hI2⟩ := hop _ _ μ hI
  exact e_gd h1 (e_gd h2 (e_bnd a1 (e_gd h1 (e_gd h2 (e_bnd a2 (e_brT rfl (K μ2 hI2)))))))
theorem bk_run {Inv : sm_Mem → Prop} (hop : (∀ (a : Int32) (b : Int32), op2 Inv (fnX11_run 0 a b) (fnX12_run 146 a b))) {sx : Nat → Int32} {Ln : Nat} {k18 : Nat → Nat → Int32 → sm_M Bool} {v3 : Int32} (h1 : ¬ ((v3 + (1 : Int32)) < 0 ∨ Ln ≤ (v3 + (1 : Int32)).toNatClampNeg)) (h2 : ¬ ((v3 + (2 : Int32)) < 0 ∨ Ln ≤ (v3 + (2 : Int32)).toNatClampNeg)) (h3 : ¬ ((v3 + (3 : Int32)) < 0 ∨ Ln ≤ (v3 + (3 : Int32)).toNatClampNeg)) (h4 : ¬ ((v3 + (4 : Int32)) < 0 ∨ Ln ≤ (v3 + (4 : Int32)).toNatClampNeg)) (h5 : ¬ ((v3 + (5 : Int32)) < 0 ∨ Ln ≤ (v3 + (5 : Int32)).toNatClampNeg)) (K : ∀ μ, Inv μ → Ends (k18 0 146 (v3 + (6 : Int32))) μ) {μ : sm_Mem} (hI : Inv μ) : Ends (fnL_law_J1679 sx Ln k18 0 146 v3) μ := by
  unfold fnL_law_J1679
  obtain ⟨r, μ1, μ2, a1, a2, hI2⟩ := hop _ _ μ hI
  exact e_gd h1 (e_gd h2 (e_bnd a1 (e_gd h1 (e_gd h2 (e_bnd a2 (e_brT rfl (K μ2 hI2)))))))
theorem bk_runs {Inv : sm_Mem → Prop} (hop : (∀ (a : Int32) (b : Int32) (c : Int32) (d : Int32), op2 Inv (fnX11_runs 0 a b c d) (fnX12_runs 146 a b c d))) {sx : Nat → Int32} {Ln : Nat} {k18 : Nat → Nat → Int32 → sm_M Bool} {v3 : Int32} (h1 : ¬ ((v3 + (1 : Int32)) < 0 ∨ Ln ≤ (v3 + (1 : Int32)).toNatClampNeg)) (h2 : ¬ ((v3 + (2 : Int32)) < 0 ∨ Ln ≤ (v3 + (2 : Int32)).toNatClampNeg)) (h3 : ¬ ((v3 + (3 : Int32)) < 0 ∨ Ln ≤ (v3 + (3 : Int32)).toNatClampNeg)) (h4 : ¬ ((v3 + (4 : Int32)) < 0 ∨ Ln ≤ (v3 + (4 : Int32)).toNatClampNeg)) (h5 : ¬ ((v3 + (5 : Int32)) < 0 ∨ Ln ≤ (v3 + (5 : Int32)).toNatClampNeg)) (K : ∀ μ, Inv μ → Ends (k18 0 146 (v3 + (6 : Int32))) μ) {μ : sm_Mem} (hI : Inv μ) : Ends (fnL_law_J1712 sx Ln k18 0 146 v3) μ := by
  unfold fnL_law_J1712
  obtain ⟨r, μ1, μ2, a1, a2, hI2⟩ := hop _ _ _ _ μ hI
  exact e_gd h1 (e_gd h2 (e_gd h3 (e_gd h4 (e_bnd a1 (e_gd h1 (e_gd h2 (e_gd h3 (e_gd h4 (e_bnd a2 (e_brT rfl (K μ2 hI2)))))))))))
theorem bk_count {Inv : sm_Mem → Prop} (hop : (∀ (a : Int32), op2 Inv (fnX11_count 0 a) (fnX12_count 146 a))) {sx : Nat → Int32} {Ln : Nat} {k18 : Nat → Nat → Int32 → sm_M Bool} {v3 : Int32} (h1 : ¬ ((v3 + (1 : Int32)) < 0 ∨ Ln ≤ (v3 + (1 : Int32)).toNatClampNeg)) (h2 : ¬ ((v3 + (2 : Int32)) < 0 ∨ Ln ≤ (v3 + (2 : Int32)).toNatClampNeg)) (h3 : ¬ ((v3 + (3 : Int32)) < 0 ∨ Ln ≤ (v3 + (3 : Int32)).toNatClampNeg)) (h4 : ¬ ((v3 + (4 : Int32)) < 0 ∨ Ln ≤ (v3 + (4 : Int32)).toNatClampNeg)) (h5 : ¬ ((v3 + (5 : Int32)) < 0 ∨ Ln ≤ (v3 + (5 : Int32)).toNatClampNeg)) (K : ∀ μ, Inv μ → Ends (k18 0 146 (v3 + (6 : Int32))) μ) {μ : sm_Mem} (hI : Inv μ) : Ends (fnL_law_J1765 sx Ln k18 0 146 v3) μ := by
  unfold fnL_law_J1765
  obtain ⟨r, μ1, μ2, a1, a2, hI2⟩ := hop _ μ hI
  exact e_gd h1 (e_bnd a1 (e_gd h1 (e_bnd a2 (e_brT rfl (K μ2 hI2)))))
theorem bk_image {Inv : sm_Mem → Prop} (hop : (∀ (a : Int32), op2 Inv (fnX11_image 0 a) (fnX12_image 146 a))) {sx : Nat → Int32} {Ln : Nat} {k18 : Nat → Nat → Int32 → sm_M Bool} {v3 : Int32} (h1 : ¬ ((v3 + (1 : Int32)) < 0 ∨ Ln ≤ (v3 + (1 : Int32)).toNatClampNeg)) (h2 : ¬ ((v3 + (2 : Int32)) < 0 ∨ Ln ≤ (v3 + (2 : Int32)).toNatClampNeg)) (h3 : ¬ ((v3 + (3 : Int32)) < 0 ∨ Ln ≤ (v3 + (3 : Int32)).toNatClampNeg)) (h4 : ¬ ((v3 + (4 : Int32)) < 0 ∨ Ln ≤ (v3 + (4 : Int32)).toNatClampNeg)) (h5 : ¬ ((v3 + (5 : Int32)) < 0 ∨ Ln ≤ (v3 + (5 : Int32)).toNatClampNeg)) (K : ∀ μ, Inv μ → Ends (k18 0 146 (v3 + (6 : Int32))) μ) {μ : sm_Mem} (hI : Inv μ) : Ends (fnL_law_J1788 sx Ln k18 0 146 v3) μ := by
  unfold fnL_law_J1788
  obtain ⟨r, μ1, μ2, a1, a2, hI2⟩ := hop _ μ hI
  exact e_gd h1 (e_bnd a1 (e_gd h1 (e_bnd a2 (e_brT rfl (K μ2 hI2)))))
theorem bk_back {Inv : sm_Mem → Prop} (hop : (∀ (a : Int32), op2 Inv (fnX11_back 0 a) (fnX12_back 146 a))) {sx : Nat → Int32} {Ln : Nat} {k18 : Nat → Nat → Int32 → sm_M Bool} {v3 : Int32} (h1 : ¬ ((v3 + (1 : Int32)) < 0 ∨ Ln ≤ (v3 + (1 : Int32)).toNatClampNeg)) (h2 : ¬ ((v3 + (2 : Int32)) < 0 ∨ Ln ≤ (v3 + (2 : Int32)).toNatClampNeg)) (h3 : ¬ ((v3 + (3 : Int32)) < 0 ∨ Ln ≤ (v3 + (3 : Int32)).toNatClampNeg)) (h4 : ¬ ((v3 + (4 : Int32)) < 0 ∨ Ln ≤ (v3 + (4 : Int32)).toNatClampNeg)) (h5 : ¬ ((v3 + (5 : Int32)) < 0 ∨ Ln ≤ (v3 + (5 : Int32)).toNatClampNeg)) (K : ∀ μ, Inv μ → Ends (k18 0 146 (v3 + (6 : Int32))) μ) {μ : sm_Mem} (hI : Inv μ) : Ends (fnL_law_J1811 sx Ln k18 0 146 v3) μ := by
  unfold fnL_law_J1811
  obtain ⟨r, μ1, μ2, a1, a2, hI2⟩ := hop _ μ hI
  exact e_gd h1 (e_bnd a1 (e_gd h1 (e_bnd a2 (e_brT rfl (K μ2 hI2)))))
theorem bk_row {Inv : sm_Mem → Prop} (hop : (∀ (a : Int32) (b : Int32) (c : Int32), op2 Inv (fnX11_row 0 a b c) (fnX12_row 146 a b c))) {sx : Nat → Int32} {Ln : Nat} {k18 : Nat → Nat → Int32 → sm_M Bool} {v3 : Int32} (h1 : ¬ ((v3 + (1 : Int32)) < 0 ∨ Ln ≤ (v3 + (1 : Int32)).toNatClampNeg)) (h2 : ¬ ((v3 + (2 : Int32)) < 0 ∨ Ln ≤ (v3 + (2 : Int32)).toNatClampNeg)) (h3 : ¬ ((v3 + (3 : Int32)) < 0 ∨ Ln ≤ (v3 + (3 : Int32)).toNatClampNeg)) (h4 : ¬ ((v3 + (4 : Int32)) < 0 ∨ Ln ≤ (v3 + (4 : Int32)).toNatClampNeg)) (h5 : ¬ ((v3 + (5 : Int32)) < 0 ∨ Ln ≤ (v3 + (5 : Int32)).toNatClampNeg)) (K : ∀ μ, Inv μ → Ends (k18 0 146 (v3 + (6 : Int32))) μ) {μ : sm_Mem} (hI : Inv μ) : Ends (fnL_law_J1834 sx Ln k18 0 146 v3) μ := by
  unfold fnL_law_J1834
  obtain ⟨r, μ1, μ2, a1, a2, hI2⟩ := hop _ _ _ μ hI
  exact e_gd h1 (e_gd h2 (e_gd h3 (e_bnd a1 (e_gd h1 (e_gd h2 (e_gd h3 (e_bnd a2 (e_brT rfl (K μ2 hI2)))))))))
theorem bk_write {Inv : sm_Mem → Prop} (hop : (∀ (a : Int32) (b : Int32) (c : Int64), op2 Inv (fnX11_write 0 a b c) (fnX12_write 146 a b c))) {sx : Nat → Int32} {Ln : Nat} {k18 : Nat → Nat → Int32 → sm_M Bool} {v3 : Int32} (h1 : ¬ ((v3 + (1 : Int32)) < 0 ∨ Ln ≤ (v3 + (1 : Int32)).toNatClampNeg)) (h2 : ¬ ((v3 + (2 : Int32)) < 0 ∨ Ln ≤ (v3 + (2 : Int32)).toNatClampNeg)) (h3 : ¬ ((v3 + (3 : Int32)) < 0 ∨ Ln ≤ (v3 + (3 : Int32)).toNatClampNeg)) (h4 : ¬ ((v3 + (4 : Int32)) < 0 ∨ Ln ≤ (v3 + (4 : Int32)).toNatClampNeg)) (h5 : ¬ ((v3 + (5 : Int32)) < 0 ∨ Ln ≤ (v3 + (5 : Int32)).toNatClampNeg)) (K : ∀ μ, Inv μ → Ends (k18 0 146 (v3 + (6 : Int32))) μ) {μ : sm_Mem} (hI : Inv μ) : Ends (fnL_law_J1877 sx Ln k18 0 146 v3) μ := by
  unfold fnL_law_J1877
  obtain ⟨r, μ1, μ2, a1, a2, hI2⟩ := hop _ _ _ μ hI
  exact e_gd h1 (e_gd h2 (e_gd h3 (e_gd h4 (e_bnd a1 (e_gd h1 (e_gd h2 (e_gd h3 (e_gd h4 (e_bnd a2 (e_brT rfl (K μ2 hI2)))))))))))
theorem bk_paste {Inv : sm_Mem → Prop} (hop : (∀ (a : Int32) (b : Int32) (c : Int32) (d : Int32) (e : Int32), op2 Inv (fnX11_paste 0 a b c d e) (fnX12_paste 146 a b c d e))) {sx : Nat → Int32} {Ln : Nat} {k18 : Nat → Nat → Int32 → sm_M Bool} {v3 : Int32} (h1 : ¬ ((v3 + (1 : Int32)) < 0 ∨ Ln ≤ (v3 + (1 : Int32)).toNatClampNeg)) (h2 : ¬ ((v3 + (2 : Int32)) < 0 ∨ Ln ≤ (v3 + (2 : Int32)).toNatClampNeg)) (h3 : ¬ ((v3 + (3 : Int32)) < 0 ∨ Ln ≤ (v3 + (3 : Int32)).toNatClampNeg)) (h4 : ¬ ((v3 + (4 : Int32)) < 0 ∨ Ln ≤ (v3 + (4 : Int32)).toNatClampNeg)) (h5 : ¬ ((v3 + (5 : Int32)) < 0 ∨ Ln ≤ (v3 + (5 : Int32)).toNatClampNeg)) (K : ∀ μ, Inv μ → Ends (k18 0 146 (v3 + (6 : Int32))) μ) {μ : sm_Mem} (hI : Inv μ) : Ends (fnL_law_J1950 sx Ln k18 0 146 v3) μ := by
  unfold fnL_law_J1950
  obtain ⟨r, μ1, μ2, a1, a2, hI2⟩ := hop _ _ _ _ _ μ hI
  exact e_gd h1 (e_gd h2 (e_gd h3 (e_gd h4 (e_gd h5 (e_bnd a1 (e_gd h1 (e_gd h2 (e_gd h3 (e_gd h4 (e_gd h5 (e_bnd a2 (e_brT rfl (K μ2 hI2)))))))))))))
set_option maxHeartbeats 4000000 in
set_option maxRecDepth 100000 in
theorem lp_loop {Inv : sm_Mem → Prop} (hops : AllOps Inv) (sx : Nat → Int32) {Ln : Nat} (hL : Ln ≤ 3072) : ∀ (n i : Nat) (μ : sm_Mem), Ln + 6 < 6 * (i + n) → 6 * i ≤ Ln → Inv μ → Ends (fnL_law_L18 sx Ln n 0 146 (nI (6 * i))) μ := by
  obtain ⟨o0, o1, o2, o3, o4, o5, o6, o7, o8, o9, o10, o11, o12, o13, o14, o15, o16, o17, o18, o19, o20, o21, o22, o23, o24, o25, o26, o27, o28, o29, o30, o31, o32, o33, o34, o35, o36, o37, o38, o39, o40, o41, o42, o43, o44, o45, o46, o47, o48, o49, o50⟩ := hops
  intro n
  induction n with
  | zero =>
    intro i μ hn hi hI
    exact absurd hn (by omega)
  | succ n ih =>
    intro i μ hn hi hI
    unfold fnL_law_L18
    have e6 : nI (6 * i) + (6 : Int32) = nI (6 * (i + 1)) := by
      show nI (6 * i) + nI 6 = nI (6 * (i + 1))
      rw [nI_add]
      rfl
    have hc : (nI Ln - (6 : Int32) < nI (6 * i)) ↔ Ln < 6 * i + 6 := by
      show (nI Ln - nI 6 < nI (6 * i)) ↔ _
      rw [Int32.lt_iff_toInt_lt, pk_sub_toInt (by omega) (by omega), nI_toInt (by omega)]
      omega
    by_cases hd : nI Ln - (6 : Int32) < nI (6 * i)
    · exact e_brT hd e_ret
    refine e_brF hd ?_
    rw [hc] at hd
    refine e_gd (nI_in (by omega) (by omega)) ?_
    show Ends (m_br _ _ _) μ
    have g1 : ¬ ((nI (6 * i) + (1 : Int32)) < 0 ∨ Ln ≤ (nI (6 * i) + (1 : Int32)).toNatClampNeg) := lp_gd (i := 6 * i) (j := 1) hL (nI_add _ 1) (by omega)
    have g2 : ¬ ((nI (6 * i) + (2 : Int32)) < 0 ∨ Ln ≤ (nI (6 * i) + (2 : Int32)).toNatClampNeg) := lp_gd (i := 6 * i) (j := 2) hL (nI_add _ 2) (by omega)
    have g3 : ¬ ((nI (6 * i) + (3 : Int32)) < 0 ∨ Ln ≤ (nI (6 * i) + (3 : Int32)).toNatClampNeg) := lp_gd (i := 6 * i) (j := 3) hL (nI_add _ 3) (by omega)
    have g4 : ¬ ((nI (6 * i) + (4 : Int32)) < 0 ∨ Ln ≤ (nI (6 * i) + (4 : Int32)).toNatClampNeg) := lp_gd (i := 6 * i) (j := 4) hL (nI_add _ 4) (by omega)
    have g5 : ¬ ((nI (6 * i) + (5 : Int32)) < 0 ∨ Ln ≤ (nI (6 * i) + (5 : Int32)).toNatClampNeg) := lp_gd (i := 6 * i) (j := 5) hL (nI_add _ 5) (by omega)
    have K : ∀ μ, Inv μ → Ends (fnL_law_L18 sx Ln n 0 146 (nI (6 * i) + (6 : Int32))) μ := by
      intro μ h
      rw [e6]
      exact ih (i + 1) μ (by omega) (by omega) h
    by_cases c0 : (sx (nI (6 * i)).toNatClampNeg) &&& (63 : Int32) = (0 : Int32)
    · refine e_brT c0 ?_
      exact bk_feed o0 g1 g2 g3 g4 g5 K hI
    refine e_brF c0 ?_
    by_cases c1 : (sx (nI (6 * i)).toNatClampNeg) &&& (63 : Int32) = (1 : Int32)
    · refine e_brT c1 ?_
      exact bk_end o1 g1 g2 g3 g4 g5 K hI
    refine e_brF c1 ?_
    by_cases c2 : (sx (nI (6 * i)).toNatClampNeg) &&& (63 : Int32) = (2 : Int32)
    · refine e_brT c2 ?_
      exact bk_river o2 g1 g2 g3 g4 g5 K hI
    refine e_brF c2 ?_
    by_cases c3 : (sx (nI (6 * i)).toNatClampNeg) &&& (63 : Int32) = (3 : Int32)
    · refine e_brT c3 ?_
      exact bk_fault o3 g1 g2 g3 g4 g5 K hI
    refine e_brF c3 ?_
    by_cases c4 : (sx (nI (6 * i)).toNatClampNeg) &&& (63 : Int32) = (4 : Int32)
    · refine e_brT c4 ?_
      exact bk_stone o4 g1 g2 g3 g4 g5 K hI
    refine e_brF c4 ?_
    by_cases c5 : (sx (nI (6 * i)).toNatClampNeg) &&& (63 : Int32) = (5 : Int32)
    · refine e_brT c5 ?_
      exact bk_person o5 g1 g2 g3 g4 g5 K hI
    refine e_brF c5 ?_
    by_cases c6 : (sx (nI (6 * i)).toNatClampNeg) &&& (63 : Int32) = (6 : Int32)
    · refine e_brT c6 ?_
      exact bk_may o6 g1 g2 g3 g4 g5 K hI
    refine e_brF c6 ?_
    by_cases c7 : (sx (nI (6 * i)).toNatClampNeg) &&& (63 : Int32) = (7 : Int32)
    · refine e_brT c7 ?_
      exact bk_reach o7 g1 g2 g3 g4 g5 K hI
    refine e_brF c7 ?_
    by_cases c8 : (sx (nI (6 * i)).toNatClampNeg) &&& (63 : Int32) = (8 : Int32)
    · refine e_brT c8 ?_
      exact bk_hour o8 g1 g2 g3 g4 g5 K hI
    refine e_brF c8 ?_
    by_cases c9 : (sx (nI (6 * i)).toNatClampNeg) &&& (63 : Int32) = (9 : Int32)
    · refine e_brT c9 ?_
      exact bk_fresh o9 g1 g2 g3 g4 g5 K hI
    refine e_brF c9 ?_
    by_cases c10 : (sx (nI (6 * i)).toNatClampNeg) &&& (63 : Int32) = (10 : Int32)
    · refine e_brT c10 ?_
      exact bk_length o10 g1 g2 g3 g4 g5 K hI
    refine e_brF c10 ?_
    by_cases c11 : (sx (nI (6 * i)).toNatClampNeg) &&& (63 : Int32) = (11 : Int32)
    · refine e_brT c11 ?_
      exact bk_path o11 g1 g2 g3 g4 g5 K hI
    refine e_brF c11 ?_
    by_cases c12 : (sx (nI (6 * i)).toNatClampNeg) &&& (63 : Int32) = (12 : Int32)
    · refine e_brT c12 ?_
      exact bk_step o12 g1 g2 g3 g4 g5 K hI
    refine e_brF c12 ?_
    by_cases c13 : (sx (nI (6 * i)).toNatClampNeg) &&& (63 : Int32) = (13 : Int32)
    · refine e_brT c13 ?_
      exact bk_judge o13 g1 g2 g3 g4 g5 K hI
    refine e_brF c13 ?_
    by_cases c14 : (sx (nI (6 * i)).toNatClampNeg) &&& (63 : Int32) = (14 : Int32)
    · refine e_brT c14 ?_
      exact bk_ends o14 g1 g2 g3 g4 g5 K hI
    refine e_brF c14 ?_
    by_cases c15 : (sx (nI (6 * i)).toNatClampNeg) &&& (63 : Int32) = (15 : Int32)
    · refine e_brT c15 ?_
      exact bk_go o15 g1 g2 g3 g4 g5 K hI
    refine e_brF c15 ?_
    by_cases c16 : (sx (nI (6 * i)).toNatClampNeg) &&& (63 : Int32) = (16 : Int32)
    · refine e_brT c16 ?_
      exact bk_over o16 g1 g2 g3 g4 g5 K hI
    refine e_brF c16 ?_
    by_cases c17 : (sx (nI (6 * i)).toNatClampNeg) &&& (63 : Int32) = (17 : Int32)
    · refine e_brT c17 ?_
      exact bk_all o17 g1 g2 g3 g4 g5 K hI
    refine e_brF c17 ?_
    by_cases c18 : (sx (nI (6 * i)).toNatClampNeg) &&& (63 : Int32) = (18 : Int32)
    · refine e_brT c18 ?_
      exact bk_order o18 g1 g2 g3 g4 g5 K hI
    refine e_brF c18 ?_
    by_cases c19 : (sx (nI (6 * i)).toNatClampNeg) &&& (63 : Int32) = (19 : Int32)
    · refine e_brT c19 ?_
      exact bk_gap o19 g1 g2 g3 g4 g5 K hI
    refine e_brF c19 ?_
    by_cases c20 : (sx (nI (6 * i)).toNatClampNeg) &&& (63 : Int32) = (20 : Int32)
    · refine e_brT c20 ?_
      exact bk_home o20 g1 g2 g3 g4 g5 K hI
    refine e_brF c20 ?_
    by_cases c21 : (sx (nI (6 * i)).toNatClampNeg) &&& (63 : Int32) = (21 : Int32)
    · refine e_brT c21 ?_
      exact bk_days o21 g1 g2 g3 g4 g5 K hI
    refine e_brF c21 ?_
    by_cases c22 : (sx (nI (6 * i)).toNatClampNeg) &&& (63 : Int32) = (22 : Int32)
    · refine e_brT c22 ?_
      exact bk_best o22 g1 g2 g3 g4 g5 K hI
    refine e_brF c22 ?_
    by_cases c23 : (sx (nI (6 * i)).toNatClampNeg) &&& (63 : Int32) = (23 : Int32)
    · refine e_brT c23 ?_
      exact bk_most o23 g1 g2 g3 g4 g5 K hI
    refine e_brF c23 ?_
    by_cases c24 : (sx (nI (6 * i)).toNatClampNeg) &&& (63 : Int32) = (24 : Int32)
    · refine e_brT c24 ?_
      exact bk_cut o24 g1 g2 g3 g4 g5 K hI
    refine e_brF c24 ?_
    by_cases c25 : (sx (nI (6 * i)).toNatClampNeg) &&& (63 : Int32) = (25 : Int32)
    · refine e_brT c25 ?_
      exact bk_bars o25 g1 g2 g3 g4 g5 K hI
    refine e_brF c25 ?_
    by_cases c26 : (sx (nI (6 * i)).toNatClampNeg) &&& (63 : Int32) = (26 : Int32)
    · refine e_brT c26 ?_
      exact bk_alike o26 g1 g2 g3 g4 g5 K hI
    refine e_brF c26 ?_
    by_cases c27 : (sx (nI (6 * i)).toNatClampNeg) &&& (63 : Int32) = (27 : Int32)
    · refine e_brT c27 ?_
      exact bk_more o27 g1 g2 g3 g4 g5 K hI
    refine e_brF c27 ?_
    by_cases c28 : (sx (nI (6 * i)).toNatClampNeg) &&& (63 : Int32) = (28 : Int32)
    · refine e_brT c28 ?_
      exact bk_where o28 g1 g2 g3 g4 g5 K hI
    refine e_brF c28 ?_
    by_cases c29 : (sx (nI (6 * i)).toNatClampNeg) &&& (63 : Int32) = (29 : Int32)
    · refine e_brT c29 ?_
      exact bk_moved o29 g1 g2 g3 g4 g5 K hI
    refine e_brF c29 ?_
    by_cases c30 : (sx (nI (6 * i)).toNatClampNeg) &&& (63 : Int32) = (30 : Int32)
    · refine e_brT c30 ?_
      exact bk_move o30 g1 g2 g3 g4 g5 K hI
    refine e_brF c30 ?_
    by_cases c31 : (sx (nI (6 * i)).toNatClampNeg) &&& (63 : Int32) = (31 : Int32)
    · refine e_brT c31 ?_
      exact bk_plank o31 g1 g2 g3 g4 g5 K hI
    refine e_brF c31 ?_
    by_cases c32 : (sx (nI (6 * i)).toNatClampNeg) &&& (63 : Int32) = (32 : Int32)
    · refine e_brT c32 ?_
      exact bk_planks o32 g1 g2 g3 g4 g5 K hI
    refine e_brF c32 ?_
    by_cases c33 : (sx (nI (6 * i)).toNatClampNeg) &&& (63 : Int32) = (33 : Int32)
    · refine e_brT c33 ?_
      exact bk_know o33 g1 g2 g3 g4 g5 K hI
    refine e_brF c33 ?_
    by_cases c34 : (sx (nI (6 * i)).toNatClampNeg) &&& (63 : Int32) = (34 : Int32)
    · refine e_brT c34 ?_
      exact bk_sure o34 g1 g2 g3 g4 g5 K hI
    refine e_brF c34 ?_
    by_cases c35 : (sx (nI (6 * i)).toNatClampNeg) &&& (63 : Int32) = (35 : Int32)
    · refine e_brT c35 ?_
      exact bk_tread o35 g1 g2 g3 g4 g5 K hI
    refine e_brF c35 ?_
    by_cases c36 : (sx (nI (6 * i)).toNatClampNeg) &&& (63 : Int32) = (36 : Int32)
    · refine e_brT c36 ?_
      exact bk_first o36 g1 g2 g3 g4 g5 K hI
    refine e_brF c36 ?_
    by_cases c37 : (sx (nI (6 * i)).toNatClampNeg) &&& (63 : Int32) = (37 : Int32)
    · refine e_brT c37 ?_
      exact bk_price o37 g1 g2 g3 g4 g5 K hI
    refine e_brF c37 ?_
    by_cases c38 : (sx (nI (6 * i)).toNatClampNeg) &&& (63 : Int32) = (38 : Int32)
    · refine e_brT c38 ?_
      exact bk_keep o38 g1 g2 g3 g4 g5 K hI
    refine e_brF c38 ?_
    by_cases c39 : (sx (nI (6 * i)).toNatClampNeg) &&& (63 : Int32) = (39 : Int32)
    · refine e_brT c39 ?_
      exact bk_late o39 g1 g2 g3 g4 g5 K hI
    refine e_brF c39 ?_
    by_cases c40 : (sx (nI (6 * i)).toNatClampNeg) &&& (63 : Int32) = (40 : Int32)
    · refine e_brT c40 ?_
      exact bk_noon o40 g1 g2 g3 g4 g5 K hI
    refine e_brF c40 ?_
    by_cases c41 : (sx (nI (6 * i)).toNatClampNeg) &&& (63 : Int32) = (41 : Int32)
    · refine e_brT c41 ?_
      exact bk_waits o41 g1 g2 g3 g4 g5 K hI
    refine e_brF c41 ?_
    by_cases c42 : (sx (nI (6 * i)).toNatClampNeg) &&& (63 : Int32) = (42 : Int32)
    · refine e_brT c42 ?_
      exact bk_cross o42 g1 g2 g3 g4 g5 K hI
    refine e_brF c42 ?_
    by_cases c43 : (sx (nI (6 * i)).toNatClampNeg) &&& (63 : Int32) = (43 : Int32)
    · refine e_brT c43 ?_
      exact bk_run o43 g1 g2 g3 g4 g5 K hI
    refine e_brF c43 ?_
    by_cases c44 : (sx (nI (6 * i)).toNatClampNeg) &&& (63 : Int32) = (44 : Int32)
    · refine e_brT c44 ?_
      exact bk_runs o44 g1 g2 g3 g4 g5 K hI
    refine e_brF c44 ?_
    by_cases c45 : (sx (nI (6 * i)).toNatClampNeg) &&& (63 : Int32) = (45 : Int32)
    · refine e_brT c45 ?_
      exact bk_count o45 g1 g2 g3 g4 g5 K hI
    refine e_brF c45 ?_
    by_cases c46 : (sx (nI (6 * i)).toNatClampNeg) &&& (63 : Int32) = (46 : Int32)
    · refine e_brT c46 ?_
      exact bk_image o46 g1 g2 g3 g4 g5 K hI
    refine e_brF c46 ?_
    by_cases c47 : (sx (nI (6 * i)).toNatClampNeg) &&& (63 : Int32) = (47 : Int32)
    · refine e_brT c47 ?_
      exact bk_back o47 g1 g2 g3 g4 g5 K hI
    refine e_brF c47 ?_
    by_cases c48 : (sx (nI (6 * i)).toNatClampNeg) &&& (63 : Int32) = (48 : Int32)
    · refine e_brT c48 ?_
      exact bk_row o48 g1 g2 g3 g4 g5 K hI
    refine e_brF c48 ?_
    by_cases c49 : (sx (nI (6 * i)).toNatClampNeg) &&& (63 : Int32) = (49 : Int32)
    · refine e_brT c49 ?_
      exact bk_write o49 g1 g2 g3 g4 g5 K hI
    refine e_brF c49 ?_
    by_cases c50 : (sx (nI (6 * i)).toNatClampNeg) &&& (63 : Int32) = (50 : Int32)
    · refine e_brT c50 ?_
      exact bk_paste o50 g1 g2 g3 g4 g5 K hI
    refine e_brF c50 ?_
    unfold fnL_law_J2013
    exact K μ hI
theorem pure_of_ops {Inv : sm_Mem → Prop} (hops : AllOps Inv) (h0 : Inv μ0) : PureLaw := by
  intro sx Ln hL
  exact lp_loop hops sx hL 4096 0 μ0 (by omega) (by omega) h0
