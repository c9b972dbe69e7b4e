def N0 (ω : sm_O) : List va_E := tl_X11 ω 0 ++ tl_X12 ω 146
/-- what the int cells hold behind the constructors -/
def i0 (a : Nat) : Nat → Int32 := if a ∈ [27, 31, 49, 53, 57, 61, 65, 69, 73, 117, 131, 145] then (fun i => if i < 8 then (98 : Int32) else (fun _ => 0) i) else if a = 146 then (fun k => if k = 13 then -1 else if k = 39 then -1 else if k = 40 then -1 else 0) else if a = 42 then (fun k => if k = 8 then -1 else 0) else if a = 0 then (fun k => if k = 3 then -1 else 0) else if a = 168 then (upd (upd (upd (upd (fun _ => 0) 0 (-1)) 1 (-1)) 2 (-1)) 3 (-1)) else fun _ => 0
def μ0 : sm_Mem := (i0, fun _ _ => 0, 13)
theorem arrV_congr {cA : ClassId} {n : Nat} {f g : Nat → Value} (h : ∀ j, j < n → f j = g j) : arrV cA n f = arrV cA n g := by
  unfold arrV
  congr 1
  apply Array.ext
  · simp
  · intro i h1 h2
    simp only [Array.getElem_ofFn]
    exact h i (by simpa using h1)
set_option maxRecDepth 100000 in
theorem w0_0 {ω : sm_O} {H : Heap} (hP : cH ω (N0 ω) H) : va_at ω.2.1 classes (ω.1 + 0, sm_cell ω μ0 0) H := hP 0 _ (cw_get rfl)
set_option maxRecDepth 100000 in
theorem w0_1 {ω : sm_O} {H : Heap} (hP : cH ω (N0 ω) H) : va_at ω.2.1 classes (ω.1 + 1, sm_cell ω μ0 1) H := hP 1 _ (cw_get rfl)
set_option maxRecDepth 100000 in
theorem w0_2 {ω : sm_O} {H : Heap} (hP : cH ω (N0 ω) H) : va_at ω.2.1 classes (ω.1 + 2, sm_cell ω μ0 2) H := hP 2 _ (cw_get rfl)
set_option maxRecDepth 100000 in
theorem w0_3 {ω : sm_O} {H : Heap} (hP : cH ω (N0 ω) H) : va_at ω.2.1 classes (ω.1 + 3, sm_cell ω μ0 3) H := hP 3 _ (cw_get rfl)
set_option maxRecDepth 100000 in
theorem w0_4 {ω : sm_O} {H : Heap} (hP : cH ω (N0 ω) H) : va_at ω.2.1 classes (ω.1 + 4, sm_cell ω μ0 4) H := hP 4 _ (cw_get rfl)
set_option maxRecDepth 100000 in
theorem w0_5 {ω : sm_O} {H : Heap} (hP : cH ω (N0 ω) H) : va_at ω.2.1 classes (ω.1 + 5, sm_cell ω μ0 5) H := hP 5 _ (cw_get rfl)
set_option maxRecDepth 100000 in
theorem w0_6 {ω : sm_O} {H : Heap} (hP : cH ω (N0 ω) H) : va_at ω.2.1 classes (ω.1 + 6, sm_cell ω μ0 6) H := hP 6 _ (cw_get rfl)
set_option maxRecDepth 100000 in
theorem w0_7 {ω : sm_O} {H : Heap} (hP : cH ω (N0 ω) H) : va_at ω.2.1 classes (ω.1 + 7, sm_cell ω μ0 7) H := hP 7 _ (cw_get rfl)
set_option maxRecDepth 100000 in
theorem w0_8 {ω : sm_O} {H : Heap} (hP : cH ω (N0 ω) H) : va_at ω.2.1 classes (ω.1 + 8, sm_cell ω μ0 8) H := hP 8 _ (cw_get rfl)
set_option maxRecDepth 100000 in
theorem w0_9 {ω : sm_O} {H : Heap} (hP : cH ω (N0 ω) H) : va_at ω.2.1 classes (ω.1 + 9, sm_cell ω μ0 9) H := hP 9 _ (cw_get rfl)
set_option maxRecDepth 100000 in
theorem w0_10 {ω : sm_O} {H : Heap} (hP : cH ω (N0 ω) H) : va_at ω.2.1 classes (ω.1 + 10, sm_cell ω μ0 10) H := hP 10 _ (cw_get rfl)
set_option maxRecDepth 100000 in
theorem w0_11 {ω : sm_O} {H : Heap} (hP : cH ω (N0 ω) H) : va_at ω.2.1 classes (ω.1 + 11, sm_cell ω μ0 11) H := hP 11 _ (cw_get rfl)
set_option maxRecDepth 100000 in
theorem w0_12 {ω : sm_O} {H : Heap} (hP : cH ω (N0 ω) H) : va_at ω.2.1 classes (ω.1 + 12, sm_cell ω μ0 12) H := hP 12 _ (cw_get rfl)
set_option maxRecDepth 100000 in
theorem w0_13 {ω : sm_O} {H : Heap} (hP : cH ω (N0 ω) H) : va_at ω.2.1 classes (ω.1 + 13, sm_cell ω μ0 13) H := hP 13 _ (cw_get rfl)
set_option maxRecDepth 100000 in
theorem w0_14 {ω : sm_O} {H : Heap} (hP : cH ω (N0 ω) H) : va_at ω.2.1 classes (ω.1 + 14, sm_cell ω μ0 14) H := hP 14 _ (cw_get rfl)
set_option maxRecDepth 100000 in
theorem w0_15 {ω : sm_O} {H : Heap} (hP : cH ω (N0 ω) H) : va_at ω.2.1 classes (ω.1 + 15, sm_cell ω μ0 15) H := hP 15 _ (cw_get rfl)
set_option maxRecDepth 100000 in
theorem w0_16 {ω : sm_O} {H : Heap} (hP : cH ω (N0 ω) H) : va_at ω.2.1 classes (ω.1 + 16, sm_cell ω μ0 16) H := hP 16 _ (cw_get rfl)
set_option maxRecDepth 100000 in
theorem w0_17 {ω : sm_O} {H : Heap} (hP : cH ω (N0 ω) H) : va_at ω.2.1 classes (ω.1 + 17, sm_cell ω μ0 17) H := hP 17 _ (cw_get rfl)
set_option maxRecDepth 100000 in
theorem w0_18 {ω : sm_O} {H : Heap} (hP : cH ω (N0 ω) H) : va_at ω.2.1 classes (ω.1 + 18, sm_cell ω μ0 18) H := hP 18 _ (cw_get rfl)
set_option maxRecDepth 100000 in
theorem w0_19 {ω : sm_O} {H : Heap} (hP : cH ω (N0 ω) H) : va_at ω.2.1 classes (ω.1 + 19, sm_cell ω μ0 19) H := hP 19 _ (cw_get rfl)
set_option maxRecDepth 100000 in
theorem w0_20 {ω : sm_O} {H : Heap} (hP : cH ω (N0 ω) H) : va_at ω.2.1 classes (ω.1 + 20, sm_cell ω μ0 20) H := hP 20 _ (cw_get rfl)
set_option maxRecDepth 100000 in
theorem w0_21 {ω : sm_O} {H : Heap} (hP : cH ω (N0 ω) H) : va_at ω.2.1 classes (ω.1 + 21, sm_cell ω μ0 21) H := hP 21 _ (cw_get rfl)
set_option maxRecDepth 100000 in
theorem w0_22 {ω : sm_O} {H : Heap} (hP : cH ω (N0 ω) H) : va_at ω.2.1 classes (ω.1 + 22, sm_cell ω μ0 22) H := hP 22 _ (cw_get rfl)
set_option maxRecDepth 100000 in
theorem w0_23 {ω : sm_O} {H : Heap} (hP : cH ω (N0 ω) H) : va_at ω.2.1 classes (ω.1 + 23, sm_cell ω μ0 23) H := hP 23 _ (cw_get rfl)
set_option maxRecDepth 100000 in
theorem w0_24 {ω : sm_O} {H : Heap} (hP : cH ω (N0 ω) H) : va_at ω.2.1 classes (ω.1 + 24, sm_cell ω μ0 24) H := hP 24 _ (cw_get rfl)
set_option maxRecDepth 100000 in
theorem w0_25 {ω : sm_O} {H : Heap} (hP : cH ω (N0 ω) H) : va_at ω.2.1 classes (ω.1 + 25, sm_cell ω μ0 25) H := hP 25 _ (cw_get rfl)
set_option maxRecDepth 100000 in
theorem w0_26 {ω : sm_O} {H : Heap} (hP : cH ω (N0 ω) H) : va_at ω.2.1 classes (ω.1 + 26, sm_cell ω μ0 26) H := hP 26 _ (cw_get rfl)
set_option maxRecDepth 100000 in
theorem w0_27 {ω : sm_O} {H : Heap} (hP : cH ω (N0 ω) H) : va_at ω.2.1 classes (ω.1 + 27, sm_cell ω μ0 27) H := hP 27 _ (cw_get rfl)
set_option maxRecDepth 100000 in
theorem w0_28 {ω : sm_O} {H : Heap} (hP : cH ω (N0 ω) H) : va_at ω.2.1 classes (ω.1 + 28, sm_cell ω μ0 28) H := hP 28 _ (cw_get rfl)
set_option maxRecDepth 100000 in
theorem w0_29 {ω : sm_O} {H : Heap} (hP : cH ω (N0 ω) H) : va_at ω.2.1 classes (ω.1 + 29, sm_cell ω μ0 29) H := hP 29 _ (cw_get rfl)
set_option maxRecDepth 100000 in
theorem w0_30 {ω : sm_O} {H : Heap} (hP : cH ω (N0 ω) H) : va_at ω.2.1 classes (ω.1 + 30, sm_cell ω μ0 30) H := hP 30 _ (cw_get rfl)
set_option maxRecDepth 100000 in
theorem w0_31 {ω : sm_O} {H : Heap} (hP : cH ω (N0 ω) H) : va_at ω.2.1 classes (ω.1 + 31, sm_cell ω μ0 31) H := hP 31 _ (cw_get rfl)
set_option maxRecDepth 100000 in
theorem w0_32 {ω : sm_O} {H : Heap} (hP : cH ω (N0 ω) H) : va_at ω.2.1 classes (ω.1 + 32, sm_cell ω μ0 32) H := hP 32 _ (cw_get rfl)
set_option maxRecDepth 100000 in
theorem w0_33 {ω : sm_O} {H : Heap} (hP : cH ω (N0 ω) H) : va_at ω.2.1 classes (ω.1 + 33, sm_cell ω μ0 33) H := hP 33 _ (cw_get rfl)
set_option maxRecDepth 100000 in
theorem w0_34 {ω : sm_O} {H : Heap} (hP : cH ω (N0 ω) H) : va_at ω.2.1 classes (ω.1 + 34, sm_cell ω μ0 34) H := hP 34 _ (cw_get rfl)
set_option maxRecDepth 100000 in
theorem w0_35 {ω : sm_O} {H : Heap} (hP : cH ω (N0 ω) H) : va_at ω.2.1 classes (ω.1 + 35, sm_cell ω μ0 35) H := hP 35 _ (cw_get rfl)
set_option maxRecDepth 100000 in
theorem w0_36 {ω : sm_O} {H : Heap} (hP : cH ω (N0 ω) H) : va_at ω.2.1 classes (ω.1 + 36, sm_cell ω μ0 36) H := hP 36 _ (cw_get rfl)
set_option maxRecDepth 100000 in
theorem w0_37 {ω : sm_O} {H : Heap} (hP : cH ω (N0 ω) H) : va_at ω.2.1 classes (ω.1 + 37, sm_cell ω μ0 37) H := hP 37 _ (cw_get rfl)
set_option maxRecDepth 100000 in
theorem w0_38 {ω : sm_O} {H : Heap} (hP : cH ω (N0 ω) H) : va_at ω.2.1 classes (ω.1 + 38, sm_cell ω μ0 38) H := hP 38 _ (cw_get rfl)
set_option maxRecDepth 100000 in
theorem w0_39 {ω : sm_O} {H : Heap} (hP : cH ω (N0 ω) H) : va_at ω.2.1 classes (ω.1 + 39, sm_cell ω μ0 39) H := hP 39 _ (cw_get rfl)
set_option maxRecDepth 100000 in
theorem w0_40 {ω : sm_O} {H : Heap} (hP : cH ω (N0 ω) H) : va_at ω.2.1 classes (ω.1 + 40, sm_cell ω μ0 40) H := hP 40 _ (cw_get rfl)
set_option maxRecDepth 100000 in
theorem w0_41 {ω : sm_O} {H : Heap} (hP : cH ω (N0 ω) H) : va_at ω.2.1 classes (ω.1 + 41, sm_cell ω μ0 41) H := hP 41 _ (cw_get rfl)
set_option maxRecDepth 100000 in
theorem w0_42 {ω : sm_O} {H : Heap} (hP : cH ω (N0 ω) H) : va_at ω.2.1 classes (ω.1 + 42, sm_cell ω μ0 42) H := hP 42 _ (cw_get rfl)
set_option maxRecDepth 100000 in
theorem w0_43 {ω : sm_O} {H : Heap} (hP : cH ω (N0 ω) H) : va_at ω.2.1 classes (ω.1 + 43, sm_cell ω μ0 43) H := by
  obtain ⟨f, hf, hv⟩ : ∃ f : Nat → Option Nat, (N0 ω)[43]? = some (.inl (ω.2.2.1 24, 7, .inr (.inr (.inr (.inr f))))) ∧ ∀ j, j < 7 → va_rf (f j) = va_rf (some (ω.1 + lk 43 j)) := by
    refine ⟨_, rfl, fun j hj => ?_⟩
    match j, hj with
    | 0, _ => rfl
    | 1, _ => rfl
    | 2, _ => rfl
    | 3, _ => rfl
    | 4, _ => rfl
    | 5, _ => rfl
    | 6, _ => rfl
    | k + 7, hj => exact absurd hj (by omega)
  have h := hP 43 _ (cw_get hf)
  rw [sm_cell_q (t := 24) (by decide +kernel) (by decide) (by decide) (by decide)]
  show H[ω.1 + 43]? = some (vp_cell _ _)
  rw [vp_cell_q, show ln 43 = 7 by decide +kernel, ← arrV_congr hv]
  exact h
set_option maxRecDepth 100000 in
theorem w0_44 {ω : sm_O} {H : Heap} (hP : cH ω (N0 ω) H) : va_at ω.2.1 classes (ω.1 + 44, sm_cell ω μ0 44) H := hP 44 _ (cw_get rfl)
set_option maxRecDepth 100000 in
theorem w0_45 {ω : sm_O} {H : Heap} (hP : cH ω (N0 ω) H) : va_at ω.2.1 classes (ω.1 + 45, sm_cell ω μ0 45) H := hP 45 _ (cw_get rfl)
set_option maxRecDepth 100000 in
theorem w0_46 {ω : sm_O} {H : Heap} (hP : cH ω (N0 ω) H) : va_at ω.2.1 classes (ω.1 + 46, sm_cell ω μ0 46) H := hP 46 _ (cw_get rfl)
set_option maxRecDepth 100000 in
theorem w0_47 {ω : sm_O} {H : Heap} (hP : cH ω (N0 ω) H) : va_at ω.2.1 classes (ω.1 + 47, sm_cell ω μ0 47) H := hP 47 _ (cw_get rfl)
set_option maxRecDepth 100000 in
theorem w0_48 {ω : sm_O} {H : Heap} (hP : cH ω (N0 ω) H) : va_at ω.2.1 classes (ω.1 + 48, sm_cell ω μ0 48) H := hP 48 _ (cw_get rfl)
set_option maxRecDepth 100000 in
theorem w0_49 {ω : sm_O} {H : Heap} (hP : cH ω (N0 ω) H) : va_at ω.2.1 classes (ω.1 + 49, sm_cell ω μ0 49) H := hP 49 _ (cw_get rfl)
set_option maxRecDepth 100000 in
theorem w0_50 {ω : sm_O} {H : Heap} (hP : cH ω (N0 ω) H) : va_at ω.2.1 classes (ω.1 + 50, sm_cell ω μ0 50) H := hP 50 _ (cw_get rfl)
set_option maxRecDepth 100000 in
theorem w0_51 {ω : sm_O} {H : Heap} (hP : cH ω (N0 ω) H) : va_at ω.2.1 classes (ω.1 + 51, sm_cell ω μ0 51) H := hP 51 _ (cw_get rfl)
set_option maxRecDepth 100000 in
theorem w0_52 {ω : sm_O} {H : Heap} (hP : cH ω (N0 ω) H) : va_at ω.2.1 classes (ω.1 + 52, sm_cell ω μ0 52) H := hP 52 _ (cw_get rfl)
set_option maxRecDepth 100000 in
theorem w0_53 {ω : sm_O} {H : Heap} (hP : cH ω (N0 ω) H) : va_at ω.2.1 classes (ω.1 + 53, sm_cell ω μ0 53) H := hP 53 _ (cw_get rfl)
set_option maxRecDepth 100000 in
theorem w0_54 {ω : sm_O} {H : Heap} (hP : cH ω (N0 ω) H) : va_at ω.2.1 classes (ω.1 + 54, sm_cell ω μ0 54) H := hP 54 _ (cw_get rfl)
set_option maxRecDepth 100000 in
theorem w0_55 {ω : sm_O} {H : Heap} (hP : cH ω (N0 ω) H) : va_at ω.2.1 classes (ω.1 + 55, sm_cell ω μ0 55) H := hP 55 _ (cw_get rfl)
set_option maxRecDepth 100000 in
theorem w0_56 {ω : sm_O} {H : Heap} (hP : cH ω (N0 ω) H) : va_at ω.2.1 classes (ω.1 + 56, sm_cell ω μ0 56) H := hP 56 _ (cw_get rfl)
set_option maxRecDepth 100000 in
theorem w0_57 {ω : sm_O} {H : Heap} (hP : cH ω (N0 ω) H) : va_at ω.2.1 classes (ω.1 + 57, sm_cell ω μ0 57) H := hP 57 _ (cw_get rfl)
set_option maxRecDepth 100000 in
theorem w0_58 {ω : sm_O} {H : Heap} (hP : cH ω (N0 ω) H) : va_at ω.2.1 classes (ω.1 + 58, sm_cell ω μ0 58) H := hP 58 _ (cw_get rfl)
set_option maxRecDepth 100000 in
theorem w0_59 {ω : sm_O} {H : Heap} (hP : cH ω (N0 ω) H) : va_at ω.2.1 classes (ω.1 + 59, sm_cell ω μ0 59) H := hP 59 _ (cw_get rfl)
set_option maxRecDepth 100000 in
theorem w0_60 {ω : sm_O} {H : Heap} (hP : cH ω (N0 ω) H) : va_at ω.2.1 classes (ω.1 + 60, sm_cell ω μ0 60) H := hP 60 _ (cw_get rfl)
set_option maxRecDepth 100000 in
theorem w0_61 {ω : sm_O} {H : Heap} (hP : cH ω (N0 ω) H) : va_at ω.2.1 classes (ω.1 + 61, sm_cell ω μ0 61) H := hP 61 _ (cw_get rfl)
set_option maxRecDepth 100000 in
theorem w0_62 {ω : sm_O} {H : Heap} (hP : cH ω (N0 ω) H) : va_at ω.2.1 classes (ω.1 + 62, sm_cell ω μ0 62) H := hP 62 _ (cw_get rfl)
set_option maxRecDepth 100000 in
theorem w0_63 {ω : sm_O} {H : Heap} (hP : cH ω (N0 ω) H) : va_at ω.2.1 classes (ω.1 + 63, sm_cell ω μ0 63) H := hP 63 _ (cw_get rfl)
set_option maxRecDepth 100000 in
theorem w0_64 {ω : sm_O} {H : Heap} (hP : cH ω (N0 ω) H) : va_at ω.2.1 classes (ω.1 + 64, sm_cell ω μ0 64) H := hP 64 _ (cw_get rfl)
set_option maxRecDepth 100000 in
theorem w0_65 {ω : sm_O} {H : Heap} (hP : cH ω (N0 ω) H) : va_at ω.2.1 classes (ω.1 + 65, sm_cell ω μ0 65) H := hP 65 _ (cw_get rfl)
set_option maxRecDepth 100000 in
theorem w0_66 {ω : sm_O} {H : Heap} (hP : cH ω (N0 ω) H) : va_at ω.2.1 classes (ω.1 + 66, sm_cell ω μ0 66) H := hP 66 _ (cw_get rfl)
set_option maxRecDepth 100000 in
theorem w0_67 {ω : sm_O} {H : Heap} (hP : cH ω (N0 ω) H) : va_at ω.2.1 classes (ω.1 + 67, sm_cell ω μ0 67) H := hP 67 _ (cw_get rfl)
set_option maxRecDepth 100000 in
theorem w0_68 {ω : sm_O} {H : Heap} (hP : cH ω (N0 ω) H) : va_at ω.2.1 classes (ω.1 + 68, sm_cell ω μ0 68) H := hP 68 _ (cw_get rfl)
set_option maxRecDepth 100000 in
theorem w0_69 {ω : sm_O} {H : Heap} (hP : cH ω (N0 ω) H) : va_at ω.2.1 classes (ω.1 + 69, sm_cell ω μ0 69) H := hP 69 _ (cw_get rfl)
set_option maxRecDepth 100000 in
theorem w0_70 {ω : sm_O} {H : Heap} (hP : cH ω (N0 ω) H) : va_at ω.2.1 classes (ω.1 + 70, sm_cell ω μ0 70) H := hP 70 _ (cw_get rfl)
set_option maxRecDepth 100000 in
theorem w0_71 {ω : sm_O} {H : Heap} (hP : cH ω (N0 ω) H) : va_at ω.2.1 classes (ω.1 + 71, sm_cell ω μ0 71) H := hP 71 _ (cw_get rfl)
set_option maxRecDepth 100000 in
theorem w0_72 {ω : sm_O} {H : Heap} (hP : cH ω (N0 ω) H) : va_at ω.2.1 classes (ω.1 + 72, sm_cell ω μ0 72) H := hP 72 _ (cw_get rfl)
set_option maxRecDepth 100000 in
theorem w0_73 {ω : sm_O} {H : Heap} (hP : cH ω (N0 ω) H) : va_at ω.2.1 classes (ω.1 + 73, sm_cell ω μ0 73) H := hP 73 _ (cw_get rfl)
set_option maxRecDepth 100000 in
theorem w0_74 {ω : sm_O} {H : Heap} (hP : cH ω (N0 ω) H) : va_at ω.2.1 classes (ω.1 + 74, sm_cell ω μ0 74) H := hP 74 _ (cw_get rfl)
set_option maxRecDepth 100000 in
theorem w0_75 {ω : sm_O} {H : Heap} (hP : cH ω (N0 ω) H) : va_at ω.2.1 classes (ω.1 + 75, sm_cell ω μ0 75) H := hP 75 _ (cw_get rfl)
set_option maxRecDepth 100000 in
theorem w0_76 {ω : sm_O} {H : Heap} (hP : cH ω (N0 ω) H) : va_at ω.2.1 classes (ω.1 + 76, sm_cell ω μ0 76) H := hP 76 _ (cw_get rfl)
set_option maxRecDepth 100000 in
theorem w0_77 {ω : sm_O} {H : Heap} (hP : cH ω (N0 ω) H) : va_at ω.2.1 classes (ω.1 + 77, sm_cell ω μ0 77) H := hP 77 _ (cw_get rfl)
set_option maxRecDepth 100000 in
theorem w0_78 {ω : sm_O} {H : Heap} (hP : cH ω (N0 ω) H) : va_at ω.2.1 classes (ω.1 + 78, sm_cell ω μ0 78) H := hP 78 _ (cw_get rfl)
set_option maxRecDepth 100000 in
theorem w0_79 {ω : sm_O} {H : Heap} (hP : cH ω (N0 ω) H) : va_at ω.2.1 classes (ω.1 + 79, sm_cell ω μ0 79) H := hP 79 _ (cw_get rfl)
set_option maxRecDepth 100000 in
theorem w0_80 {ω : sm_O} {H : Heap} (hP : cH ω (N0 ω) H) : va_at ω.2.1 classes (ω.1 + 80, sm_cell ω μ0 80) H := hP 80 _ (cw_get rfl)
set_option maxRecDepth 100000 in
theorem w0_81 {ω : sm_O} {H : Heap} (hP : cH ω (N0 ω) H) : va_at ω.2.1 classes (ω.1 + 81, sm_cell ω μ0 81) H := hP 81 _ (cw_get rfl)
set_option maxRecDepth 100000 in
theorem w0_82 {ω : sm_O} {H : Heap} (hP : cH ω (N0 ω) H) : va_at ω.2.1 classes (ω.1 + 82, sm_cell ω μ0 82) H := hP 82 _ (cw_get rfl)
set_option maxRecDepth 100000 in
theorem w0_83 {ω : sm_O} {H : Heap} (hP : cH ω (N0 ω) H) : va_at ω.2.1 classes (ω.1 + 83, sm_cell ω μ0 83) H := hP 83 _ (cw_get rfl)
set_option maxRecDepth 100000 in
theorem w0_84 {ω : sm_O} {H : Heap} (hP : cH ω (N0 ω) H) : va_at ω.2.1 classes (ω.1 + 84, sm_cell ω μ0 84) H := hP 84 _ (cw_get rfl)
set_option maxRecDepth 100000 in
theorem w0_85 {ω : sm_O} {H : Heap} (hP : cH ω (N0 ω) H) : va_at ω.2.1 classes (ω.1 + 85, sm_cell ω μ0 85) H := hP 85 _ (cw_get rfl)
set_option maxRecDepth 100000 in
theorem w0_86 {ω : sm_O} {H : Heap} (hP : cH ω (N0 ω) H) : va_at ω.2.1 classes (ω.1 + 86, sm_cell ω μ0 86) H := hP 86 _ (cw_get rfl)
set_option maxRecDepth 100000 in
theorem w0_87 {ω : sm_O} {H : Heap} (hP : cH ω (N0 ω) H) : va_at ω.2.1 classes (ω.1 + 87, sm_cell ω μ0 87) H := hP 87 _ (cw_get rfl)
set_option maxRecDepth 100000 in
theorem w0_88 {ω : sm_O} {H : Heap} (hP : cH ω (N0 ω) H) : va_at ω.2.1 classes (ω.1 + 88, sm_cell ω μ0 88) H := hP 88 _ (cw_get rfl)
set_option maxRecDepth 100000 in
theorem w0_89 {ω : sm_O} {H : Heap} (hP : cH ω (N0 ω) H) : va_at ω.2.1 classes (ω.1 + 89, sm_cell ω μ0 89) H := hP 89 _ (cw_get rfl)
set_option maxRecDepth 100000 in
theorem w0_90 {ω : sm_O} {H : Heap} (hP : cH ω (N0 ω) H) : va_at ω.2.1 classes (ω.1 + 90, sm_cell ω μ0 90) H := hP 90 _ (cw_get rfl)
set_option maxRecDepth 100000 in
theorem w0_91 {ω : sm_O} {H : Heap} (hP : cH ω (N0 ω) H) : va_at ω.2.1 classes (ω.1 + 91, sm_cell ω μ0 91) H := hP 91 _ (cw_get rfl)
set_option maxRecDepth 100000 in
theorem w0_92 {ω : sm_O} {H : Heap} (hP : cH ω (N0 ω) H) : va_at ω.2.1 classes (ω.1 + 92, sm_cell ω μ0 92) H := by
  obtain ⟨f, hf, hv⟩ : ∃ f : Nat → Option Nat, (N0 ω)[92]? = some (.inl (ω.2.2.1 25, 4, .inr (.inr (.inr (.inr f))))) ∧ ∀ j, j < 4 → va_rf (f j) = va_rf (some (ω.1 + lk 92 j)) := by
    refine ⟨_, rfl, fun j hj => ?_⟩
    match j, hj with
    | 0, _ => rfl
    | 1, _ => rfl
    | 2, _ => rfl
    | 3, _ => rfl
    | k + 4, hj => exact absurd hj (by omega)
  have h := hP 92 _ (cw_get hf)
  rw [sm_cell_q (t := 25) (by decide +kernel) (by decide) (by decide) (by decide)]
  show H[ω.1 + 92]? = some (vp_cell _ _)
  rw [vp_cell_q, show ln 92 = 4 by decide +kernel, ← arrV_congr hv]
  exact h
set_option maxRecDepth 100000 in
theorem w0_93 {ω : sm_O} {H : Heap} (hP : cH ω (N0 ω) H) : va_at ω.2.1 classes (ω.1 + 93, sm_cell ω μ0 93) H := by
  obtain ⟨f, hf, hv⟩ : ∃ f : Nat → Option Nat, (N0 ω)[93]? = some (.inl (ω.2.2.1 26, 3, .inr (.inr (.inr (.inr f))))) ∧ ∀ j, j < 3 → va_rf (f j) = va_rf (some (ω.1 + lk 93 j)) := by
    refine ⟨_, rfl, fun j hj => ?_⟩
    match j, hj with
    | 0, _ => rfl
    | 1, _ => rfl
    | 2, _ => rfl
    | k + 3, hj => exact absurd hj (by omega)
  have h := hP 93 _ (cw_get hf)
  rw [sm_cell_q (t := 26) (by decide +kernel) (by decide) (by decide) (by decide)]
  show H[ω.1 + 93]? = some (vp_cell _ _)
  rw [vp_cell_q, show ln 93 = 3 by decide +kernel, ← arrV_congr hv]
  exact h
set_option maxRecDepth 100000 in
theorem w0_94 {ω : sm_O} {H : Heap} (hP : cH ω (N0 ω) H) : va_at ω.2.1 classes (ω.1 + 94, sm_cell ω μ0 94) H := by
  obtain ⟨f, hf, hv⟩ : ∃ f : Nat → Option Nat, (N0 ω)[94]? = some (.inl (ω.2.2.1 24, 3, .inr (.inr (.inr (.inr f))))) ∧ ∀ j, j < 3 → va_rf (f j) = va_rf (some (ω.1 + lk 94 j)) := by
    refine ⟨_, rfl, fun j hj => ?_⟩
    match j, hj with
    | 0, _ => rfl
    | 1, _ => rfl
    | 2, _ => rfl
    | k + 3, hj => exact absurd hj (by omega)
  have h := hP 94 _ (cw_get hf)
  rw [sm_cell_q (t := 24) (by decide +kernel) (by decide) (by decide) (by decide)]
  show H[ω.1 + 94]? = some (vp_cell _ _)
  rw [vp_cell_q, show ln 94 = 3 by decide +kernel, ← arrV_congr hv]
  exact h
set_option maxRecDepth 100000 in
theorem w0_95 {ω : sm_O} {H : Heap} (hP : cH ω (N0 ω) H) : va_at ω.2.1 classes (ω.1 + 95, sm_cell ω μ0 95) H := hP 95 _ (cw_get rfl)
set_option maxRecDepth 100000 in
theorem w0_96 {ω : sm_O} {H : Heap} (hP : cH ω (N0 ω) H) : va_at ω.2.1 classes (ω.1 + 96, sm_cell ω μ0 96) H := hP 96 _ (cw_get rfl)
set_option maxRecDepth 100000 in
theorem w0_97 {ω : sm_O} {H : Heap} (hP : cH ω (N0 ω) H) : va_at ω.2.1 classes (ω.1 + 97, sm_cell ω μ0 97) H := hP 97 _ (cw_get rfl)
set_option maxRecDepth 100000 in
theorem w0_98 {ω : sm_O} {H : Heap} (hP : cH ω (N0 ω) H) : va_at ω.2.1 classes (ω.1 + 98, sm_cell ω μ0 98) H := hP 98 _ (cw_get rfl)
set_option maxRecDepth 100000 in
theorem w0_99 {ω : sm_O} {H : Heap} (hP : cH ω (N0 ω) H) : va_at ω.2.1 classes (ω.1 + 99, sm_cell ω μ0 99) H := hP 99 _ (cw_get rfl)
set_option maxRecDepth 100000 in
theorem w0_100 {ω : sm_O} {H : Heap} (hP : cH ω (N0 ω) H) : va_at ω.2.1 classes (ω.1 + 100, sm_cell ω μ0 100) H := hP 100 _ (cw_get rfl)
set_option maxRecDepth 100000 in
theorem w0_101 {ω : sm_O} {H : Heap} (hP : cH ω (N0 ω) H) : va_at ω.2.1 classes (ω.1 + 101, sm_cell ω μ0 101) H := hP 101 _ (cw_get rfl)
set_option maxRecDepth 100000 in
theorem w0_102 {ω : sm_O} {H : Heap} (hP : cH ω (N0 ω) H) : va_at ω.2.1 classes (ω.1 + 102, sm_cell ω μ0 102) H := hP 102 _ (cw_get rfl)
set_option maxRecDepth 100000 in
theorem w0_103 {ω : sm_O} {H : Heap} (hP : cH ω (N0 ω) H) : va_at ω.2.1 classes (ω.1 + 103, sm_cell ω μ0 103) H := hP 103 _ (cw_get rfl)
set_option maxRecDepth 100000 in
theorem w0_104 {ω : sm_O} {H : Heap} (hP : cH ω (N0 ω) H) : va_at ω.2.1 classes (ω.1 + 104, sm_cell ω μ0 104) H := hP 104 _ (cw_get rfl)
set_option maxRecDepth 100000 in
theorem w0_105 {ω : sm_O} {H : Heap} (hP : cH ω (N0 ω) H) : va_at ω.2.1 classes (ω.1 + 105, sm_cell ω μ0 105) H := hP 105 _ (cw_get rfl)
set_option maxRecDepth 100000 in
theorem w0_106 {ω : sm_O} {H : Heap} (hP : cH ω (N0 ω) H) : va_at ω.2.1 classes (ω.1 + 106, sm_cell ω μ0 106) H := hP 106 _ (cw_get rfl)
set_option maxRecDepth 100000 in
theorem w0_107 {ω : sm_O} {H : Heap} (hP : cH ω (N0 ω) H) : va_at ω.2.1 classes (ω.1 + 107, sm_cell ω μ0 107) H := hP 107 _ (cw_get rfl)
set_option maxRecDepth 100000 in
theorem w0_108 {ω : sm_O} {H : Heap} (hP : cH ω (N0 ω) H) : va_at ω.2.1 classes (ω.1 + 108, sm_cell ω μ0 108) H := hP 108 _ (cw_get rfl)
set_option maxRecDepth 100000 in
theorem w0_109 {ω : sm_O} {H : Heap} (hP : cH ω (N0 ω) H) : va_at ω.2.1 classes (ω.1 + 109, sm_cell ω μ0 109) H := hP 109 _ (cw_get rfl)
set_option maxRecDepth 100000 in
theorem w0_110 {ω : sm_O} {H : Heap} (hP : cH ω (N0 ω) H) : va_at ω.2.1 classes (ω.1 + 110, sm_cell ω μ0 110) H := hP 110 _ (cw_get rfl)
set_option maxRecDepth 100000 in
theorem w0_111 {ω : sm_O} {H : Heap} (hP : cH ω (N0 ω) H) : va_at ω.2.1 classes (ω.1 + 111, sm_cell ω μ0 111) H := hP 111 _ (cw_get rfl)
set_option maxRecDepth 100000 in
theorem w0_112 {ω : sm_O} {H : Heap} (hP : cH ω (N0 ω) H) : va_at ω.2.1 classes (ω.1 + 112, sm_cell ω μ0 112) H := hP 112 _ (cw_get rfl)
set_option maxRecDepth 100000 in
theorem w0_113 {ω : sm_O} {H : Heap} (hP : cH ω (N0 ω) H) : va_at ω.2.1 classes (ω.1 + 113, sm_cell ω μ0 113) H := hP 113 _ (cw_get rfl)
set_option maxRecDepth 100000 in
theorem w0_114 {ω : sm_O} {H : Heap} (hP : cH ω (N0 ω) H) : va_at ω.2.1 classes (ω.1 + 114, sm_cell ω μ0 114) H := hP 114 _ (cw_get rfl)
set_option maxRecDepth 100000 in
theorem w0_115 {ω : sm_O} {H : Heap} (hP : cH ω (N0 ω) H) : va_at ω.2.1 classes (ω.1 + 115, sm_cell ω μ0 115) H := hP 115 _ (cw_get rfl)
set_option maxRecDepth 100000 in
theorem w0_116 {ω : sm_O} {H : Heap} (hP : cH ω (N0 ω) H) : va_at ω.2.1 classes (ω.1 + 116, sm_cell ω μ0 116) H := hP 116 _ (cw_get rfl)
set_option maxRecDepth 100000 in
theorem w0_117 {ω : sm_O} {H : Heap} (hP : cH ω (N0 ω) H) : va_at ω.2.1 classes (ω.1 + 117, sm_cell ω μ0 117) H := hP 117 _ (cw_get rfl)
set_option maxRecDepth 100000 in
theorem w0_118 {ω : sm_O} {H : Heap} (hP : cH ω (N0 ω) H) : va_at ω.2.1 classes (ω.1 + 118, sm_cell ω μ0 118) H := hP 118 _ (cw_get rfl)
set_option maxRecDepth 100000 in
theorem w0_119 {ω : sm_O} {H : Heap} (hP : cH ω (N0 ω) H) : va_at ω.2.1 classes (ω.1 + 119, sm_cell ω μ0 119) H := hP 119 _ (cw_get rfl)
set_option maxRecDepth 100000 in
theorem w0_120 {ω : sm_O} {H : Heap} (hP : cH ω (N0 ω) H) : va_at ω.2.1 classes (ω.1 + 120, sm_cell ω μ0 120) H := hP 120 _ (cw_get rfl)
set_option maxRecDepth 100000 in
theorem w0_121 {ω : sm_O} {H : Heap} (hP : cH ω (N0 ω) H) : va_at ω.2.1 classes (ω.1 + 121, sm_cell ω μ0 121) H := hP 121 _ (cw_get rfl)
set_option maxRecDepth 100000 in
theorem w0_122 {ω : sm_O} {H : Heap} (hP : cH ω (N0 ω) H) : va_at ω.2.1 classes (ω.1 + 122, sm_cell ω μ0 122) H := hP 122 _ (cw_get rfl)
set_option maxRecDepth 100000 in
theorem w0_123 {ω : sm_O} {H : Heap} (hP : cH ω (N0 ω) H) : va_at ω.2.1 classes (ω.1 + 123, sm_cell ω μ0 123) H := hP 123 _ (cw_get rfl)
set_option maxRecDepth 100000 in
theorem w0_124 {ω : sm_O} {H : Heap} (hP : cH ω (N0 ω) H) : va_at ω.2.1 classes (ω.1 + 124, sm_cell ω μ0 124) H := hP 124 _ (cw_get rfl)
set_option maxRecDepth 100000 in
theorem w0_125 {ω : sm_O} {H : Heap} (hP : cH ω (N0 ω) H) : va_at ω.2.1 classes (ω.1 + 125, sm_cell ω μ0 125) H := hP 125 _ (cw_get rfl)
set_option maxRecDepth 100000 in
theorem w0_126 {ω : sm_O} {H : Heap} (hP : cH ω (N0 ω) H) : va_at ω.2.1 classes (ω.1 + 126, sm_cell ω μ0 126) H := hP 126 _ (cw_get rfl)
set_option maxRecDepth 100000 in
theorem w0_127 {ω : sm_O} {H : Heap} (hP : cH ω (N0 ω) H) : va_at ω.2.1 classes (ω.1 + 127, sm_cell ω μ0 127) H := hP 127 _ (cw_get rfl)
set_option maxRecDepth 100000 in
theorem w0_128 {ω : sm_O} {H : Heap} (hP : cH ω (N0 ω) H) : va_at ω.2.1 classes (ω.1 + 128, sm_cell ω μ0 128) H := hP 128 _ (cw_get rfl)
set_option maxRecDepth 100000 in
theorem w0_129 {ω : sm_O} {H : Heap} (hP : cH ω (N0 ω) H) : va_at ω.2.1 classes (ω.1 + 129, sm_cell ω μ0 129) H := hP 129 _ (cw_get rfl)
set_option maxRecDepth 100000 in
theorem w0_130 {ω : sm_O} {H : Heap} (hP : cH ω (N0 ω) H) : va_at ω.2.1 classes (ω.1 + 130, sm_cell ω μ0 130) H := hP 130 _ (cw_get rfl)
set_option maxRecDepth 100000 in
theorem w0_131 {ω : sm_O} {H : Heap} (hP : cH ω (N0 ω) H) : va_at ω.2.1 classes (ω.1 + 131, sm_cell ω μ0 131) H := hP 131 _ (cw_get rfl)
set_option maxRecDepth 100000 in
theorem w0_132 {ω : sm_O} {H : Heap} (hP : cH ω (N0 ω) H) : va_at ω.2.1 classes (ω.1 + 132, sm_cell ω μ0 132) H := hP 132 _ (cw_get rfl)
set_option maxRecDepth 100000 in
theorem w0_133 {ω : sm_O} {H : Heap} (hP : cH ω (N0 ω) H) : va_at ω.2.1 classes (ω.1 + 133, sm_cell ω μ0 133) H := hP 133 _ (cw_get rfl)
set_option maxRecDepth 100000 in
theorem w0_134 {ω : sm_O} {H : Heap} (hP : cH ω (N0 ω) H) : va_at ω.2.1 classes (ω.1 + 134, sm_cell ω μ0 134) H := hP 134 _ (cw_get rfl)
set_option maxRecDepth 100000 in
theorem w0_135 {ω : sm_O} {H : Heap} (hP : cH ω (N0 ω) H) : va_at ω.2.1 classes (ω.1 + 135, sm_cell ω μ0 135) H := hP 135 _ (cw_get rfl)
set_option maxRecDepth 100000 in
theorem w0_136 {ω : sm_O} {H : Heap} (hP : cH ω (N0 ω) H) : va_at ω.2.1 classes (ω.1 + 136, sm_cell ω μ0 136) H := hP 136 _ (cw_get rfl)
set_option maxRecDepth 100000 in
theorem w0_137 {ω : sm_O} {H : Heap} (hP : cH ω (N0 ω) H) : va_at ω.2.1 classes (ω.1 + 137, sm_cell ω μ0 137) H := hP 137 _ (cw_get rfl)
set_option maxRecDepth 100000 in
theorem w0_138 {ω : sm_O} {H : Heap} (hP : cH ω (N0 ω) H) : va_at ω.2.1 classes (ω.1 + 138, sm_cell ω μ0 138) H := hP 138 _ (cw_get rfl)
set_option maxRecDepth 100000 in
theorem w0_139 {ω : sm_O} {H : Heap} (hP : cH ω (N0 ω) H) : va_at ω.2.1 classes (ω.1 + 139, sm_cell ω μ0 139) H := hP 139 _ (cw_get rfl)
set_option maxRecDepth 100000 in
theorem w0_140 {ω : sm_O} {H : Heap} (hP : cH ω (N0 ω) H) : va_at ω.2.1 classes (ω.1 + 140, sm_cell ω μ0 140) H := hP 140 _ (cw_get rfl)
set_option maxRecDepth 100000 in
theorem w0_141 {ω : sm_O} {H : Heap} (hP : cH ω (N0 ω) H) : va_at ω.2.1 classes (ω.1 + 141, sm_cell ω μ0 141) H := hP 141 _ (cw_get rfl)
set_option maxRecDepth 100000 in
theorem w0_142 {ω : sm_O} {H : Heap} (hP : cH ω (N0 ω) H) : va_at ω.2.1 classes (ω.1 + 142, sm_cell ω μ0 142) H := hP 142 _ (cw_get rfl)
set_option maxRecDepth 100000 in
theorem w0_143 {ω : sm_O} {H : Heap} (hP : cH ω (N0 ω) H) : va_at ω.2.1 classes (ω.1 + 143, sm_cell ω μ0 143) H := hP 143 _ (cw_get rfl)
set_option maxRecDepth 100000 in
theorem w0_144 {ω : sm_O} {H : Heap} (hP : cH ω (N0 ω) H) : va_at ω.2.1 classes (ω.1 + 144, sm_cell ω μ0 144) H := hP 144 _ (cw_get rfl)
set_option maxRecDepth 100000 in
theorem w0_145 {ω : sm_O} {H : Heap} (hP : cH ω (N0 ω) H) : va_at ω.2.1 classes (ω.1 + 145, sm_cell ω μ0 145) H := hP 145 _ (cw_get rfl)
set_option maxRecDepth 100000 in
theorem w0_146 {ω : sm_O} {H : Heap} (hP : cH ω (N0 ω) H) : va_at ω.2.1 classes (ω.1 + 146, sm_cell ω μ0 146) H := hP 146 _ (cw_get rfl)
set_option maxRecDepth 100000 in
theorem w0_147 {ω : sm_O} {H : Heap} (hP : cH ω (N0 ω) H) : va_at ω.2.1 classes (ω.1 + 147, sm_cell ω μ0 147) H := hP 147 _ (cw_get rfl)
set_option maxRecDepth 100000 in
theorem w0_148 {ω : sm_O} {H : Heap} (hP : cH ω (N0 ω) H) : va_at ω.2.1 classes (ω.1 + 148, sm_cell ω μ0 148) H := hP 148 _ (cw_get rfl)
set_option maxRecDepth 100000 in
theorem w0_149 {ω : sm_O} {H : Heap} (hP : cH ω (N0 ω) H) : va_at ω.2.1 classes (ω.1 + 149, sm_cell ω μ0 149) H := hP 149 _ (cw_get rfl)
set_option maxRecDepth 100000 in
theorem w0_150 {ω : sm_O} {H : Heap} (hP : cH ω (N0 ω) H) : va_at ω.2.1 classes (ω.1 + 150, sm_cell ω μ0 150) H := hP 150 _ (cw_get rfl)
set_option maxRecDepth 100000 in
theorem w0_151 {ω : sm_O} {H : Heap} (hP : cH ω (N0 ω) H) : va_at ω.2.1 classes (ω.1 + 151, sm_cell ω μ0 151) H := hP 151 _ (cw_get rfl)
set_option maxRecDepth 100000 in
theorem w0_152 {ω : sm_O} {H : Heap} (hP : cH ω (N0 ω) H) : va_at ω.2.1 classes (ω.1 + 152, sm_cell ω μ0 152) H := hP 152 _ (cw_get rfl)
set_option maxRecDepth 100000 in
theorem w0_153 {ω : sm_O} {H : Heap} (hP : cH ω (N0 ω) H) : va_at ω.2.1 classes (ω.1 + 153, sm_cell ω μ0 153) H := hP 153 _ (cw_get rfl)
set_option maxRecDepth 100000 in
theorem w0_154 {ω : sm_O} {H : Heap} (hP : cH ω (N0 ω) H) : va_at ω.2.1 classes (ω.1 + 154, sm_cell ω μ0 154) H := hP 154 _ (cw_get rfl)
set_option maxRecDepth 100000 in
theorem w0_155 {ω : sm_O} {H : Heap} (hP : cH ω (N0 ω) H) : va_at ω.2.1 classes (ω.1 + 155, sm_cell ω μ0 155) H := hP 155 _ (cw_get rfl)
set_option maxRecDepth 100000 in
theorem w0_156 {ω : sm_O} {H : Heap} (hP : cH ω (N0 ω) H) : va_at ω.2.1 classes (ω.1 + 156, sm_cell ω μ0 156) H := hP 156 _ (cw_get rfl)
set_option maxRecDepth 100000 in
theorem w0_157 {ω : sm_O} {H : Heap} (hP : cH ω (N0 ω) H) : va_at ω.2.1 classes (ω.1 + 157, sm_cell ω μ0 157) H := hP 157 _ (cw_get rfl)
set_option maxRecDepth 100000 in
theorem w0_158 {ω : sm_O} {H : Heap} (hP : cH ω (N0 ω) H) : va_at ω.2.1 classes (ω.1 + 158, sm_cell ω μ0 158) H := hP 158 _ (cw_get rfl)
set_option maxRecDepth 100000 in
theorem w0_159 {ω : sm_O} {H : Heap} (hP : cH ω (N0 ω) H) : va_at ω.2.1 classes (ω.1 + 159, sm_cell ω μ0 159) H := hP 159 _ (cw_get rfl)
set_option maxRecDepth 100000 in
theorem w0_160 {ω : sm_O} {H : Heap} (hP : cH ω (N0 ω) H) : va_at ω.2.1 classes (ω.1 + 160, sm_cell ω μ0 160) H := hP 160 _ (cw_get rfl)
set_option maxRecDepth 100000 in
theorem w0_161 {ω : sm_O} {H : Heap} (hP : cH ω (N0 ω) H) : va_at ω.2.1 classes (ω.1 + 161, sm_cell ω μ0 161) H := hP 161 _ (cw_get rfl)
set_option maxRecDepth 100000 in
theorem w0_162 {ω : sm_O} {H : Heap} (hP : cH ω (N0 ω) H) : va_at ω.2.1 classes (ω.1 + 162, sm_cell ω μ0 162) H := hP 162 _ (cw_get rfl)
set_option maxRecDepth 100000 in
theorem w0_163 {ω : sm_O} {H : Heap} (hP : cH ω (N0 ω) H) : va_at ω.2.1 classes (ω.1 + 163, sm_cell ω μ0 163) H := hP 163 _ (cw_get rfl)
set_option maxRecDepth 100000 in
theorem w0_164 {ω : sm_O} {H : Heap} (hP : cH ω (N0 ω) H) : va_at ω.2.1 classes (ω.1 + 164, sm_cell ω μ0 164) H := hP 164 _ (cw_get rfl)
set_option maxRecDepth 100000 in
theorem w0_165 {ω : sm_O} {H : Heap} (hP : cH ω (N0 ω) H) : va_at ω.2.1 classes (ω.1 + 165, sm_cell ω μ0 165) H := hP 165 _ (cw_get rfl)
set_option maxRecDepth 100000 in
theorem w0_166 {ω : sm_O} {H : Heap} (hP : cH ω (N0 ω) H) : va_at ω.2.1 classes (ω.1 + 166, sm_cell ω μ0 166) H := hP 166 _ (cw_get rfl)
set_option maxRecDepth 100000 in
theorem w0_167 {ω : sm_O} {H : Heap} (hP : cH ω (N0 ω) H) : va_at ω.2.1 classes (ω.1 + 167, sm_cell ω μ0 167) H := hP 167 _ (cw_get rfl)
set_option maxRecDepth 100000 in
theorem w0_168 {ω : sm_O} {H : Heap} (hP : cH ω (N0 ω) H) : va_at ω.2.1 classes (ω.1 + 168, sm_cell ω μ0 168) H := hP 168 _ (cw_get rfl)
set_option maxRecDepth 100000 in
theorem w0_169 {ω : sm_O} {H : Heap} (hP : cH ω (N0 ω) H) : va_at ω.2.1 classes (ω.1 + 169, sm_cell ω μ0 169) H := hP 169 _ (cw_get rfl)
set_option maxRecDepth 100000 in
theorem w0_170 {ω : sm_O} {H : Heap} (hP : cH ω (N0 ω) H) : va_at ω.2.1 classes (ω.1 + 170, sm_cell ω μ0 170) H := hP 170 _ (cw_get rfl)
set_option maxRecDepth 100000 in
theorem w0_171 {ω : sm_O} {H : Heap} (hP : cH ω (N0 ω) H) : va_at ω.2.1 classes (ω.1 + 171, sm_cell ω μ0 171) H := hP 171 _ (cw_get rfl)
theorem w0 {ω : sm_O} {H : Heap} (hP : cH ω (N0 ω) H) : sm_HR ω μ0 H := by
  intro k q hk
  have hlt : k < NC := by
    have := (List.getElem?_eq_some_iff.mp hk).1
    rwa [sm_ws_len] at this
  rw [sm_ws_get hlt] at hk
  cases hk
  match k, hlt with
  | 0, _ => exact w0_0 hP
  | 1, _ => exact w0_1 hP
  | 2, _ => exact w0_2 hP
  | 3, _ => exact w0_3 hP
  | 4, _ => exact w0_4 hP
  | 5, _ => exact w0_5 hP
  | 6, _ => exact w0_6 hP
  | 7, _ => exact w0_7 hP
  | 8, _ => exact w0_8 hP
  | 9, _ => exact w0_9 hP
  | 10, _ => exact w0_10 hP
  | 11, _ => exact w0_11 hP
  | 12, _ => exact w0_12 hP
  | 13, _ => exact w0_13 hP
  | 14, _ => exact w0_14 hP
  | 15, _ => exact w0_15 hP
  | 16, _ => exact w0_16 hP
  | 17, _ => exact w0_17 hP
  | 18, _ => exact w0_18 hP
  | 19, _ => exact w0_19 hP
  | 20, _ => exact w0_20 hP
  | 21, _ => exact w0_21 hP
  | 22, _ => exact w0_22 hP
  | 23, _ => exact w0_23 hP
  | 24, _ => exact w0_24 hP
  | 25, _ => exact w0_25 hP
  | 26, _ => exact w0_26 hP
  | 27, _ => exact w0_27 hP
  | 28, _ => exact w0_28 hP
  | 29, _ => exact w0_29 hP
  | 30, _ => exact w0_30 hP
  | 31, _ => exact w0_31 hP
  | 32, _ => exact w0_32 hP
  | 33, _ => exact w0_33 hP
  | 34, _ => exact w0_34 hP
  | 35, _ => exact w0_35 hP
  | 36, _ => exact w0_36 hP
  | 37, _ => exact w0_37 hP
  | 38, _ => exact w0_38 hP
  | 39, _ => exact w0_39 hP
  | 40, _ => exact w0_40 hP
  | 41, _ => exact w0_41 hP
  | 42, _ => exact w0_42 hP
  | 43, _ => exact w0_43 hP
  | 44, _ => exact w0_44 hP
  | 45, _ => exact w0_45 hP
  | 46, _ => exact w0_46 hP
  | 47, _ => exact w0_47 hP
  | 48, _ => exact w0_48 hP
  | 49, _ => exact w0_49 hP
  | 50, _ => exact w0_50 hP
  | 51, _ => exact w0_51 hP
  | 52, _ => exact w0_52 hP
  | 53, _ => exact w0_53 hP
  | 54, _ => exact w0_54 hP
  | 55, _ => exact w0_55 hP
  | 56, _ => exact w0_56 hP
  | 57, _ => exact w0_57 hP
  | 58, _ => exact w0_58 hP
  | 59, _ => exact w0_59 hP
  | 60, _ => exact w0_60 hP
  | 61, _ => exact w0_61 hP
  | 62, _ => exact w0_62 hP
  | 63, _ => exact w0_63 hP
  | 64, _ => exact w0_64 hP
  | 65, _ => exact w0_65 hP
  | 66, _ => exact w0_66 hP
  | 67, _ => exact w0_67 hP
  | 68, _ => exact w0_68 hP
  | 69, _ => exact w0_69 hP
  | 70, _ => exact w0_70 hP
  | 71, _ => exact w0_71 hP
  | 72, _ => exact w0_72 hP
  | 73, _ => exact w0_73 hP
  | 74, _ => exact w0_74 hP
  | 75, _ => exact w0_75 hP
  | 76, _ => exact w0_76 hP
  | 77, _ => exact w0_77 hP
  | 78, _ => exact w0_78 hP
  | 79, _ => exact w0_79 hP
  | 80, _ => exact w0_80 hP
  | 81, _ => exact w0_81 hP
  | 82, _ => exact w0_82 hP
  | 83, _ => exact w0_83 hP
  | 84, _ => exact w0_84 hP
  | 85, _ => exact w0_85 hP
  | 86, _ => exact w0_86 hP
  | 87, _ => exact w0_87 hP
  | 88, _ => exact w0_88 hP
  | 89, _ => exact w0_89 hP
  | 90, _ => exact w0_90 hP
  | 91, _ => exact w0_91 hP
  | 92, _ => exact w0_92 hP
  | 93, _ => exact w0_93 hP
  | 94, _ => exact w0_94 hP
  | 95, _ => exact w0_95 hP
  | 96, _ => exact w0_96 hP
  | 97, _ => exact w0_97 hP
  | 98, _ => exact w0_98 hP
  | 99, _ => exact w0_99 hP
  | 100, _ => exact w0_100 hP
  | 101, _ => exact w0_101 hP
  | 102, _ => exact w0_102 hP
  | 103, _ => exact w0_103 hP
  | 104, _ => exact w0_104 hP
  | 105, _ => exact w0_105 hP
  | 106, _ => exact w0_106 hP
  | 107, _ => exact w0_107 hP
  | 108, _ => exact w0_108 hP
  | 109, _ => exact w0_109 hP
  | 110, _ => exact w0_110 hP
  | 111, _ => exact w0_111 hP
  | 112, _ => exact w0_112 hP
  | 113, _ => exact w0_113 hP
  | 114, _ => exact w0_114 hP
  | 115, _ => exact w0_115 hP
  | 116, _ => exact w0_116 hP
  | 117, _ => exact w0_117 hP
  | 118, _ => exact w0_118 hP
  | 119, _ => exact w0_119 hP
  | 120, _ => exact w0_120 hP
  | 121, _ => exact w0_121 hP
  | 122, _ => exact w0_122 hP
  | 123, _ => exact w0_123 hP
  | 124, _ => exact w0_124 hP
  | 125, _ => exact w0_125 hP
  | 126, _ => exact w0_126 hP
  | 127, _ => exact w0_127 hP
  | 128, _ => exact w0_128 hP
  | 129, _ => exact w0_129 hP
  | 130, _ => exact w0_130 hP
  | 131, _ => exact w0_131 hP
  | 132, _ => exact w0_132 hP
  | 133, _ => exact w0_133 hP
  | 134, _ => exact w0_134 hP
  | 135, _ => exact w0_135 hP
  | 136, _ => exact w0_136 hP
  | 137, _ => exact w0_137 hP
  | 138, _ => exact w0_138 hP
  | 139, _ => exact w0_139 hP
  | 140, _ => exact w0_140 hP
  | 141, _ => exact w0_141 hP
  | 142, _ => exact w0_142 hP
  | 143, _ => exact w0_143 hP
  | 144, _ => exact w0_144 hP
  | 145, _ => exact w0_145 hP
  | 146, _ => exact w0_146 hP
  | 147, _ => exact w0_147 hP
  | 148, _ => exact w0_148 hP
  | 149, _ => exact w0_149 hP
  | 150, _ => exact w0_150 hP
  | 151, _ => exact w0_151 hP
  | 152, _ => exact w0_152 hP
  | 153, _ => exact w0_153 hP
  | 154, _ => exact w0_154 hP
  | 155, _ => exact w0_155 hP
  | 156, _ => exact w0_156 hP
  | 157, _ => exact w0_157 hP
  | 158, _ => exact w0_158 hP
  | 159, _ => exact w0_159 hP
  | 160, _ => exact w0_160 hP
  | 161, _ => exact w0_161 hP
  | 162, _ => exact w0_162 hP
  | 163, _ => exact w0_163 hP
  | 164, _ => exact w0_164 hP
  | 165, _ => exact w0_165 hP
  | 166, _ => exact w0_166 hP
  | 167, _ => exact w0_167 hP
  | 168, _ => exact w0_168 hP
  | 169, _ => exact w0_169 hP
  | 170, _ => exact w0_170 hP
  | 171, _ => exact w0_171 hP
  | k + 172, h => exact absurd h (by unfold NC; omega)
