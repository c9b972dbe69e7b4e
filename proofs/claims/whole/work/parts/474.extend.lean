/-! ===== ORDERS: the component's search ===== -/
def FrE (d : Nat) (μ μ' : sm_Mem) : Prop := (∀ k, k ≠ 0 → k ≠ 1 → μ'.1 42 k = μ.1 42 k) ∧ (∀ i, i < d → μ'.1 44 i = μ.1 44 i) ∧ (∀ a, (a < 36 ∨ 41 ≤ a) → a ≠ 42 → a ≠ 44 → a ≠ 45 → (a < 46 + 4 * (d + 1) ∨ 74 ≤ a) → μ'.1 a = μ.1 a) ∧ μ'.2 = μ.2
theorem frE_rf (d : Nat) (μ : sm_Mem) : FrE d μ μ := ⟨fun _ _ _ => rfl, fun _ _ => rfl, fun _ _ _ _ _ _ => rfl, rfl⟩
theorem frE_tr {d : Nat} {μ μ1 μ2 : sm_Mem} (h : FrE d μ μ1) (h' : FrE d μ1 μ2) : FrE d μ μ2 := ⟨fun k q1 q2 => (h'.1 k q1 q2).trans (h.1 k q1 q2), fun i q => (h'.2.1 i q).trans (h.2.1 i q), fun a q1 q2 q3 q4 q5 => (h'.2.2.1 a q1 q2 q3 q4 q5).trans (h.2.2.1 a q1 q2 q3 q4 q5), h'.2.2.2.trans h.2.2.2⟩
theorem frE_s {d : Nat} {μ μ1 : sm_Mem} (h : FrE (d + 1) μ μ1) : FrE d μ μ1 := ⟨h.1, fun i q => h.2.1 i (by omega), fun a q1 q2 q3 q4 q5 => h.2.2.1 a q1 q2 q3 q4 (by omega), h.2.2.2⟩
def Ex (w z : Nat → Nat) (b : Option ((Nat × Nat) × List Nat)) (p : List Nat) (μ : sm_Mem) : Prop := RH 14 w μ ∧ LKS w μ ∧ SH (46 + 4 * p.length) z μ ∧ BH b μ ∧ ∀ i, i < p.length → μ.1 44 i = nI (fnL p i)
theorem ex_fr {w z : Nat → Nat} {b b' : Option ((Nat × Nat) × List Nat)} {p : List Nat} {μ μ1 : sm_Mem} (hp : p.length ≤ 6) (h : Ex w z b p μ) (hf : FrE p.length μ μ1) (hb : BH b' μ1) : Ex w z b' p μ1 := by
  obtain ⟨h1, h2, h3, h4, h5⟩ := h
  refine ⟨rh_fr (fun a q1 q2 => hf.2.2.1 a (by omega) (by omega) (by omega) (by omega) (by omega)) h1, lks_fr (fun a q1 q2 => hf.2.2.1 a (by omega) (by omega) (by omega) (by omega) (by omega)) h2, sh_fr (fun a q1 q2 => hf.2.2.1 a (by omega) (by omega) (by omega) (by omega) (by omega)) h3, hb, fun i hi => by rw [hf.2.1 i hi]; exact h5 i hi⟩
theorem sc_46 {d : Nat} (h : d ≤ 6) : isSc (46 + 4 * d) ∧ lk 43 d = 46 + 4 * d := by
  have : d = 0 ∨ d = 1 ∨ d = 2 ∨ d = 3 ∨ d = 4 ∨ d = 5 ∨ d = 6 := by omega
  unfold isSc
  rcases this with rfl | rfl | rfl | rfl | rfl | rfl | rfl <;> exact ⟨by decide, rfl⟩
theorem fnL_app {p q : List Nat} {i : Nat} (h : i < p.length) : fnL (p ++ q) i = fnL p i := by
  unfold fnL
  rw [List.getD_eq_getElem?_getD, List.getD_eq_getElem?_getD, List.getElem?_append_left h]
theorem fnL_end {p : List Nat} {y : Nat} : fnL (p ++ [y]) p.length = y := by
  unfold fnL
  rw [List.getD_eq_getElem?_getD, List.getElem?_append_right (Nat.le_refl _), Nat.sub_self]
  rfl
section
variable {w : Nat → Nat} {way : Nat}
def ExtOK (w : Nat → Nat) (way k : Nat) (rc : Nat → Int32 → Int32 → Int32 → Int32 → Int32 → sm_M Unit) : Prop := ∀ (p R : List Nat) (z : Nat → Nat) (m v : Nat) (b : Option ((Nat × Nat) × List Nat)) (x : Int32) (μ : sm_Mem), R.length = k → p.length + k ≤ 6 → R.Pairwise (· < ·) → Uok w (p ++ R) → p.foldl (ordStep way) (w, 0, 0) = (z, m, v) → m ≤ p.length → v ≤ 198 * p.length → Ex w z b p μ → MH R x → T (rc 42 (nI p.length) x (nI way) (nI m) (nI v)) μ (fun _ μ' => BH (fld w way b ((permsF k R).map (fun q => p ++ q))) μ' ∧ FrE p.length μ μ')
theorem ext_0 {rc : Nat → Int32 → Int32 → Int32 → Int32 → Int32 → sm_M Unit} : ExtOK w way 0 (fnX5_extend_B rc) := by
  intro p R z m v b x μ hR hl hs hU ho hm hv hE hx
  have e_44 : ln 44 = 6 := rfl
  have e_45 : ln 45 = 6 := rfl
  have eR : R = [] := List.length_eq_zero_iff.mp hR
  subst eR
  obtain ⟨h1, h2, h3, h4, h5⟩ := hE
  unfold fnX5_extend_B
  rw [t_brT (mh_nil hx), t_bnd, t_eq (isBetter_eq (by omega) (by omega) h4)]
  have eo : ordOut w way (p ++ []) = (m, v) := by
    rw [ord_app ho]
    rfl
  have ef : fld w way b ((permsF 0 []).map (fun q => p ++ q)) = ordPick w way b (p ++ []) := rfl
  rw [ef]
  cases hb : bBt b (m, v)
  · rw [t_brT (by decide), t_ret, pick_no]
    · exact ⟨h4, frE_rf _ μ⟩
    · rw [eo]
      cases b with
      | none => cases hb
      | some y => exact ⟨y, rfl, hb⟩
  · have ep : ordPick w way b (p ++ []) = some ((m, v), p ++ []) := by
      unfold ordPick
      cases b with
      | none =>
        show some (ordOut w way (p ++ []), p ++ []) = _
        rw [eo]
      | some y =>
        show (if better (ordOut w way (p ++ [])) y.1 = true then _ else _) = _
        rw [eo, if_pos (show better (m, v) y.1 = true from hb)]
    rw [t_brF (by decide), ep, t_si, t_si, lk_42_5, lk_42_6, li_6, t_cpi (by omega) (by omega), t_ret, List.append_nil]
    refine ⟨⟨?_, ?_, by show m ≤ 10000; omega, by show v ≤ 10000; omega, fun i hi => ?_⟩, fun k q1 q2 => ?_, fun i hi => ?_, fun a q1 q2 q3 q4 q5 => ?_, rfl⟩
    · show _ = nI m
      simp (disch := omega) only [u1_ne, u2_k, u2_at]
    · show _ = nI v
      simp (disch := omega) only [u1_ne, u2_k, u2_at]
    · have hi : i < p.length := hi
      rw [← h5 i hi]
      simp (disch := omega) only [u1_ne, u1_at, u2_ne, sb_cpy0]
    · simp (disch := omega) only [u1_ne, u2_k]
    · simp (disch := omega) only [u1_ne, u2_ne]
    · simp (disch := omega) only [u1_ne, u2_ne]
/-- all orders that go on with y -/
def Gy (p R : List Nat) (k y : Nat) : List (List Nat) := (permsF k (R.erase y)).map (fun q => p ++ (y :: q))
theorem gy_all {p R : List Nat} {k : Nat} : (permsF (k + 1) R).map (fun q => p ++ q) = R.flatMap (Gy p R k) := by
  show (R.flatMap (fun x => (permsF k (R.erase x)).map (fun q => x :: q))).map (fun q => p ++ q) = _
  rw [List.map_flatMap]
  unfold Gy
  congr 1
  funext y
  rw [List.map_map]
  rfl
theorem ext_L {rc : Nat → Int32 → Int32 → Int32 → Int32 → Int32 → sm_M Unit} (hG : Good w) (hw : way < 4) {k : Nat} (hrc : ExtOK w way k rc) {p R : List Nat} {z : Nat → Nat} {m v : Nat} {x : Int32} {b : Option ((Nat × Nat) × List Nat)} {μ0 : sm_Mem} (hR : R.length = k + 1) (hl : p.length + (k + 1) ≤ 6) (hs : R.Pairwise (· < ·)) (hU : Uok w (p ++ R)) (ho : p.foldl (ordStep way) (w, 0, 0) = (z, m, v)) (hm : m ≤ p.length) (hv : v ≤ 198 * p.length) (hx : MH R x) : ∀ (L P : List Nat) (f : Nat) (y6 : Int32) (μ : sm_Mem), R = P ++ L → L.length < f → MH L y6 → Ex w z (fld w way b (P.flatMap (Gy p R k))) p μ → FrE p.length μ0 μ → T (fnX5_extend_L71 rc f 42 (nI p.length) x (nI way) (nI m) (nI v) y6) μ (fun _ μ' => BH (fld w way b (R.flatMap (Gy p R k))) μ' ∧ FrE p.length μ0 μ') := by
  have n := hG.1
  have e_43 : ln 43 = 7 := rfl
  have e_44 : ln 44 = 6 := rfl
  have nR := (List.nodup_append.mp hU.1).2.1
  have uR : ∀ a, a ∈ R → a < w 4 ∧ lead w a = true := fun a ha => ⟨(hU.2 a (List.mem_append.mpr (Or.inr ha))).1, (hU.2 a (List.mem_append.mpr (Or.inr ha))).2.1⟩
  have hz : StO w z ∧ ∀ u', u' < w 4 → lead w u' = true → u' ∉ p → uAt w u' 98 = true → uAt z u' 98 = true := by
    have := fold_ok (way := way) p w 0 0 (sto_rf hG) (by omega) (List.nodup_append.mp hU.1).1 (fun u hu => (hU.2 u (List.mem_append.mpr (Or.inl hu))).1)
    rw [ho] at this
    exact this
  have e4 := hz.1.1.1 4 (by omega)
  intro L
  induction L with
  | nil =>
    intro P f y6 μ hP hf hy hE hF
    obtain ⟨f, rfl⟩ : ∃ g, f = g + 1 := ⟨f - 1, by omega⟩
    unfold fnX5_extend_L71
    rw [t_brT (mh_nil hy), t_ret]
    rw [List.append_nil] at hP
    rw [hP] at hE ⊢
    exact ⟨hE.2.2.2.1, hF⟩
  | cons y L ih =>
    intro P f y6 μ hP hf hy hE hF
    rw [List.length_cons] at hf
    obtain ⟨f, rfl⟩ : ∃ g, f = g + 1 := ⟨f - 1, by omega⟩
    have sub : ∀ a, a ∈ y :: L → a ∈ R := fun a ha => by
      rw [hP]
      exact List.mem_append.mpr (Or.inr ha)
    have hyR := sub y (List.mem_cons_self ..)
    obtain ⟨y1, y2⟩ := uR y hyR
    have y98 := (hU.2 y (List.mem_append.mpr (Or.inr hyR))).2.2
    have ynp : y ∉ p := fun z => (List.nodup_append.mp hU.1).2.2 y z y hyR rfl
    have sL : (y :: L).Pairwise (· < ·) := by
      rw [hP] at hs
      exact (List.pairwise_append.mp hs).2.1
    obtain ⟨h1, h2, h3⟩ := mh_cons sL (fun a ha => by have := (uR a (sub a ha)).1; omega) hy
    have hP' : R = (P ++ [y]) ++ L := by
      rw [hP, List.append_assoc]
      rfl
    have flat : fld w way b ((P ++ [y]).flatMap (Gy p R k)) = fld w way (fld w way b (P.flatMap (Gy p R k))) (Gy p R k y) := by
      rw [List.flatMap_append, fld_app]
      congr 1
      rw [List.flatMap_cons, List.flatMap_nil, List.append_nil]
    have next : ∀ μ1, BH (fld w way (fld w way b (P.flatMap (Gy p R k))) (Gy p R k y)) μ1 → FrE p.length μ μ1 → T (fnX5_extend_J213 rc (fnX5_extend_L71 rc f) 42 (nI p.length) x (nI way) (nI m) (nI v) y6) μ1 (fun _ μ' => BH (fld w way b (R.flatMap (Gy p R k))) μ' ∧ FrE p.length μ0 μ') := by
      intro μ1 hb1 hf1
      unfold fnX5_extend_J213
      rw [t_nm]
      rw [← flat] at hb1
      exact ih (P ++ [y]) f _ μ1 hP' (by omega) h3 (ex_fr (by omega) hE hf1 hb1) (frE_tr hF hf1)
    obtain ⟨r, r1, r2⟩ := twin_eq hE.1 hG uR hx y1 y2
    unfold fnX5_extend_L71
    rw [t_brF h1, t_bnd, t_eq (h2 μ), t_bnd, t_eq r1]
    cases r with
    | true =>
      rw [t_brF (by decide)]
      obtain ⟨a, a1, a2, a3⟩ := r2.mp rfl
      have aP : a ∈ P := by
        rw [hP] at a2
        rcases List.mem_append.mp a2 with e | e
        · exact e
        · exfalso
          rcases List.mem_cons.mp e with e | e
          · omega
          · have := (List.pairwise_cons.mp sL).1 a e
            omega
      refine next μ ?_ (frE_rf _ μ)
      rw [fld_no]
      · exact hE.2.2.2.1
      · intro l hl'
        unfold Gy at hl'
        obtain ⟨q, hq, rfl⟩ := List.mem_map.mp hl'
        obtain ⟨q', hq', ht⟩ := twin_perm (t := tyW w) nR hR a2 hyR (show a ≠ y by omega) a3 hq
        have u1 : Uok w (p ++ (y :: q)) := uok_perm hU hR (permsF_s.mpr ⟨y, q, hyR, hq, rfl⟩)
        have u2 : Uok w (p ++ (a :: q')) := uok_perm hU hR (permsF_s.mpr ⟨a, q', a2, hq', rfl⟩)
        rw [out_eq hG u1 u2 (by rw [List.map_append, List.map_append, ht])]
        apply fld_ge
        rw [List.mem_flatMap]
        exact ⟨a, aP, List.mem_map.mpr ⟨q', hq', rfl⟩⟩
    | false =>
      rw [t_brT (by decide), lk_42_5, lk_42_4, lk_42_3, t_sai (by omega), nI_1, t_ap (by omega), t_ap (by omega), (sc_46 (show p.length + 1 ≤ 6 by omega)).2, (sc_46 (show p.length ≤ 6 by omega)).2, t_bnd]
      have hE1 : ∀ a, a ≠ 44 → (u2 μ.1 44 p.length (nI y), μ.2).1 a = μ.1 a := fun a ha => by
        show u2 μ.1 44 p.length (nI y) a = μ.1 a
        rw [u2_ne ha]
      have x44 : (u2 μ.1 44 p.length (nI y), μ.2).1 44 p.length = nI y := by
        show u2 μ.1 44 p.length (nI y) 44 p.length = nI y
        rw [u2_at]
      have x44' : ∀ i, i < p.length → (u2 μ.1 44 p.length (nI y), μ.2).1 44 i = μ.1 44 i := fun i hi => by
        show u2 μ.1 44 p.length (nI y) 44 i = μ.1 44 i
        rw [u2_k (by omega)]
      have x2 : (u2 μ.1 44 p.length (nI y), μ.2).2 = μ.2 := rfl
      revert hE1 x44 x44' x2
      generalize (u2 μ.1 44 p.length (nI y), μ.2) = μ1
      intro hE1 x44 x44' x2
      obtain ⟨E1, E2, E3, E4, E5⟩ := hE
      refine t_mono (takeFrom9 (scK_of (sc_46 (show p.length + 1 ≤ 6 by omega)).1) (scK_of (sc_46 (show p.length ≤ 6 by omega)).1) (by omega) hz.1.2.1 (sh_fr (fun a q1 q2 => hE1 a (by omega)) E3)) ?_
      rintro _ μ2 ⟨c1, c2, c3⟩
      have k2 : ∀ a, a ≠ 44 → (a < 46 + 4 * (p.length + 1) ∨ 46 + 4 * (p.length + 1) + 4 ≤ a) → μ2.1 a = μ.1 a := fun a q1 q2 => (c2 a q2).trans (hE1 a q1)
      have R2 : RH 14 w μ2 := rh_fr (fun a q1 q2 => k2 a (by omega) (by omega)) E1
      have L2 : LKS w μ2 := lks_fr (fun a q1 q2 => k2 a (by omega) (by omega)) E2
      rw [t_bnd]
      refine t_mono (send_T (sc_46 (show p.length + 1 ≤ 6 by omega)).1 (same_rh hz.1.1 hG R2) c1 (same_lks hz.1.1 hG L2) hz.1.2.1 (u := y) (by omega) hw (by rw [same_lead hz.1.1 (by omega)]; exact y2)) ?_
      have yz := hz.2 y y1 y2 ynp y98
      rw [yz, if_pos rfl]
      rintro x8 μ3 ⟨d1, d2, d3⟩
      have k3 : ∀ a, (a < 36 ∨ 41 ≤ a) → a ≠ 44 → (a < 46 + 4 * (p.length + 1) ∨ 46 + 4 * (p.length + 1) + 4 ≤ a) → μ3.1 a = μ.1 a := fun a q1 q2 q3 => (d2 a q1 q3).trans (k2 a q2 q3)
      have R3 : RH 14 w μ3 := rh_fr (fun a q1 q2 => k3 a (by omega) (by omega) (by omega)) E1
      have L3 : LKS w μ3 := lks_fr (fun a q1 q2 => k3 a (by omega) (by omega) (by omega)) E2
      have B3 : BH (fld w way b (P.flatMap (Gy p R k))) μ3 := by
        have e42 := k3 42 (by omega) (by omega) (by omega)
        have e45 := k3 45 (by omega) (by omega) (by omega)
        revert E4
        unfold BH
        rw [e42, e45]
        exact id
      have C3 : ∀ i, i < (p ++ [y]).length → μ3.1 44 i = nI (fnL (p ++ [y]) i) := by
        intro i hi
        rw [List.length_append, List.length_cons, List.length_nil] at hi
        rw [d2 44 (by omega) (by omega), c2 44 (by omega)]
        by_cases e : i = p.length
        · rw [e, x44, fnL_end]
        · rw [x44' i (by omega), E5 i (by omega), fnL_app (by omega)]
      have F3 : FrE p.length μ μ3 := by
        refine ⟨fun j _ _ => by rw [k3 42 (by omega) (by omega) (by omega)], fun i hi => ?_, fun a q1 q2 q3 q4 q5 => k3 a q1 q3 (by omega), by rw [d3, c3, x2]⟩
        rw [d2 44 (by omega) (by omega), c2 44 (by omega), x44' i hi]
      have lp : (p ++ [y]).length = p.length + 1 := by rw [List.length_append]; rfl
      have lR : (R.erase y).length = k := by
        rw [List.length_erase_of_mem hyR]
        omega
      have U3 : Uok w ((p ++ [y]) ++ R.erase y) := by
        obtain ⟨u1, u2⟩ := hU
        have a := List.nodup_append.mp u1
        rw [List.append_assoc]
        refine ⟨List.nodup_append.mpr ⟨a.1, List.nodup_cons.mpr ⟨fun q => ((nR.mem_erase_iff).mp q).1 rfl, nR.erase y⟩, fun s hs t ht => ?_⟩, fun u hu => ?_⟩
        · rcases List.mem_cons.mp ht with e | e
          · rw [e]
            exact a.2.2 s hs y hyR
          · exact a.2.2 s hs t (List.mem_of_mem_erase e)
        · rcases List.mem_append.mp hu with e | e
          · exact u2 u (List.mem_append.mpr (Or.inl e))
          · rcases List.mem_cons.mp e with e | e
            · rw [e]
              exact u2 y (List.mem_append.mpr (Or.inr hyR))
            · exact u2 u (List.mem_append.mpr (Or.inr (List.mem_of_mem_erase e)))
      have v198 := uSum3_le (k := 2) hG y1 (by omega)
      have go : ∀ (z' : Nat → Nat) (m' v' : Nat), ordStep way (z, m, v) y = (z', m', v') → SH (46 + 4 * (p.length + 1)) z' μ3 → m' ≤ p.length + 1 → v' ≤ 198 * (p.length + 1) → T (m_bnd (rc 42 (nI (p.length + 1)) (x &&& (((1 : Int32) <<< (nI y &&& 31)) ^^^ (-1 : Int32))) (nI way) (nI m') (nI v')) fun _ => fnX5_extend_J213 rc (fnX5_extend_L71 rc f) 42 (nI p.length) x (nI way) (nI m) (nI v) y6) μ3 (fun _ μ' => BH (fld w way b (R.flatMap (Gy p R k))) μ' ∧ FrE p.length μ0 μ') := by
        intro z' m' v' hst hS hm' hv'
        have := hrc (p ++ [y]) (R.erase y) z' m' v' (fld w way b (P.flatMap (Gy p R k))) (x &&& (((1 : Int32) <<< (nI y &&& 31)) ^^^ (-1 : Int32))) μ3 lR (by rw [lp]; omega) (hs.sublist List.erase_sublist) U3 (by rw [List.foldl_append, ho]; exact hst) (by rw [lp]; exact hm') (by rw [lp]; exact hv') ⟨R3, L3, by rw [lp]; exact hS, B3, C3⟩ (mh_erase nR (by omega) hx)
        rw [lp] at this
        rw [t_bnd]
        refine t_mono this ?_
        rintro _ μ4 ⟨g1, g2⟩
        refine next μ4 ?_ (frE_tr F3 (frE_s g2))
        have e : (permsF k (R.erase y)).map (fun q => (p ++ [y]) ++ q) = Gy p R k y := by
          unfold Gy
          apply List.map_congr_left
          intro q _
          rw [List.append_assoc]
          rfl
        rw [e] at g1
        exact g1
      have zero : ∀ a : Nat, nI a + (0 : Int32) = nI a := fun a => by
        rw [li_0, nI_add, Nat.add_zero]
      cases hgo : goW z y way 98 with
      | none =>
        rw [hgo] at d1
        have hst : ordStep way (z, m, v) y = (z, m, v) := by
          unfold ordStep
          rw [hgo]
        rw [d1.1, t_brT (by decide)]
        unfold fnX5_extend_J142
        rw [t_brT rfl]
        unfold fnX5_extend_J180 fnX5_extend_J181
        rw [t_brT rfl]
        unfold fnX5_extend_J209
        rw [zero, zero, nI_1]
        exact go z m v hst d1.2 (by omega) (by omega)
      | some g =>
        rw [hgo] at d1
        obtain ⟨g1, g2, g3, g4, g5⟩ := d1
        have hst : ordStep way (z, m, v) y = (g.1, m + (if 0 < uSum w 3 y then 1 else 0), v + uSum w 2 y) := by
          unfold ordStep
          rw [hgo]
          show (_, m + (if 0 < uSum z 3 y then 1 else 0), v + uSum z 2 y) = _
          rw [same_sum hz.1.1 hG y1 (by omega), same_sum hz.1.1 hG y1 (by omega)]
        obtain ⟨mu, p1, p2⟩ := worthU R3 hG y1 y2
        have fin : ∀ d : Nat, d ≤ 1 → d = (if 0 < uSum w 3 y then 1 else 0) → T (fnX5_extend_J181 rc (fnX5_extend_L71 rc f) 42 (nI p.length) x (nI way) (nI m) (nI v) y6 (nI y) (1 : Int32) (nI d) (nI m) (nI way) (x &&& (((1 : Int32) <<< (nI y &&& 31)) ^^^ (-1 : Int32))) (nI p.length + (1 : Int32)) 42) μ3 (fun _ μ' => BH (fld w way b (R.flatMap (Gy p R k))) μ' ∧ FrE p.length μ0 μ') := by
          intro d d1 hd
          unfold fnX5_extend_J181
          rw [t_brF (by decide), lk_42_2, t_bnd, t_eq p1, t_bnd, t_eq p2]
          unfold fnX5_extend_J209
          rw [nI_add, nI_add, nI_1]
          refine go g.1 (m + d) (v + uSum w 2 y) (by rw [hst, hd]) g3 (by omega) (by omega)
        rw [g1, t_brF (nI_pos (by omega))]
        unfold fnX5_extend_J142
        rw [t_brF (by decide), lk_42_2, t_bnd, t_eq (mustGo7 R3 hG y1)]
        by_cases c3 : 0 < uSum w 3 y
        · rw [decide_eq_true c3, t_brF (by decide)]
          exact fin 1 (by omega) (by rw [if_pos c3])
        · rw [decide_eq_false c3, t_brT (by decide)]
          unfold fnX5_extend_J180
          exact fin 0 (by omega) (by rw [if_neg c3])
theorem ext_s {rc : Nat → Int32 → Int32 → Int32 → Int32 → Int32 → sm_M Unit} (hG : Good w) (hw : way < 4) {k : Nat} (hrc : ExtOK w way k rc) : ExtOK w way (k + 1) (fnX5_extend_B rc) := by
  intro p R z m v b x μ hR hl hs hU ho hm hv hE hx
  have n := hG.1
  have e_43 : ln 43 = 7 := rfl
  have uR : ∀ a, a ∈ R → a < w 4 ∧ lead w a = true := fun a ha => ⟨(hU.2 a (List.mem_append.mpr (Or.inr ha))).1, (hU.2 a (List.mem_append.mpr (Or.inr ha))).2.1⟩
  have hz : StO w z := by
    have := (fold_ok (way := way) p w 0 0 (sto_rf hG) (by omega) (List.nodup_append.mp hU.1).1 (fun u hu => (hU.2 u (List.mem_append.mpr (Or.inl hu))).1)).1
    rw [ho] at this
    exact this
  have hx0 : ¬ x = 0 := by
    cases R with
    | nil => cases hR
    | cons y L => exact (mh_cons hs (fun a ha => by have := (uR a ha).1; omega) hx).1
  obtain ⟨E1, E2, E3, E4, E5⟩ := id hE
  unfold fnX5_extend_B
  rw [t_brF hx0, t_brF (show ¬ (6 : Int32) ≤ nI p.length from nI_ge (b := 6) (by omega) (by omega)), lk_42_4, t_ap (by omega), (sc_46 (show p.length ≤ 6 by omega)).2, t_bnd]
  unfold fnX5_couldBeBetter
  rw [t_eq (better_L E4 (sc_46 (show p.length ≤ 6 by omega)).1 E1 hG hz.1 E3 E2 hz.2.1 R x m v 4096 (by omega) hs uR hx (by omega) (by omega)), gy_all]
  cases hb : bBt b (m + (R.map (mB z)).sum, v + (R.map (vB z)).sum)
  · rw [t_brT (by decide), t_ret, ← gy_all, fld_no _ _ (bound_no hG hU hR ho hz hb)]
    exact ⟨E4, frE_rf _ μ⟩
  · rw [t_brF (by decide)]
    exact ext_L hG hw hrc (b := b) (μ0 := μ) hR hl hs hU ho hm hv hx R [] 4096 x μ rfl (by omega) hx hE (frE_rf _ μ)
theorem ext_T (hG : Good w) (hw : way < 4) : ∀ (k F : Nat), k < F → ExtOK w way k (fnX5_extend F) := by
  intro k
  induction k with
  | zero =>
    intro F hF
    obtain ⟨F, rfl⟩ : ∃ g, F = g + 1 := ⟨F - 1, by omega⟩
    exact ext_0
  | succ k ih =>
    intro F hF
    obtain ⟨F, rfl⟩ : ∃ g, F = g + 1 := ⟨F - 1, by omega⟩
    exact ext_s hG hw (ih F (by omega))
end
