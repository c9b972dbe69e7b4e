/-! ===== ORDERS: the reference goes through all ===== -/
theorem lx_cg {n : Nat} {f f' g g' : Nat → Nat} (h1 : ∀ k, k < n → f k = f' k) (h2 : ∀ k, k < n → g k = g' k) (h : lxG n f g) : lxG n f' g' := by
  obtain ⟨d, d1, d2, d3⟩ := h
  exact ⟨d, d1, by rw [← h1 d d1, ← h2 d d1]; exact d2, fun k hk => by rw [← h1 k (by omega), ← h2 k (by omega)]; exact d3 k hk⟩
section
variable {w : Nat → Nat} {way : Nat} {μ0 : sm_Mem}
/-- one order tried -/
theorem finds40b (hG : Good w) (hw : way < 4) (hn : (waiting w).length ≤ 6) {g : Nat → Nat} {b : Option ((Nat × Nat) × List Nat)} {f : Nat} {Q : Unit → sm_Mem → Prop} (hP : PO (waiting w) g) (ex : ∀ μ', WH 147 w μ' → RO (waiting w) g (ordPick w way b (lsF (waiting w).length g)) 0 μ0 μ' → T (fnX12_findsOrder_J160 (fnX12_findsOrder_L40 f) 146 (nI way)) μ' Q) {μ : sm_Mem} (hW : WH 147 w μ) (hR : RO (waiting w) g b 0 μ0 μ) : T (fnX12_findsOrder_L40 (f + 1) 146 (nI way) (1 : Int32)) μ Q := by
  unfold fnX12_findsOrder_L40
  rw [t_brF (by decide), t_bnd]
  refine t_mono (thinks_T hR.1) ?_
  rintro _ μ1 ⟨a1, a2, a3, a4, a5⟩
  have R1 : RO (waiting w) g b 1 μ0 μ1 := ro_fr hR a2 (a3 27 (by omega)) (a3 30 (by omega)) (a3 31 (by omega)) (a4 159 (by omega) (by omega)) (a4 160 (by omega) (by omega)) ⟨fun a q1 q2 q3 => a4 a (by omega) q1, fun k _ q _ _ _ => a3 k q, a5⟩
  have W1 : WH 147 w μ1 := wh_fr (fun i _ => by rw [a4 147 (by omega) (by omega)]) hW
  have S1 : ∀ i, i < 241 → μ1.1 157 i = eI i (w i) := fun i hi => by rw [a1 i hi]; exact hW i hi
  have H : ∀ μ2 : sm_Mem, μ2.1 146 25 = nI 0 → μ2.1 146 23 = nI 0 → (∀ k, (k < 22 ∨ 26 ≤ k) → μ2.1 146 k = μ1.1 146 k) → (∀ a, a ≠ 146 → μ2.1 a = μ1.1 a) → μ2.2 = μ1.2 → T (fnX12_findsOrder_L54 (fnX12_findsOrder_L40 f) 4096 146 (nI way) (0 : Int32)) μ2 Q := by
    intro μ2 b25 b23 bk ba b2
    have R2 : RO (waiting w) g b 1 μ0 μ2 := ro_fr R1 ((bk 21 (by omega)).trans R1.1) (bk 27 (by omega)) (bk 30 (by omega)) (bk 31 (by omega)) (ba 159 (by omega)) (ba 160 (by omega)) ⟨fun a q1 _ _ => ba a q1, fun k _ _ q _ _ => bk k q, b2⟩
    exact finds54 (W := waiting w) (g := g) (b := b) (μ0 := μ0) hG hw hn hP (fun u hu => (wt_mem.mp hu).1) ex 4096 0 μ2 (by omega) (by omega) (wh_fr (fun i _ => by rw [ba 147 (by omega)]) W1) (fun i hi => by rw [ba 157 (by omega)]; exact S1 i hi) R2 b25 b23
  unfold fnX12_clearsOver
  rw [t_bnd, t_si, t_si, t_si, t_si, t_ret]
  exact H _ (by simp (disch := omega) only [u2_ne, u2_a, u2_k, u2_at]; rfl) (by simp (disch := omega) only [u2_ne, u2_a, u2_k, u2_at]; rfl) (fun k hk => (by simp (disch := omega) only [u2_ne, u2_a, u2_k, u2_at])) (fun a ha => (by simp (disch := omega) only [u2_ne, u2_a, u2_k, u2_at])) rfl
theorem po_ls {W : List Nat} {g : Nat → Nat} (h : PO W (fnL (lsF W.length g))) : PO W g := by
  obtain ⟨a1, a2, a3⟩ := h
  exact ⟨fun i hi => by rw [← lsF_at (f := g) hi]; exact a1 i hi, fun i j hi hj he => a2 i j hi hj (by rw [lsF_at hi, lsF_at hj]; exact he), fun a ha => by obtain ⟨i, i1, i2⟩ := a3 a ha; exact ⟨i, i1, by rw [← lsF_at (f := g) i1]; exact i2⟩⟩
def Fin12 (w : Nat → Nat) (way : Nat) (μ0 μ : sm_Mem) : Prop := WH 147 w μ ∧ μ.1 146 21 = nI 0 ∧ μ.1 146 27 = nI (waiting w).length ∧ BR (ordBest w way) μ ∧ FrOd μ0 μ
theorem finds40 (hG : Good w) (hw : way < 4) (hn : (waiting w).length ≤ 6) : ∀ (post pre : List (List Nat)) (g : Nat → Nat) (f : Nat) (μ : sm_Mem), permsF (waiting w).length (waiting w) = pre ++ lsF (waiting w).length g :: post → post.length + 1 < f → WH 147 w μ → RO (waiting w) g (fld w way none pre) 0 μ0 μ → T (fnX12_findsOrder_L40 f 146 (nI way) (1 : Int32)) μ (fun _ μ' => Fin12 w way μ0 μ') := by
  have n8 := hG.1
  have sorted := perm_sorted (waiting w).length (waiting w) wt_sorted rfl
  have inP : ∀ q, PO (waiting w) q → lsF (waiting w).length q ∈ permsF (waiting w).length (waiting w) := fun q hq => PO_perm _ _ q wt_nodup rfl hq
  intro post
  induction post with
  | nil =>
    intro pre g f μ hp hf hW hR
    have hP : PO (waiting w) g := po_ls (perm_PO _ _ (lsF (waiting w).length g) wt_nodup rfl (by rw [hp]; simp)).2
    have hv : ∀ i, i < (waiting w).length → g i < 1000 := fun i hi => by
      have := (wt_mem.mp (hP.1 i hi)).1
      omega
    obtain ⟨f, rfl⟩ : ∃ h, f = h + 1 := ⟨f - 1, by omega⟩
    refine finds40b hG hw hn hP ?_ hW hR
    intro μ3 W3 R3
    have eb : ordPick w way (fld w way none pre) (lsF (waiting w).length g) = ordBest w way := by
      show _ = fld w way none (permsF (waiting w).length (waiting w))
      rw [hp, fld_app]
      rfl
    unfold fnX12_findsOrder_J160
    rw [t_bnd]
    refine t_mono (next_T hn hv hP R3.2.2.1 R3.2.1) ?_
    rintro r μ4 ⟨c1, c2 | c2⟩
    · exfalso
      obtain ⟨_, g', h1, h2, h3, h4⟩ := c2
      have hm := inP g' h2
      rw [hp] at hm sorted
      have sp := List.pairwise_append.mp sorted
      rcases List.mem_append.mp hm with e | e
      · have := sp.2.2 _ e (lsF (waiting w).length g) (List.mem_cons_self ..)
        exact lx_irr (lx_tr h3 (lx_cg (fun k hk => lsF_at hk) (fun k hk => lsF_at hk) this))
      · rcases List.mem_cons.mp e with e | e
        · refine lx_irr (n := (waiting w).length) (f := g) (lx_cg (fun _ _ => rfl) (fun k hk => ?_) h3)
          rw [← lsF_at (f := g') hk, e, lsF_at hk]
        · cases e
    · obtain ⟨rfl, _⟩ := c2
      obtain ⟨f, rfl⟩ : ∃ h, f = h + 1 := ⟨f - 1, by omega⟩
      unfold fnX12_findsOrder_L40
      rw [t_brT (by decide), t_ret]
      rw [eb] at R3
      obtain ⟨r1, r2, r3, r4, r5⟩ := R3
      have e146 := c1.1 146 (by omega)
      refine ⟨wh_fr (fun i _ => by rw [c1.1 147 (by omega)]) W3, by rw [e146]; exact r1, by rw [e146]; exact r2, ?_, frOd_tr r5 ⟨fun a _ _ q => c1.1 a (by omega), fun k _ _ _ _ _ => by rw [e146], c1.2⟩⟩
      revert r4
      unfold BR
      rw [e146, c1.1 160 (by omega)]
      exact id
  | cons h post ih =>
    intro pre g f μ hp hf hW hR
    rw [List.length_cons] at hf
    have hP : PO (waiting w) g := po_ls (perm_PO _ _ (lsF (waiting w).length g) wt_nodup rfl (by rw [hp]; simp)).2
    have hh := perm_PO _ _ h wt_nodup rfl (show h ∈ permsF (waiting w).length (waiting w) by rw [hp]; simp)
    have hv : ∀ i, i < (waiting w).length → g i < 1000 := fun i hi => by
      have := (wt_mem.mp (hP.1 i hi)).1
      omega
    obtain ⟨f, rfl⟩ : ∃ h, f = h + 1 := ⟨f - 1, by omega⟩
    refine finds40b hG hw hn hP ?_ hW hR
    intro μ3 W3 R3
    have eb : ordPick w way (fld w way none pre) (lsF (waiting w).length g) = fld w way none (pre ++ [lsF (waiting w).length g]) := by
      rw [fld_app]
      rfl
    rw [eb] at R3
    unfold fnX12_findsOrder_J160
    rw [t_bnd]
    have sp := List.pairwise_append.mp (by rw [hp] at sorted; exact sorted)
    have sc := List.pairwise_cons.mp sp.2.1
    have sh := List.pairwise_cons.mp sc.2
    have lgh : lxG (waiting w).length g (fnL h) := lx_cg (fun k hk => lsF_at hk) (fun _ _ => rfl) (sc.1 h (List.mem_cons_self ..))
    refine t_mono (next_T hn hv hP R3.2.2.1 R3.2.1) ?_
    rintro r μ4 ⟨c1, c2 | c2⟩
    · obtain ⟨rfl, g', h1, h2, h3, h4⟩ := c2
      have hm := inP g' h2
      rw [hp] at hm
      have eh : h = lsF (waiting w).length g' := by
        have inpost : lsF (waiting w).length g' ∈ h :: post := by
          rcases List.mem_append.mp hm with e | e
          · exfalso
            have := sp.2.2 _ e (lsF (waiting w).length g) (List.mem_cons_self ..)
            exact lx_irr (lx_tr h3 (lx_cg (fun k hk => lsF_at hk) (fun k hk => lsF_at hk) this))
          · rcases List.mem_cons.mp e with e | e
            · exfalso
              refine lx_irr (n := (waiting w).length) (f := g) (lx_cg (fun _ _ => rfl) (fun k hk => ?_) h3)
              rw [← lsF_at (f := g') hk, e, lsF_at hk]
            · exact e
        rcases List.mem_cons.mp inpost with e | e
        · exact e.symm
        · rcases h4 (fnL h) hh.2 lgh with z | z
          · apply fnL_ext
            · rw [lsF_len, hh.1]
            · intro i hi
              rw [hh.1] at hi
              rw [lsF_at hi]
              exact (z i hi).symm
          · exfalso
            have := sh.1 _ e
            exact lx_irr (lx_tr z (lx_cg (fun _ _ => rfl) (fun k hk => lsF_at hk) this))
      obtain ⟨r1, r2, r3, r4, r5⟩ := R3
      have e146 := c1.1 146 (by omega)
      refine ih (pre ++ [lsF (waiting w).length g]) g' f μ4 ?_ (by omega) (wh_fr (fun i _ => by rw [c1.1 147 (by omega)]) W3) ⟨by rw [e146]; exact r1, by rw [e146]; exact r2, h1, ?_, frOd_tr r5 ⟨fun a _ _ q => c1.1 a (by omega), fun k _ _ _ _ _ => by rw [e146], c1.2⟩⟩
      · rw [hp, ← eh, List.append_assoc]
        rfl
      · revert r4
        unfold BR
        rw [e146, c1.1 160 (by omega)]
        exact id
    · exfalso
      exact c2.2 (fnL h) hh.2 lgh
theorem finds2 (hG : Good w) (hw : way < 4) (hn : (waiting w).length ≤ 6) : ∀ (f t : Nat) (μ : sm_Mem), (waiting w).length - t < f → t ≤ (waiting w).length → WH 147 w μ → μ.1 146 21 = nI 0 → μ.1 146 27 = nI (waiting w).length → (∀ i, i < (waiting w).length → μ.1 158 i = nI (fnL (waiting w) i)) → (∀ i, i < t → μ.1 159 i = nI (fnL (waiting w) i)) → FrOd μ0 μ → T (fnX12_findsOrder_L2 f 146 (nI way) (nI t)) μ (fun _ μ' => Fin12 w way μ0 μ') := by
  have e_158 : ln 158 = 8 := rfl
  have e_159 : ln 159 = 8 := rfl
  intro f
  induction f with
  | zero => intro t μ h; omega
  | succ f ih =>
    intro t μ hf ht hW h21 h27 h158 h159 hF
    unfold fnX12_findsOrder_L2
    rw [t_gi, h27]
    by_cases c : t = (waiting w).length
    · rw [t_brT (nI_le (by omega) (by omega))]
      unfold fnX12_findsOrder_J28
      rw [t_si, t_si]
      have H : ∀ μ1 : sm_Mem, μ1.1 146 31 = mI 1 → μ1.1 146 30 = 0 → (∀ k, k ≠ 30 → k ≠ 31 → μ1.1 146 k = μ.1 146 k) → (∀ a, a ≠ 146 → μ1.1 a = μ.1 a) → μ1.2 = μ.2 → T (fnX12_findsOrder_L40 4096 146 (nI way) (1 : Int32)) μ1 (fun _ μ' => Fin12 w way μ0 μ') := by
        intro μ1 b1 b2 b3 b4 b5
        have PW : PO (waiting w) (fnL (waiting w)) := by
          refine ⟨fun i hi => fnL_mem hi, fun i j hi hj he => ?_, fun a ha => ?_⟩
          · have key : ∀ a b, a < b → b < (waiting w).length → fnL (waiting w) a < fnL (waiting w) b := by
              intro a b hab hb
              have := List.pairwise_iff_getElem.mp (wt_sorted (w := w)) a b (by omega) hb hab
              unfold fnL
              rw [List.getD_eq_getElem?_getD, List.getD_eq_getElem?_getD, List.getElem?_eq_getElem (show a < (waiting w).length by omega), List.getElem?_eq_getElem hb]
              exact this
            rcases Nat.lt_trichotomy i j with q | q | q
            · have := key i j q hj
              omega
            · exact q
            · have := key j i q hi
              omega
          · obtain ⟨i, i1, i2⟩ := List.getElem_of_mem ha
            refine ⟨i, i1, ?_⟩
            unfold fnL
            rw [List.getD_eq_getElem?_getD, List.getElem?_eq_getElem i1]
            exact i2
        have hne := PO_perm _ _ _ wt_nodup rfl PW
        -- the first order of all is the row itself
        have first : ∃ post, permsF (waiting w).length (waiting w) = [] ++ lsF (waiting w).length (fnL (waiting w)) :: post := by
          have sorted := perm_sorted (waiting w).length (waiting w) wt_sorted rfl
          cases hpf : permsF (waiting w).length (waiting w) with
          | nil =>
            rw [hpf] at hne
            cases hne
          | cons x xs =>
            refine ⟨xs, ?_⟩
            rw [hpf] at hne sorted
            rcases List.mem_cons.mp hne with e | e
            · rw [e]
              rfl
            · exfalso
              have hx := perm_PO _ _ x wt_nodup rfl (show x ∈ permsF (waiting w).length (waiting w) by rw [hpf]; exact List.mem_cons_self ..)
              obtain ⟨d, d1, d2, d3⟩ := lx_cg (fun _ _ => rfl) (fun k hk => lsF_at hk) ((List.pairwise_cons.mp sorted).1 _ e)
              have d2 : fnL x d < fnL (waiting w) d := d2
              obtain ⟨k, k1, k2, k3⟩ := PO_later PW hx.2 d1 (fun k hk => (d3 k hk).symm)
              have key : ∀ a b, a < b → b < (waiting w).length → fnL (waiting w) a < fnL (waiting w) b := by
                intro a b hab hb
                have := List.pairwise_iff_getElem.mp (wt_sorted (w := w)) a b (by omega) hb hab
                unfold fnL
                rw [List.getD_eq_getElem?_getD, List.getD_eq_getElem?_getD, List.getElem?_eq_getElem (show a < (waiting w).length by omega), List.getElem?_eq_getElem hb]
                exact this
              by_cases c : k = d
              · rw [c] at k3
                omega
              · have := key d k (by omega) k2
                omega
        obtain ⟨post, hpost⟩ := first
        have hlen : post.length + 1 < 4096 := by
          have h1 := perm_len (waiting w).length (waiting w) rfl
          have h2 := facN_le hn
          rw [hpost, List.nil_append, List.length_cons] at h1
          omega
        refine finds40 hG hw hn post [] (fnL (waiting w)) 4096 μ1 hpost hlen (wh_fr (fun i _ => by rw [b4 147 (by omega)]) hW) ⟨by rw [b3 21 (by omega) (by omega)]; exact h21, by rw [b3 27 (by omega) (by omega)]; exact h27, fun i hi => ?_, ⟨b1, b2⟩, frOd_tr hF ⟨fun a q1 _ _ => b4 a q1, fun k _ _ _ q4 q5 => b3 k q4 q5, b5⟩⟩
        rw [b4 159 (by omega)]
        exact h159 i (by omega)
      exact H _ (by simp (disch := omega) only [u2_ne, u2_a, u2_k, u2_at]; rfl) (by simp (disch := omega) only [u2_ne, u2_a, u2_k, u2_at]) (fun k q1 q2 => (by simp (disch := omega) only [u2_ne, u2_a, u2_k, u2_at])) (fun a ha => (by simp (disch := omega) only [u2_ne, u2_a, u2_k, u2_at])) rfl
    · rw [t_brF (nI_ge (by omega) (by omega)), lk_146_26, lk_146_28, t_ai (by omega), t_sai (by omega), nI_1]
      refine ih (t + 1) _ (by omega) (by omega) (wh_fr (μ := μ) (fun i _ => (by simp (disch := omega) only [u2_ne, u2_a, u2_k, u2_at])) hW) (by rw [← h21]; simp (disch := omega) only [u2_ne, u2_a, u2_k, u2_at]) (by rw [← h27]; simp (disch := omega) only [u2_ne, u2_a, u2_k, u2_at]) (fun i hi => by rw [← h158 i hi]; simp (disch := omega) only [u2_ne, u2_a, u2_k, u2_at]) (fun i hi => ?_) ?_
      · show u2 μ.1 159 t (μ.1 158 t) 159 i = _
        by_cases d : i = t
        · rw [d, u2_at, h158 t (by omega)]
        · rw [u2_k d, h159 i (by omega)]
      · refine frOd_tr hF ⟨fun a q1 q2 q3 => ?_, fun k _ _ _ _ _ => ?_, rfl⟩
        · show u2 μ.1 159 t (μ.1 158 t) a = _
          rw [u2_ne (show a ≠ 159 by omega)]
        · show u2 μ.1 159 t (μ.1 158 t) 146 k = _
          rw [u2_ne (show 146 ≠ 159 by omega)]
/-! who waits -/
def FilP (w : Nat → Nat) (u : Nat) (μ0 μ : sm_Mem) : Prop := μ.1 146 27 = nI ((List.range u).filter (wtP w)).length ∧ (∀ i, i < ((List.range u).filter (wtP w)).length → μ.1 158 i = nI (fnL ((List.range u).filter (wtP w)) i)) ∧ (∀ a, a ≠ 146 → a ≠ 158 → μ.1 a = μ0.1 a) ∧ (∀ k, k ≠ 27 → μ.1 146 k = μ0.1 146 k) ∧ μ.2 = μ0.2
theorem fill_LO (hG : Good w) (hW : WH 147 w μ0) : ∀ (f u : Nat) (μ : sm_Mem), w 4 - u < f → u ≤ w 4 → FilP w u μ0 μ → T (fnX12_fillWaiting_L7 f 146 (nI u)) μ (fun _ μ' => FilP w (w 4) μ0 μ') := by
  have n8 := hG.1
  have e_158 : ln 158 = 8 := rfl
  intro f
  induction f with
  | zero => intro u μ h; omega
  | succ f ih =>
    intro u μ hf hu hP
    obtain ⟨p1, p2, p3, p4, p5⟩ := id hP
    have hW1 : WH 147 w μ := wh_fr (fun i _ => by rw [p3 147 (by omega) (by omega)]) hW
    have hlen : ((List.range u).filter (wtP w)).length ≤ u := by
      rw [filt_len]
      exact fb_ct_le _ _
    unfold fnX12_fillWaiting_L7
    rw [t_bnd, t_eq (units12 hW1)]
    by_cases c : u = w 4
    · subst c
      rw [t_brT (nI_le (Nat.le_refl _) (by omega)), t_ret]
      exact hP
    · rw [t_brF (nI_ge (by omega) (by omega)), li_98, t_bnd, t_eq (isAt12 hW1 hG (show u < w 4 by omega) (by omega))]
      have es := filt_s (P := wtP w) u
      cases hq : (lead w u && uAt w u 98)
      · rw [if_neg (by unfold wtP; rw [hq]; decide), List.append_nil] at es
        rw [t_brT (by decide)]
        unfold fnX12_fillWaiting_J48
        rw [nI_1]
        refine ih (u + 1) μ (by omega) (by omega) ?_
        unfold FilP
        rw [es]
        exact hP
      · rw [if_pos (by unfold wtP; exact hq)] at es
        rw [t_brF (by decide), t_gi, p1, lk_146_26, t_sai (by omega), t_gi]
        have x27 : (u2 μ.1 158 ((List.range u).filter (wtP w)).length (nI u), μ.2).1 146 27 = nI ((List.range u).filter (wtP w)).length := by
          rw [← p1]
          simp (disch := omega) only [u2_ne, u2_a, u2_k, u2_at]
        rw [x27, nI_1, t_si]
        unfold fnX12_fillWaiting_J48
        rw [nI_1]
        refine ih (u + 1) _ (by omega) (by omega) ⟨?_, fun i hi => ?_, fun a q1 q2 => ?_, fun k q => ?_, p5⟩
        · rw [es, List.length_append]
          simp (disch := omega) only [u2_ne, u2_a, u2_k, u2_at]
          rfl
        · rw [es] at hi ⊢
          rw [List.length_append, List.length_cons, List.length_nil] at hi
          by_cases d : i = ((List.range u).filter (wtP w)).length
          · rw [d, fnL_end]
            simp (disch := omega) only [u2_ne, u2_a, u2_k, u2_at]
          · rw [fnL_app (by omega), ← p2 i (by omega)]
            simp (disch := omega) only [u2_ne, u2_a, u2_k, u2_at]
        · rw [← p3 a q1 q2]
          simp (disch := omega) only [u2_ne, u2_a, u2_k, u2_at]
        · rw [← p4 k q]
          simp (disch := omega) only [u2_ne, u2_a, u2_k, u2_at]
theorem fillW_T (hG : Good w) {μ : sm_Mem} (hW : WH 147 w μ) : T (fnX12_fillWaiting 146) μ (fun _ μ' => FilP w (w 4) μ μ') := by
  have n8 := hG.1
  unfold fnX12_fillWaiting
  rw [t_si]
  refine fill_LO hG hW 4096 0 _ (by omega) (by omega) ⟨?_, fun i hi => ?_, fun a q1 q2 => ?_, fun k q => ?_, rfl⟩
  · simp (disch := omega) only [u2_ne, u2_a, u2_k, u2_at]
    rfl
  · cases hi
  · simp (disch := omega) only [u2_ne, u2_a, u2_k, u2_at]
  · simp (disch := omega) only [u2_ne, u2_a, u2_k, u2_at]
end
